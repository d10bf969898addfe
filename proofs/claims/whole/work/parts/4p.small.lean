/-! small calls: texts fed, rules, counts -/
theorem lay_cong : ∀ (l : List Int32) (f g : Nat → Int32) (n : Nat), (∀ i, i < n → f i = g i) → ∀ i, i < n + l.length → lay f n l i = lay g n l i
  | [], f, g, n, h, i, hi => h i (by simpa using hi)
  | b :: l, f, g, n, h, i, hi => by
    refine lay_cong l (upd f n b) (upd g n b) (n + 1) (fun k hk => ?_) i (by rw [List.length_cons] at hi; omega)
    unfold upd
    split
    · rfl
    · exact h k (by omega)
theorem lay_all {P : Int32 → Prop} : ∀ (l : List Int32) (f : Nat → Int32) (n : Nat), (∀ i, i < n → P (f i)) → (∀ b ∈ l, P b) → ∀ i, i < n + l.length → P (lay f n l i)
  | [], f, n, h, _, i, hi => h i (by simpa using hi)
  | b :: l, f, n, h, h2, i, hi => by
    refine lay_all l (upd f n b) (n + 1) (fun k hk => ?_) (fun x hx => h2 x (List.mem_cons_of_mem _ hx)) i (by rw [List.length_cons] at hi; omega)
    unfold upd
    split
    · exact h2 b List.mem_cons_self
    · exact h k (by omega)
theorem byt_b (w s : Int32) : ∃ b, b < 256 ∧ byt w s = nI b := by
  obtain ⟨j, hj, e⟩ := pk_andE ((Int32.toUInt32 w >>> (Int32.toUInt32 s &&& Int32.toUInt32 31)).toInt32) (m := 255) 8 (by decide)
  exact ⟨j, hj, e⟩
theorem nz_b (x : Int32) (hx : ∃ b, b < 256 ∧ x = nI b) : ∀ y ∈ nz x, ∃ b, b < 256 ∧ y = nI b := by
  intro y hy
  unfold nz at hy
  split at hy
  · simp at hy
  · simp at hy; subst hy; exact hx
theorem by4_b (w : Int32) : ∀ y ∈ by4 w, ∃ b, b < 256 ∧ y = nI b := by
  intro y hy
  unfold by4 at hy
  simp only [List.mem_append] at hy
  rcases hy with h | h | h | h <;> exact nz_b _ (byt_b _ _) y h
theorem by20_b (a b c d e : Int32) : ∀ y ∈ by20 a b c d e, ∃ b, b < 256 ∧ y = nI b := by
  intro y hy
  unfold by20 at hy
  simp only [List.mem_append] at hy
  rcases hy with h | h | h | h | h <;> exact by4_b _ y h
def setT (a : Abs) (p : Tap) : Abs := (p, a.2)
def feedA (a : Abs) (v1 v2 v3 v4 v5 : Int32) : Int32 × Abs := if a.1.1 + (by20 v1 v2 v3 v4 v5).length ≤ 240 then (nI (a.1.1 + (by20 v1 v2 v3 v4 v5).length), setT a (a.1.1 + (by20 v1 v2 v3 v4 v5).length, lay a.1.2 a.1.1 (by20 v1 v2 v3 v4 v5))) else (-1, a)
def endA (a : Abs) (v : Int32) : Int32 × Abs := match ix v (a.1.1 + 1) with
  | none => (0, a)
  | some n => (1, setT a (n, a.1.2))
def ruleA (a : Abs) (v : Int32) : Int32 := if qC (dN a.2.2.2) = 0 then -1 else match ix v 4 with
  | some 0 => nI (qW (dN a.2.2.2))
  | some 1 => nI (qH (dN a.2.2.2))
  | some 2 => nI (qK (dN a.2.2.2))
  | some 3 => nI (qF (dN a.2.2.2))
  | _ => -1
def heightA (a : Abs) (v : Int32) : Int32 := match ix v (qC (dN a.2.2.2)) with
  | none => -1
  | some c => nI (qG (dN a.2.2.2) c)
def setH (a : Abs) (h : Option Nat) : Abs := (a.1, (a.2.1.1, a.2.1.2.1, h), a.2.2)
def lawA (a : Abs) (v : Int32) : Int32 × Abs := if v = -1 then (1, setH a none) else match ix v a.2.1.1 with
  | none => (0, a)
  | some n => (1, setH a (some n))
def mistA (a : Abs) (v : Int32) : Int32 × Abs := match ix v 10 with
  | none => (0, a)
  | some m => if m = a.2.2.1.1 then (0, a) else (1, (a.1, a.2.1, (m, a.2.2.1.2), a.2.2.2))
def statusA (a : Abs) (v : Int32) : Int32 := match ix v 5 with
  | none => -1
  | some k => a.2.2.1.2 k
def cntA (a : Abs) : Nat → Int32
  | 0 => nI (qC (dN a.2.2.2))
  | 1 => nI (qT (dN a.2.2.2))
  | 2 => nI a.2.1.1
  | 3 => nI a.1.1
  | 4 => oI a.2.1.2.2
  | 5 => nI (qU (dN a.2.2.2))
  | 6 => nI a.2.2.1.1
  | 7 => nI (dV a.2.2.2).1
  | 8 => nI (dH a.2.2.2).1
  | 9 => nI (dG a.2.2.2).length
  | _ => nI (dA a.2.2.2).length
def countA (a : Abs) (v : Int32) : Int32 := match ix v 11 with
  | none => -1000000
  | some k => cntA a k
theorem feedA_ok {a : Abs} (h : AOK a) (v1 v2 v3 v4 v5 : Int32) : AOK (feedA a v1 v2 v3 v4 v5).2 := by
  unfold feedA
  split
  · exact ⟨lay_all _ _ _ h.1 (by20_b v1 v2 v3 v4 v5), h.2⟩
  · exact h
theorem endA_ok {a : Abs} (h : AOK a) (hn : a.1.1 ≤ 240) (v : Int32) : AOK (endA a v).2 := by
  unfold endA
  rcases ixc v (n := a.1.1 + 1) (by omega) with ⟨e, _⟩ | ⟨c, hc, rfl, e⟩
  · rw [e]; exact h
  · rw [e]; exact ⟨fun i hi => h.1 i (by have : i < c := hi; omega), h.2⟩
theorem lawA_ok {a : Abs} (h : AOK a) (v : Int32) : AOK (lawA a v).2 := by
  unfold lawA
  split
  · exact h
  · split <;> exact h
theorem mistA_ok {a : Abs} (h : AOK a) (v : Int32) : AOK (mistA a v).2 := by
  unfold mistA
  split
  · exact h
  · split <;> exact h
section
variable {K : Cfg} {dr : Int64} {a : Abs} {σ : St}
theorem CR.tap {I I' : Nat → Int32} {R R' : Nat → Nat → Int32} (h : CR K I R a) {p : Tap} (hI : ∀ k, k ≠ 21 → I' k = I k) (hR : ∀ k, k ≠ 2 → R' k = R k) (hp : cTap I' R' p) : CR K I' R' (setT a p) := by
  obtain ⟨h1, h2, h3, ⟨h4, h5⟩, h6, h7, h8, h9, h10⟩ := h
  refine ⟨hp, h2.fr (hI _ (by decide)) (hI _ (by decide)), h3.fr (hI _ (by decide)) (hR _ (by decide)), ⟨h4.fr (fun f hf => hI _ (by omega)) (fun j h1 h2 => hR _ (by omega)), ?_⟩, h6.fr (fun f hf => hI _ (by omega)) (fun j h1 h2 => hR _ (by omega)), h7.fr (hI _ (by decide)) (hI _ (by decide)) (hR _ (by decide)) (hR _ (by decide)), h8.fr (hI _ (by decide)) (hR _ (by decide)) (hR _ (by decide)), h9.fr (hI _ (by decide)) (hR _ (by decide)) (hR _ (by decide)) (hR _ (by decide)), h10.fr (hI _ (by decide)) (hR _ (by decide)) (hR _ (by decide))⟩
  rw [hR 31 (by decide)]; exact h5
theorem c_feedA (h : CA K dr a σ) (v1 v2 v3 v4 v5 : Int32) : Ok (fX9_feed σ (K.1 0) v1 v2 v3 v4 v5) (fun r t => r = (feedA a v1 v2 v3 v4 v5).1 ∧ CA K dr (feedA a v1 v2 v3 v4 v5).2 t) := by
  have h0 := h
  obtain ⟨I, R, ⟨R', hR, hw, hl, hs⟩, hr⟩ := h
  obtain ⟨e21, h240, htp⟩ := hr.1
  obtain ⟨t, e, g1, g2⟩ := c_feed hw e21 h240 v1 v2 v3 v4 v5
  unfold feedA
  by_cases q : a.1.1 + (by20 v1 v2 v3 v4 v5).length ≤ 240
  · rw [if_pos q] at e
    rw [if_pos q, if_pos q] at g1
    rw [if_pos q]
    refine ⟨_, t, e, rfl, upd I 21 (nI (a.1.1 + (by20 v1 v2 v3 v4 v5).length)), updR R 2 (lay (R 2) a.1.1 (by20 v1 v2 v3 v4 v5)), ⟨_, fun j hj => ?_, g1, hl.sm g2, hs.tr (g2.mono (fun a q => Or.inl q))⟩, hr.tap (fun k hk => pk_un hk) (fun k hk => updR_n _ _ hk) ⟨pk_us, q, fun i hi => ?_⟩⟩
    · by_cases z : j = 2
      · subst z; rw [updR_s, updR_s, hR 2 rfl]
      · rw [updR_n _ _ z, updR_n _ _ z, hR j hj]
    · rw [updR_s]
      exact lay_cong _ _ _ _ htp i hi
  · rw [if_neg q] at e
    rw [if_neg q, if_neg q] at g1
    rw [if_neg q]
    exact ⟨_, t, e, rfl, I, R, ⟨R', hR, g1, hl.sm g2, hs.tr (g2.mono (fun a q => Or.inl q))⟩, hr⟩
theorem c_endA (h : CA K dr a σ) (v : Int32) : Ok (fX9_end σ (K.1 0) v) (fun r t => r = (endA a v).1 ∧ CA K dr (endA a v).2 t) := by
  have h0 := h
  obtain ⟨I, R, hv, hr⟩ := h
  obtain ⟨e21, h240, htp⟩ := hr.1
  unfold fX9_end
  rcases ixc v (n := a.1.1 + 1) (by omega) with ⟨e, hn⟩ | ⟨c, hc, rfl, e⟩
  · have ee : endA a v = (0, a) := by simp only [endA, e]
    rw [ee]
    refine Ok.b (fun _ => Ok.p ⟨rfl, h0⟩) (fun q => Ok.r (kr_0_0 hv) (Ok.r ((kr_1_1 hv).trans (congrArg some e21)) (Ok.bF (fun z => hn ⟨q, ?_⟩) (Ok.p ⟨rfl, h0⟩))))
    rw [Int32.le_iff_toInt_le, nI_toInt (by omega)] at z
    rw [Int32.lt_iff_toInt_lt, nI_toInt (by omega)]
    omega
  · have ee : endA a (nI c) = (1, setT a (c, a.1.2)) := by simp only [endA, e]
    rw [ee]
    refine Ok.bF (nI_pos (by omega)) (Ok.r (kr_0_0 hv) (Ok.r ((kr_1_1 hv).trans (congrArg some e21)) (Ok.bT (nI_le (by omega) (by omega)) (Ok.r (kr_0_0 hv) (Ok.w (hv.putI 1 1 _ rfl (by decide) (fun _ => rfl) (Nat.le_of_ble_eq_true rfl) (fun _ => rfl)) ?_)))))
    intro t v1
    exact Ok.p ⟨rfl, _, _, v1, hr.tap (fun k hk => pk_un (by omega)) (fun _ _ => rfl) ⟨pk_us, (show c ≤ 240 by omega), fun i hi => htp i (by have : i < c := hi; omega)⟩⟩
theorem c_rule (h : CA K dr a σ) (ok : NoLd a.2.2.2 ∨ LdOK a.2.2.2) (v : Int32) : fX9_rule σ (K.1 0) v = some (ruleA a v, σ) := by
  obtain ⟨h30, h4, _, _, hl, _⟩ := okC ok
  refine Ok.toE ?_
  unfold fX9_rule
  refine Ok.vE (ca_O h) (ca_noLand h (by omega)) ?_
  by_cases e : qC (dN a.2.2.2) = 0
  · rw [decide_eq_true e]
    exact Ok.bF (by decide) (Ok.p ⟨by simp only [ruleA, if_pos e], rfl⟩)
  rw [decide_eq_false e]
  refine Ok.bT rfl ?_
  rcases ixc v (n := 4) (by omega) with ⟨e2, hn⟩ | ⟨c, hc, rfl, e2⟩
  · exact Ok.e (tbs_no 4 rfl (by decide) hn) (Ok.p ⟨by simp only [ruleA, if_neg e, e2], rfl⟩)
  match c, hc with
  | 0, _ => exact Ok.e (tbs_yes 0 (by decide) rfl) (Ok.r (ca_now h) (Ok.r (ca_f h 0 (by decide)) (Ok.p ⟨by simp only [ruleA, if_neg e, e2], rfl⟩)))
  | 1, _ => exact Ok.e (tbs_yes 1 (by decide) rfl) (Ok.r (ca_now h) (Ok.r (ca_f h 1 (by decide)) (Ok.p ⟨by simp only [ruleA, if_neg e, e2], rfl⟩)))
  | 2, _ => exact Ok.e (tbs_yes 2 (by decide) rfl) (Ok.r (ca_now h) (Ok.r (ca_f h 5 (by decide)) (Ok.p ⟨by simp only [ruleA, if_neg e, e2], rfl⟩)))
  | 3, _ => exact Ok.e (tbs_yes 3 (by decide) rfl) (Ok.r (ca_now h) (Ok.r (ca_f h 4 (by decide)) (Ok.p ⟨by simp only [ruleA, if_neg e, e2], rfl⟩)))
  | c + 4, hc => omega
theorem c_heightA (h : CA K dr a σ) (ok : NoLd a.2.2.2 ∨ LdOK a.2.2.2) (v : Int32) : fX9_height σ (K.1 0) v = some (heightA a v, σ) := by
  obtain ⟨h30, h4, _, _, hl, _⟩ := okC ok
  refine Ok.toE ?_
  unfold fX9_height
  refine Ok.r (ca_now h) (Ok.vE (ca_O7 h) (ca_hasCell h v) ?_)
  rcases ixc v (n := qC (dN a.2.2.2)) (by omega) with ⟨e, hn⟩ | ⟨c, hc, rfl, e⟩
  · rw [decide_eq_false hn]
    exact Ok.bT rfl (Ok.p ⟨by simp only [heightA, e], rfl⟩)
  · rw [decide_eq_true (ix_in hc (by omega))]
    exact Ok.bF (by decide) (Ok.r (ca_now h) (Ok.r (ca_gr h) (Ok.r (ca_G h hc (by omega)) (Ok.p ⟨by simp only [heightA, e], rfl⟩))))
theorem CR.law {I I' : Nat → Int32} {R : Nat → Nat → Int32} (h : CR K I R a) {p : Lws} (hI : ∀ k, k ≠ 5 → I' k = I k) (hp : cLws K I' p) : CR K I' R (a.1, p, a.2.2) := by
  obtain ⟨h1, h2, h3, ⟨h4, h5⟩, h6, h7, h8, h9, h10⟩ := h
  exact ⟨h1.fr (hI _ (by decide)) rfl, hp, h3.fr (hI _ (by decide)) rfl, ⟨h4.fr (fun f hf => hI _ (by omega)) (fun j h1 h2 => rfl), h5⟩, h6.fr (fun f hf => hI _ (by omega)) (fun j h1 h2 => rfl), h7.fr (hI _ (by decide)) (hI _ (by decide)) rfl rfl, h8.fr (hI _ (by decide)) rfl rfl, h9.fr (hI _ (by decide)) rfl rfl rfl, h10.fr (hI _ (by decide)) rfl rfl⟩
theorem m1_nI {c : Nat} (hc : c < 2 ^ 31) : ¬ nI c = -1 := fun q => by
  have := nI_pos hc
  rw [q] at this
  exact this (by decide)
theorem law_c {v : Int32} {n : Nat} (hn : n ≤ 4) : (v = -1) ∨ (ix v n = none ∧ v ≠ -1 ∧ (v < -1 ∨ ¬ v < nI n)) ∨ ∃ c, c < n ∧ v = nI c ∧ ix v n = some c := by
  by_cases q : v = -1
  · exact Or.inl q
  rcases ixc v (n := n) (by omega) with ⟨e, h⟩ | ⟨c, hc, e1, e2⟩
  · refine Or.inr (Or.inl ⟨e, q, ?_⟩)
    by_cases h0 : v < 0
    · left
      rw [Int32.lt_iff_toInt_lt] at h0 ⊢
      have e1 : (0 : Int32).toInt = 0 := rfl
      have e2 : (-1 : Int32).toInt = -1 := rfl
      have : v.toInt ≠ -1 := fun z => q (Int32.toInt_inj.mp (z.trans e2.symm))
      omega
    · exact Or.inr (fun z => h ⟨h0, z⟩)
  · exact Or.inr (Or.inr ⟨c, hc, e1, e2⟩)
theorem c_lawA (h : CA K dr a σ) (v : Int32) : Ok (fX9_law σ (K.1 0) v) (fun r t => r = (lawA a v).1 ∧ CA K dr (lawA a v).2 t) := by
  have h0 := h
  obtain ⟨I, R, hv, hr⟩ := h
  obtain ⟨e4, l4, eK, e5, hh, hw⟩ := hr.2.1
  unfold fX9_law
  rcases law_c (v := v) l4 with rfl | ⟨e, q, hn⟩ | ⟨c, hc, rfl, e⟩
  · refine Ok.bF (by decide) (Ok.r ((kr_0_4 hv).trans (congrArg some e4)) (Ok.bT ?_ (Ok.w (hv.putI 0 5 _ rfl (by decide) (fun _ => rfl) (Nat.le_of_ble_eq_true rfl) (fun _ => rfl)) ?_)))
    · rw [Int32.lt_iff_toInt_lt, nI_toInt (by omega)]
      have e2 : (-1 : Int32).toInt = -1 := rfl
      omega
    · intro t v1
      exact Ok.p ⟨rfl, _, _, v1, hr.law (p := (a.2.1.1, a.2.1.2.1, none)) (fun k hk => pk_un (by omega)) ⟨(pk_un (by decide)).trans e4, l4, eK, pk_us, fun i hi => by simp at hi, hw⟩⟩
  · have ee : lawA a v = (0, a) := by simp only [lawA, if_neg q, e]
    rw [ee]
    refine Ok.b (fun _ => Ok.p ⟨rfl, h0⟩) (fun z => Ok.r ((kr_0_4 hv).trans (congrArg some e4)) (Ok.bF (fun z2 => ?_) (Ok.p ⟨rfl, h0⟩)))
    rcases hn with hn | hn
    · exact z hn
    · exact hn z2
  · have ee : lawA a (nI c) = (1, setH a (some c)) := by simp only [lawA, if_neg (m1_nI (show c < 2 ^ 31 by omega)), e]
    rw [ee]
    refine Ok.bF ?_ (Ok.r ((kr_0_4 hv).trans (congrArg some e4)) (Ok.bT (nI_lt hc (by omega)) (Ok.w (hv.putI 0 5 _ rfl (by decide) (fun _ => rfl) (Nat.le_of_ble_eq_true rfl) (fun _ => rfl)) ?_)))
    · rw [Int32.lt_iff_toInt_lt, nI_toInt (by omega)]
      have e2 : (-1 : Int32).toInt = -1 := rfl
      omega
    · intro t v1
      exact Ok.p ⟨rfl, _, _, v1, hr.law (p := (a.2.1.1, a.2.1.2.1, some c)) (fun k hk => pk_un (by omega)) ⟨(pk_un (by decide)).trans e4, l4, eK, pk_us, fun i hi => by simp at hi; subst hi; exact hc, hw⟩⟩
theorem gt9 {v : Int32} (h0 : ¬ v < 0) (h : ¬ (¬ v < 0 ∧ v < nI 10)) : 9 < v := by
  have : ¬ v < nI 10 := fun z => h ⟨h0, z⟩
  rw [Int32.lt_iff_toInt_lt, show (nI 10).toInt = 10 from rfl] at this
  rw [Int32.lt_iff_toInt_lt, show (9 : Int32).toInt = 9 from rfl]
  omega
theorem c_mistA (h : CA K dr a σ) (v : Int32) : Ok (fX9_mist σ (K.1 0) v) (fun r t => r = (mistA a v).1 ∧ CA K dr (mistA a v).2 t) := by
  have h0 := h
  obtain ⟨I, R, hv, hr⟩ := h
  obtain ⟨e6, l9, hw⟩ := hr.2.2.1
  unfold fX9_mist
  rcases ixc v (n := 10) (by omega) with ⟨e, hn⟩ | ⟨c, hc, rfl, e⟩
  · have ee : mistA a v = (0, a) := by simp only [mistA, e]
    rw [ee]
    exact Ok.b (fun _ => Ok.p ⟨rfl, h0⟩) (fun z => Ok.bT (gt9 z hn) (Ok.p ⟨rfl, h0⟩))
  · refine Ok.bF (nI_pos (by omega)) (Ok.bF (show ¬ nI 9 < nI c from nI_nlt (by omega) (by omega)) (Ok.r ((kr_0_6 hv).trans (congrArg some e6)) (Ok.bI (nI_eq (by omega) (by omega)) (fun q => ?_) (fun q => ?_))))
    · exact Ok.p (by simp only [mistA, e, if_pos q]; exact ⟨trivial, h0⟩)
    · refine Ok.w (hv.putI 0 6 _ rfl (by decide) (fun _ => rfl) (Nat.le_of_ble_eq_true rfl) (fun _ => rfl)) ?_
      intro t v1
      refine Ok.p ?_
      simp only [mistA, e, if_neg q]
      refine ⟨trivial, _, _, v1, ?_⟩
      have hI : ∀ k, k ≠ 6 → upd I (20 * 0 + 6) (nI c) k = I k := fun k hk => pk_un (by omega)
      obtain ⟨h1, h2, h3, ⟨h4, h5⟩, h6, h7, h8, h9, h10⟩ := hr
      exact ⟨h1.fr (hI _ (by decide)) rfl, h2.fr (hI _ (by decide)) (hI _ (by decide)), ⟨pk_us, (show c ≤ 9 by omega), hw⟩, ⟨h4.fr (fun f hf => hI _ (by omega)) (fun j h1 h2 => rfl), h5⟩, h6.fr (fun f hf => hI _ (by omega)) (fun j h1 h2 => rfl), h7.fr (hI _ (by decide)) (hI _ (by decide)) rfl rfl, h8.fr (hI _ (by decide)) rfl rfl, h9.fr (hI _ (by decide)) rfl rfl rfl, h10.fr (hI _ (by decide)) rfl rfl⟩
theorem c_statusA (h : CA K dr a σ) (v : Int32) : fX9_status σ (K.1 0) v = some (statusA a v, σ) := by
  obtain ⟨I, R, hv, hr⟩ := h
  obtain ⟨e6, l9, hw⟩ := hr.2.2.1
  refine Ok.toE ?_
  unfold fX9_status
  rcases ixc v (n := 5) (by omega) with ⟨e, hn⟩ | ⟨c, hc, rfl, e⟩
  · have ee : statusA a v = -1 := by simp only [statusA, e]
    rw [ee]
    exact Ok.b (fun _ => Ok.p ⟨rfl, rfl⟩) (fun z => Ok.bT (Int32.not_lt.mp (fun z2 => hn ⟨z, z2⟩)) (Ok.p ⟨rfl, rfl⟩))
  · exact Ok.bF (nI_pos (by omega)) (Ok.bF (show ¬ nI 5 ≤ nI c from nI_ge hc (by decide)) (Ok.r (kr_0_7 hv) (Ok.r ((ka_10 hv hc).trans (congrArg some (hw c hc))) (Ok.p ⟨by simp only [statusA, e], rfl⟩))))
theorem c_count (h : CA K dr a σ) (ok : NoLd a.2.2.2 ∨ LdOK a.2.2.2) (v : Int32) : fX9_count σ (K.1 0) v = some (countA a v, σ) := by
  have hlen : (dG a.2.2.2).length = min 60 (qU (dN a.2.2.2)) ∧ qU (dN a.2.2.2) ≤ 19999 ∧ qL (dN a.2.2.2) = qU (dN a.2.2.2) := by
    rcases ok with n | ok
    · rw [n.2.2.2.2.1, n.2.2.1, n.2.2.2.1]; decide
    · exact ⟨ok.1.2.2.2.1, ok.1.1.u, ok.1.2.2.1⟩
  obtain ⟨l1, l2, l3⟩ := hlen
  have h0 := h
  obtain ⟨I, R, hv, hr⟩ := h
  have eL : fX5_logLength σ (K.1 11) = some (nI (dG a.2.2.2).length, σ) := by
    unfold fX5_logLength
    rw [(ca_f h0 8 (by decide)).trans (congrArg (fun z => some (nI z)) l3), Option.bind_some, f_min, bd_some, show (60 : Int32) = nI 60 from rfl, min_i (by omega) (by omega), l1]
  refine Ok.toE ?_
  unfold fX9_count
  rcases ixc v (n := 11) (by omega) with ⟨e, hn⟩ | ⟨c, hc, rfl, e⟩
  · exact Ok.e (tbs_no 11 rfl (by decide) hn) (Ok.p ⟨by simp only [countA, e], rfl⟩)
  have ee : countA a (nI c) = cntA a c := by simp only [countA, e]
  rw [ee]
  match c, hc with
  | 0, _ => exact Ok.e (tbs_yes 0 (by decide) rfl) (Ok.r (ca_now h0) (Ok.r (ca_f h0 2 (by decide)) (Ok.p ⟨rfl, rfl⟩)))
  | 1, _ => exact Ok.e (tbs_yes 1 (by decide) rfl) (Ok.r (ca_now h0) (Ok.r (ca_f h0 3 (by decide)) (Ok.p ⟨rfl, rfl⟩)))
  | 2, _ => exact Ok.e (tbs_yes 2 (by decide) rfl) (Ok.r (kr_0_4 hv) (Ok.p ⟨hr.2.1.1, rfl⟩))
  | 3, _ => exact Ok.e (tbs_yes 3 (by decide) rfl) (Ok.r (kr_0_0 hv) (Ok.r (kr_1_1 hv) (Ok.p ⟨hr.1.1, rfl⟩)))
  | 4, _ => exact Ok.e (tbs_yes 4 (by decide) rfl) (Ok.r (kr_0_5 hv) (Ok.p ⟨hr.2.1.2.2.2.1, rfl⟩))
  | 5, _ => exact Ok.e (tbs_yes 5 (by decide) rfl) (Ok.r (ca_now h0) (Ok.r (ca_f h0 6 (by decide)) (Ok.p ⟨rfl, rfl⟩)))
  | 6, _ => exact Ok.e (tbs_yes 6 (by decide) rfl) (Ok.r (kr_0_6 hv) (Ok.p ⟨hr.2.2.1.1, rfl⟩))
  | 7, _ => exact Ok.e (tbs_yes 7 (by decide) rfl) (Ok.r (kr_0_12 hv) (Ok.r (kr_34_3 hv) (Ok.p ⟨hr.2.2.2.2.2.2.2.1.1, rfl⟩)))
  | 8, _ => exact Ok.e (tbs_yes 8 (by decide) rfl) (Ok.r (kr_0_12 hv) (Ok.r (kr_34_6 hv) (Ok.p ⟨hr.2.2.2.2.2.2.2.2.1, rfl⟩)))
  | 9, _ => exact Ok.e (tbs_yes 9 (by decide) rfl) (Ok.r (ca_now h0) (Ok.cE eL (Ok.p ⟨rfl, rfl⟩)))
  | 10, _ =>
    obtain ⟨nx, _, _, e2, _⟩ := hr.2.2.2.2.2.1
    exact Ok.e (tbs_yes 10 (by decide) rfl) (Ok.r (ca_past h0) (Ok.r (kr_29_2 hv) (Ok.p ⟨e2, rfl⟩)))
  | c + 11, hc => omega
end
