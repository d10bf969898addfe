/-! TEXT of a LAW on both sides -/
section
variable {T : Tap}
def Pf (T : Tap) (g : Nat → PR) : Prop := ∀ p q, p ≤ T.1 → g p = .inl q → q ≤ T.1
theorem bn_l {x : PR} {f : Nat → PR} {q : Nat} (h : bnP x f = .inl q) : x = .inl q ∨ ∃ y, x = .inr y ∧ f y.1 = .inl q := by
  unfold bnP at h
  cases x with
  | inl q' => exact Or.inl h
  | inr y =>
    simp only [] at h
    cases e : f y.1 with
    | inl q' => rw [e] at h; exact Or.inr ⟨y, rfl, by rw [e]; exact h⟩
    | inr z => rw [e] at h; cases h
theorem tk_l {x : PR} {t : Tk} {q : Nat} (h : tkP x t = .inl q) : x = .inl q := by
  unfold tkP at h
  cases x with
  | inl q' => exact h
  | inr y => cases h
theorem ex_l {x : PR} {c : Int32} {q : Nat} (h : exP T x c = .inl q) (hx : ∀ q, x = .inl q → q ≤ T.1) (hy : ∀ y, x = .inr y → y.1 ≤ T.1) : q ≤ T.1 := by
  unfold exP at h
  cases x with
  | inl q' => cases h; exact hx _ rfl
  | inr y =>
    simp only [] at h
    by_cases z : atT T (skT T y.1) = c
    · rw [if_pos z] at h; cases h
    · rw [if_neg z] at h; cases h; exact sk_le T (hy y rfl)
theorem Pf.lp {ok : Int32 → Bool} {f : Nat → PR} (hok : ok (-1) = false) (hf : Pf T f) (hg : Pg T f) : ∀ d, Pf T (lpP T ok f d) := by
  intro d
  induction d with
  | zero => intro p q hp h; cases h
  | succ d ih =>
    intro p q hp h
    by_cases z : ok (atT T (skT T p)) = true
    · rw [lpP_y z] at h
      have hin : skT T p < T.1 := at_in (fun e => by rw [e, hok] at z; cases z)
      rcases bn_l h with h | ⟨y, e, h⟩
      · exact hf _ _ (by omega) (tk_l h)
      · obtain ⟨w, e1, e2, _⟩ := tkP_inr (p := y.1) (W := y.2) e
        exact ih _ _ (by have := hg _ _ _ (show skT T p + 1 ≤ T.1 by omega) e1; omega) h
    · rw [lpP_n z] at h; cases h
theorem Pf.th {ok : Int32 → Bool} {f g : Nat → PR} (hok : ok (-1) = false) (hf : Pf T f) (hg : Pg T f) (h1 : Pf T g) (h2 : Pg T g) : Pf T (thP T ok f g) := by
  intro p q hp h
  rcases bn_l h with h | ⟨y, e, h⟩
  · exact h1 _ _ hp h
  · exact Pf.lp hok hf hg 241 _ _ (h2 _ _ _ hp e).2 h
theorem Pf.ao {s : Option (Nat → PR)} (hs : ∀ f, s = some f → Pf T f ∧ Pg T f) : Pf T (aoP T s) := by
  intro p q hp h
  have h2 := sk_le T hp
  unfold aoP at h
  by_cases z : dgB (atT T (skT T p)) = true
  · rw [if_pos z] at h
    unfold nuP at h
    by_cases w : dgB (atT T (nuF T 4 0 (skT T p)).2) = true
    · rw [if_pos w] at h; cases h; exact (nuF_le T 4 0 _ h2).1
    · rw [if_neg w] at h; cases h
  rw [if_neg z] at h
  by_cases z2 : atT T (skT T p) = 91
  · rw [if_pos z2] at h
    have hin : skT T p < T.1 := at_in (by rw [z2]; decide)
    cases s with
    | none => cases h; exact h2
    | some f => exact ex_l h (fun q e => (hs f rfl).1 _ _ (by omega) e) (fun y e => ((hs f rfl).2 _ _ _ (by omega) e).2)
  rw [if_neg z2] at h
  by_cases z3 : ltC (atT T (skT T p)) = -1
  · rw [if_pos z3] at h; cases h; exact h2
  · rw [if_neg z3] at h; cases h
theorem Pf.sa {s : Option (Nat → PR)} (hs : ∀ f, s = some f → Pf T f ∧ Pg T f) : Pf T (smA T s) := by
  have h1 : Pf T (tmP T s) := Pf.th (by decide) (Pf.ao hs) (Pg.ao (fun f e => (hs f e).2)) (Pf.ao hs) (Pg.ao (fun f e => (hs f e).2))
  exact Pf.th (by decide) h1 (Pg.tm (fun f e => (hs f e).2)) h1 (Pg.tm (fun f e => (hs f e).2))
theorem Pf.sm (T : Tap) : ∀ k, Pf T (smT T k)
  | 0 => Pf.sa (fun f e => by cases e)
  | k + 1 => Pf.sa (fun f e => by cases e; exact ⟨Pf.sm T k, Pg.sm T k⟩)
theorem Pf.cm (T : Tap) (k : Nat) : Pf T (cmP T k) := by
  intro p q hp h
  unfold cmP at h
  by_cases z : oqC (atT T (skT T p)) = true
  · rw [if_pos z] at h
    have hin : skT T p < T.1 := at_in (fun e => by rw [e] at z; exact absurd z (by decide))
    exact Pf.sm T k _ _ (by omega) (tk_l h)
  · rw [if_neg z] at h; cases h; exact sk_le T hp
theorem Pf.cd {u g : Nat → PR} (hu : Pf T u) (hu2 : Pg T u) (hg : Pf T g) (hg2 : Pg T g) : Pf T (cdP T u g) := Pf.th (by decide) (Pf.th (by decide) hu hu2 hu hu2) (Pg.tr hu2 hu2) (Pf.th (by decide) hu hu2 hg hg2) (Pg.tr hu2 hg2)
theorem Pf.ua {k : Nat} {u : Option (Nat → PR)} (hs : ∀ f, u = some f → Pf T f ∧ Pg T f) : Pf T (unA T k u) := by
  intro p q hp h
  have h2 := sk_le T hp
  unfold unA at h
  by_cases z : atT T (skT T p) = 33
  · rw [if_pos z] at h
    have hin : skT T p < T.1 := at_in (by rw [z]; decide)
    cases u with
    | none => cases h; exact h2
    | some f => exact (hs f rfl).1 _ _ (by omega) (tk_l h)
  rw [if_neg z] at h
  by_cases z2 : atT T (skT T p) = 40
  · rw [if_pos z2] at h
    have hin : skT T p < T.1 := at_in (by rw [z2]; decide)
    cases u with
    | none => cases h; exact h2
    | some f => exact ex_l h (fun q e => Pf.cd (hs f rfl).1 (hs f rfl).2 (hs f rfl).1 (hs f rfl).2 _ _ (by omega) e) (fun y e => (Pg.cd (hs f rfl).2 (hs f rfl).2 _ _ _ (by omega) e).2)
  rw [if_neg z2] at h
  rcases bn_l h with h | ⟨y, e, h⟩
  · exact Pf.sm T k _ _ h2 h
  · exact Pf.cm T k _ _ (Pg.sm T k _ _ _ h2 e).2 h
theorem Pf.un (T : Tap) : ∀ k, Pf T (unT T k)
  | 0 => Pf.ua (fun f e => by cases e)
  | k + 1 => Pf.ua (fun f e => by cases e; exact ⟨Pf.un T k, Pg.un T k⟩)
theorem tl_l {c : PR} {q : Nat} (h : tlP T c = .inl q) (hx : ∀ q, c = .inl q → q ≤ T.1) (hy : ∀ y, c = .inr y → y.2.length ≤ y.1 ∧ y.1 ≤ T.1) : q ≤ T.1 := by
  unfold tlP at h
  cases e : exP T c 63 with
  | inl q' =>
    rw [e] at h
    cases h
    exact ex_l e hx (fun y e => (hy y e).2)
  | inr z =>
    rw [e] at h
    simp only [] at h
    have b := Pg.ex (p := 0) (by decide) (fun y e => by have := hy y e; omega) e
    cases e2 : smT T 6 z.1 with
    | inl q' => rw [e2] at h; cases h; exact Pf.sm T 6 _ _ b.2 e2
    | inr w => rw [e2] at h; cases h
theorem cl_l {p q : Nat} (hp : p ≤ T.1) (h : clT T p = .inl q) : q ≤ T.1 := by
  unfold clT at h
  cases e : hdP T p with
  | inl q' =>
    rw [e] at h
    cases h
    unfold hdP at e
    refine ex_l e (fun q e => ex_l e (fun q e => by cases e) (fun y e => by cases e; exact hp)) (fun y e => ?_)
    obtain ⟨w, f1, f2, f3, f4⟩ := exP_inr (p := y.1) (W := y.2) e
    have : skT T w.1 < T.1 := at_in (by rw [f2]; decide)
    omega
  | inr z =>
    rw [e] at h
    simp only [] at h
    obtain ⟨b1, b2, b3⟩ := hd_g hp e
    have s2 := sk_le T b2
    by_cases w : atT T (skT T z.1) = 33 ∨ atT T (skT T z.1) = 40
    · rw [if_pos w] at h
      exact tl_l h (fun q e => Pf.cd (Pf.un T 6) (Pg.un T 6) (Pf.un T 6) (Pg.un T 6) _ _ s2 e) (fun y e => by have := Pg.cd (Pg.un T 6) (Pg.un T 6) _ _ _ s2 e; omega)
    · rw [if_neg w] at h
      cases e2 : smT T 6 (skT T z.1) with
      | inl q' => rw [e2] at h; cases h; exact Pf.sm T 6 _ _ s2 e2
      | inr v =>
        rw [e2] at h
        simp only [] at h
        have b4 := Pg.sm T 6 _ _ _ s2 e2
        have s4 := sk_le T b4.2
        have s3 := sk_ge T v.1
        by_cases w2 : oqC (atT T (skT T v.1)) = true
        · rw [if_pos w2] at h
          refine tl_l h (fun q e => ?_) (fun y e => ?_)
          · rcases bn_l e with e | ⟨y, e, e2⟩
            · cases e
            · cases e
              exact Pf.cd (Pf.un T 6) (Pg.un T 6) (Pf.cm T 6) (Pg.cm T 6) _ _ s4 e2
          · obtain ⟨v1, v2, f1, f2, f3, f4⟩ := bnP_inr (p := y.1) (W := y.2) e
            cases f1
            have b5 := Pg.cd (Pg.un T 6) (Pg.cm T 6) _ _ _ s4 f2
            rw [f3, f4, List.length_append]
            simp only []
            omega
        · rw [if_neg w2] at h; cases h
theorem lw_flt : ∀ d p q, p ≤ T.1 → lwF T d p = .inl q → q ≤ T.1
  | 0, p, q, hp, h => by cases h; exact hp
  | d + 1, p, q, hp, h => by
    rw [lw_s] at h
    cases e : clT T p with
    | inl q' => rw [e] at h; cases h; exact cl_l hp e
    | inr y =>
      rw [e] at h
      simp only [] at h
      obtain ⟨b1, b2, b3⟩ := cl_g hp e
      by_cases z : atT T (skT T y.1) = 59
      · rw [if_pos z] at h
        have hin : skT T y.1 < T.1 := at_in (by rw [z]; decide)
        cases e2 : lwF T d (skT T y.1 + 1) with
        | inl q' => rw [e2] at h; cases h; exact lw_flt d _ _ (by omega) e2
        | inr l2 => rw [e2] at h; cases h
      · rw [if_neg z] at h
        by_cases z2 : atT T (skT T y.1) = -1
        · rw [if_pos z2] at h; cases h
        · rw [if_neg z2] at h; cases h; exact sk_le T b2
end
section
variable {K : Cfg} {M : Mfg} {dr dr2 : Int64} {a a2 : Abs} {σ t : St}
theorem CA.sm1 (h : CA K dr a σ) : Sm (setK K) K.2.2.2.2.2 σ := by
  obtain ⟨I, R, ⟨R', _, _, _, hs⟩, _⟩ := h
  exact hs
theorem CA.sm2 (h : CA K dr a σ) (h2 : CA K dr2 a2 t) : t.1 = σ.1 ∧ ∀ z, ¬ setK K z → t.2.2 z = σ.2.2 z :=
  ⟨h2.sm1.1.trans h.sm1.1.symm, fun z hz => (h2.sm1.2 z hz).trans (h.sm1.2 z hz).symm⟩
theorem ma_sm1 (h : MA M dr a σ) : Sm (setM M.1) M.2 σ := by
  obtain ⟨J, Q, ⟨R', _, _, hs⟩, _⟩ := h
  exact hs
theorem ma_sm2 (h : MA M dr a σ) (h2 : MA M dr2 a2 t) : t.1 = σ.1 ∧ ∀ z, ¬ setM M.1 z → t.2.2 z = σ.2.2 z :=
  ⟨(ma_sm1 h2).1.trans (ma_sm1 h).1.symm, fun z hz => ((ma_sm1 h2).2 z hz).trans ((ma_sm1 h).2 z hz).symm⟩
theorem ma_reb (h : MA M dr a σ) (ht : ∀ z, setM M.1 z → t.2.2 z = σ.2.2 z) : MA (M.1, t) dr a t := by
  obtain ⟨J, Q, ⟨R', hR, hw, hs⟩, h2⟩ := h
  exact ⟨J, Q, ⟨R', hR, ⟨hw.1, fun k hk => (ht _ ⟨k, hk, rfl⟩).trans (hw.2 k hk)⟩, Sm.rf⟩, h2⟩
theorem ma_has (h : MA M dr a σ) {z : Nat} (hz : setM M.1 z) : ∃ e, σ.2.2 z = some e := by
  obtain ⟨J, Q, ⟨R', hR, hw, hs⟩, h2⟩ := h
  obtain ⟨k, hk, rfl⟩ := hz
  exact ⟨_, hw.2 k hk⟩
theorem CA.has (h : CA K dr a σ) {z : Nat} (hz : setK K z) : ∃ e, σ.2.2 z = some e := by
  obtain ⟨I, R, h1, h2⟩ := h
  exact h1.has hz
theorem cr_lawN {I I' : Nat → Int32} {R : Nat → Nat → Int32} {q1 q2 q3 n : Nat} {c : Nat → Int32} {u : St} (h : CR K I R a) (hK : K.2.2.1 < 4) (hn : n < 19999) (h4 : I' 4 = nI (a.2.1.1 + 1)) (h21 : I' 21 = 0) (hI : ∀ k, k ≠ 4 → k ≠ 21 → I' k = I k) : CR (addK K q1 q2 q3 n c u) I' R (lawN a (evC n c)) := by
  obtain ⟨h1, ⟨l1, l2, l3, l4, l5, l6⟩, h3, ⟨h4', h5⟩, h6, h7, h8, h9, h10⟩ := h
  have hn' : ∀ k, k ≠ 4 ∧ k ≠ 21 → I' k = I k := fun k q => hI k q.1 q.2
  refine ⟨⟨h21, by show (0 : Nat) ≤ 240; omega, fun i hi => absurd hi (Nat.not_lt_zero i)⟩, ⟨h4, by show a.2.1.1 + 1 ≤ 4; omega, by show K.2.2.1 + 1 = a.2.1.1 + 1; omega, (hn' 5 (by decide)).trans l4, fun i e => Nat.lt_succ_of_lt (l5 i e), fun i hi => ?_⟩, h3.fr (hn' 6 (by decide)) rfl, ⟨h4'.fr (fun f hf => hn' _ (by omega)) (fun _ _ _ => rfl), h5⟩, h6.fr (fun f hf => hn' _ (by omega)) (fun _ _ _ => rfl), h7.fr (hn' _ (by decide)) (hn' _ (by decide)) rfl rfl, h8.fr (hn' _ (by decide)) rfl rfl, h9.fr (hn' _ (by decide)) rfl rfl rfl, h10.fr (hn' _ (by decide)) rfl rfl⟩
  have hi' : i < a.2.1.1 + 1 := hi
  have e4 : (addK K q1 q2 q3 n c u).2.2.2.1 i = if i = K.2.2.1 then n else K.2.2.2.1 i := rfl
  have e5 : (addK K q1 q2 q3 n c u).2.2.2.2.1 i = if i = K.2.2.1 then c else K.2.2.2.2.1 i := rfl
  have e6 : (lawN a (evC n c)).2.1.2.1 i = if i = a.2.1.1 then evC n c else a.2.1.2.1 i := rfl
  rw [e4, e5, e6]
  by_cases q : i = a.2.1.1
  · rw [if_pos q, if_pos (by omega), if_pos (by omega)]
    exact ⟨hn, rfl⟩
  · rw [if_neg q, if_neg (by omega), if_neg (by omega)]
    exact l6 i (by omega)
theorem c_takeLaw (h : CA K dr a σ) {F : Int32 → St → Prop} (h1 : ∀ t, CA K dr a t → (4 ≤ a.2.1.1 ∨ ∃ q, lawT a.1 = .inl q) → F (-1) t) (h2 : ∀ l c K' t, lawT a.1 = .inr l → a.2.1.1 < 4 → (∀ i u, (l.flatMap clC)[i]? = some u → c i = enT u) → K'.1 = K.1 → (∀ z, setK K z → setK K' z) → (∀ z, setK K' z → setK K z ∨ (σ.2.2 z = none ∧ σ.1.2 z = none)) → CA K' dr (lawN a (evC (l.flatMap clC).length c)) t → t.1 = σ.1 → (∀ z, ¬ setK K' z → t.2.2 z = σ.2.2 z) → F (nI a.2.1.1) t) : wX9_takeLaw σ (K.1 0) F := by
  have h0 := h
  obtain ⟨I, R, hv, hr⟩ := h
  have h240 : a.1.1 ≤ 240 := hr.1.2.1
  have hl4 := hr.2.1.2.1
  refine ⟨nI a.2.1.1, (kr_0_4 hv).trans (congrArg some hr.2.1.1), fun z => ?_, fun z => ⟨K.1 7, kr_0_2 hv, kO_7 hv, ?_⟩⟩
  · have z' : 4 ≤ a.2.1.1 := by
      have z1 : nI 4 ≤ nI a.2.1.1 := z
      rw [nI_leI (by omega) (by omega)] at z1
      exact z1
    exact h1 σ h0 (Or.inl z')
  have z' : a.2.1.1 < 4 := by
    have z1 : ¬ nI 4 ≤ nI a.2.1.1 := z
    rw [nI_leI (by omega) (by omega)] at z1
    omega
  obtain ⟨x3, t4, e, e3, pl⟩ := c_readLaw h0
  refine ⟨x3, t4, e, fun z3 => ?_, fun z3 => ?_⟩
  · cases el : lawT a.1 with
    | inl q =>
      rw [el] at pl e3
      obtain ⟨p, g⟩ := pl
      rw [e3] at z3
      cases (oI_m1 g.f1).mp z3
    | inr l =>
      rw [el] at pl
      obtain ⟨p, I, R, v4, r4, x4, y1, y2, y3, y4⟩ := pl
      have hsm := CA.sm2 h0 ⟨I, R, v4, r4⟩
      have hK : K.2.2.1 = a.2.1.1 := r4.2.1.2.2.1
      have hlen := lw_len 241 0 l (by omega) el
      refine ⟨K.1 9, kr_0_3 v4, nI a.2.1.1, (kr_0_4 v4).trans (congrArg some r4.2.1.1), K.1 7, kr_0_2 v4, kO_7 v4, c_made v4 (by rw [hK]; exact r4.2.1.1) (by omega) x4.1 (by omega) ?_⟩
      intro q1 q2 q3 t c hc hq n12 n13 n23 et1 e1 e2 e3 ez
      obtain ⟨u, es, vu, u1, uz⟩ := c_laid v4 (by omega) (fun z hz => (hq z hz).1) n12 n13 n23 e1 e2 e3 ez
      obtain ⟨t12, e12, v12⟩ := vu.putI 0 4 (nI (a.2.1.1 + 1)) rfl (by decide) (fun _ => rfl) (Nat.le_of_ble_eq_true rfl) (fun _ => rfl)
      obtain ⟨t14, e14, v14⟩ := v12.putI 1 1 0 rfl (by decide) (fun _ => rfl) (Nat.le_of_ble_eq_true rfl) (fun _ => rfl)
      have k1 := (kr_0_4 vu).trans (congrArg some r4.2.1.1)
      have k2 := kr_0_0 v12
      have k3 := kr_0_4 v14
      rw [pk_un (by decide)] at k3
      have k3 := k3.trans (congrArg some pk_us)
      rw [hK] at es
      refine ⟨u, es, nI a.2.1.1, k1, t12, by rw [nI_1]; exact e12, K.1 1, k2, t14, e14, nI (a.2.1.1 + 1), k3, ?_⟩
      rw [nI_pred]
      have hca : CA (addK K q1 q2 q3 (l.flatMap clC).length c u) dr (lawN a (evC (l.flatMap clC).length c)) t14 := by
        refine ⟨_, R, v14, cr_lawN r4 (by omega) (by omega) ?_ pk_us (fun k k4 k21 => ?_)⟩
        · rw [pk_un (by decide)]; exact pk_us
        · rw [pk_un (by omega), pk_un (by omega)]
      have hs4 : ∀ z, z = q1 ∨ z = q2 ∨ z = q3 → ¬ setK K z := fun z hz hs => by
        obtain ⟨e, he⟩ := v4.has hs
        rw [(hq z hz).1] at he; cases he
      refine h2 l c (addK K q1 q2 q3 (l.flatMap clC).length c u) t14 el z' ?_ rfl (fun z hz => add_set.mpr (Or.inl hz)) (fun z hz => ?_) hca ?_ (fun z hz => ?_)
      · intro i u' ei
        rw [hc i (List.getElem?_eq_some_iff.mp ei).1]
        exact x4.2 i u' ei
      · rcases add_set.mp hz with hz | hz
        · exact Or.inl hz
        · refine Or.inr ⟨?_, ?_⟩
          · rw [← hsm.2 z (hs4 z hz)]; exact (hq z hz).1
          · rw [← hsm.1]; exact (hq z hz).2
      · have : t14.1 = u.1 := hca.sm1.1
        rw [this, u1, et1]; exact hsm.1
      · have hz' : ¬ (setK K z ∨ z = q1 ∨ z = q2 ∨ z = q3) := fun q => hz (add_set.mpr q)
        have w1 : t14.2.2 z = u.2.2 z := hca.sm1.2 z hz
        rw [w1, uz z (fun e => hz' (Or.inl (Or.inl ⟨9, rfl, e⟩))), ez z (fun e => hz' (Or.inr (Or.inl e))) (fun e => hz' (Or.inr (Or.inr (Or.inl e)))) (fun e => hz' (Or.inr (Or.inr (Or.inr e)))), hsm.2 z (fun q => hz' (Or.inl q))]
  · cases el : lawT a.1 with
    | inl q =>
      rw [el] at pl
      obtain ⟨p, g⟩ := pl
      exact h1 t4 g.ca (Or.inr ⟨q, el⟩)
    | inr l =>
      rw [el] at e3
      exact absurd e3 z3
/-- the reference takes the same LAW -/
theorem m_text1 (h : MA M dr a σ) : Ok (fX10_text σ (M.1 0) 1) (fun r t => ((4 ≤ a.2.1.1 ∨ ∃ q, lawT a.1 = .inl q) → r = -1 ∧ MA M dr a t) ∧ ∀ l, lawT a.1 = .inr l → a.2.1.1 < 4 → ∀ c : Nat → Int32, (∀ i u, (l.flatMap clC)[i]? = some u → c i = enT u) → r = nI a.2.1.1 ∧ MA M dr (lawN a (evC (l.flatMap clC).length c)) t) := by
  have h0 := h
  obtain ⟨J, Q, hv, hr⟩ := h
  have hl4 := hr.2.1.2.1
  unfold fX10_text
  refine Ok.j1 (Ok.bF (by decide) (Ok.bT rfl (Ok.r ((nr_13 hv).trans (congrArg some hr.2.1.1)) (Ok.bI (show nI 4 ≤ nI a.2.1.1 ↔ 4 ≤ a.2.1.1 from nI_leI (by omega) (by omega)) (fun z => ?_) (fun z => ?_)))))
  · exact Ok.p ⟨fun _ => ⟨rfl, h0⟩, fun l _ q => by omega⟩
  · refine Ok.r ((nr_13 hv).trans (congrArg some hr.2.1.1)) (Ok.v (nO hv) (r_readLaw h0 (Nat.le_refl _) hl4) ?_)
    rintro r1 t1 ⟨rfl, g1⟩
    cases el : lawT a.1 with
    | inl q =>
      rw [el] at g1
      refine Ok.bF (fun e => ?_) (Ok.p ⟨fun _ => ⟨rfl, g1⟩, fun l q => by cases q⟩)
      have hq : ∀ q', some q = some q' → q' < 1000 := by
        obtain ⟨x3, t4, e3, e4, g⟩ := r_readLaw h0 (Nat.le_refl _) hl4
        intro q' e
        cases e
        have := lw_flt 241 0 q (by omega) el
        have := hr.1.2.1
        omega
      cases (oI_m1 hq).mp e
    | inr l =>
      rw [el] at g1
      obtain ⟨J, Q, v1, m1, k1, k2, k3, k4⟩ := g1
      refine Ok.bT rfl ?_
      refine Ok.w (v1.putI 2 0 (by decide) (fun _ => rfl) (Nat.le_of_ble_eq_true rfl) (fun _ => rfl)) ?_
      intro t2 v2
      have e13 := nr_13 v2
      rw [pk_un (by decide), m1.2.1.1] at e13
      refine Ok.r e13 ?_
      rw [nI_1]
      refine Ok.w (v2.putI 13 (nI (a.2.1.1 + 1)) (by decide) (fun _ => rfl) (Nat.le_of_ble_eq_true rfl) (fun _ => rfl)) ?_
      intro t3 v3
      have e13' := nr_13 v3
      rw [pk_us] at e13'
      refine Ok.r e13' ?_
      rw [nI_pred]
      refine Ok.p ⟨fun q => q.elim (fun q => absurd q z) (fun ⟨q, e⟩ => by cases e), fun l' e _ c hc => ?_⟩
      cases e
      refine ⟨rfl, _, Q, v3, ?_⟩
      obtain ⟨h1, ⟨l1, l2, l3, l4, l5⟩, h3, ⟨h4, h5⟩, h6, h7, h8, h9, h10⟩ := m1
      have hn' : ∀ k, k ≠ 2 ∧ k ≠ 13 → upd (upd J 2 0) 13 (nI (a.2.1.1 + 1)) k = J k := fun k q => by rw [pk_un q.2, pk_un q.1]
      refine ⟨⟨by rw [pk_un (by decide)]; exact pk_us, by show (0 : Nat) ≤ 240; omega, fun i hi => absurd hi (Nat.not_lt_zero i)⟩, ⟨pk_us, by show a.2.1.1 + 1 ≤ 4; omega, (hn' _ (by decide)).trans l3, fun i e => Nat.lt_succ_of_lt (l4 i e), fun i hi => ?_⟩, h3.fr (hn' _ (by decide)) rfl, ⟨h4.fr (hn' _ (by decide)) (hn' _ (by decide)) rfl rfl, h5⟩, h6, h7.fr (hn' _ (by decide)) rfl, h8.fr (hn' _ (by decide)) rfl, h9.fr (hn' _ (by decide)) rfl rfl rfl, h10.fr (hn' _ (by decide)) rfl rfl⟩
      have hi' : i < a.2.1.1 + 1 := hi
      show LawM Q i (if i = a.2.1.1 then evC (l.flatMap clC).length c else a.2.1.2.1 i)
      by_cases q : i = a.2.1.1
      · rw [if_pos q, q]
        exact law_both el hc k1 k2 k3 k4
      · rw [if_neg q]
        exact l5 i (by omega)
end
