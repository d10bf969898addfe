/-! the reference: kept, passed, taken back, logged, drawn -/
section
variable {M : Mfg} {dr : Int64} {a : Abs} {σ : St}
theorem ma_keep (h : MA M dr a σ) (ok : LdOK a.2.2.2) : Ok (fX10_keep σ (M.1 0)) (fun _ t => MA M dr (setD a (keepD a.2.2.2)) t) := by
  obtain ⟨J, Q, hv, hr⟩ := h
  obtain ⟨h1, h2, h3, ⟨h4, h5⟩, h6, ⟨e33, hl, hA⟩, h8, h9, h10⟩ := hr
  have okn : ScOK (dN a.2.2.2) := ok.1.1
  have o30 := okn.c30
  have o4 := okn.t
  have hlg : (dG a.2.2.2).length = min 60 (qU (dN a.2.2.2)) := ok.1.2.2.2.1
  -- the row copied to place n, l the acts that stay
  have fin : ∀ (n : Nat) (l : List Snp) (g : Nat → Int32) (t2 : St), n < 40 → l.length = n → MV M (upd J 33 (nI n)) (updR Q 32 g) dr t2 → (∀ j e, l[j]? = some e → SnOK (dN a.2.2.2) e ∧ StR g (223 * (n - 1 - j)) e) → (a.2.2.2.1 :: dA a.2.2.2).take 40 = a.2.2.2.1 :: l → Ok (lo2 (fun l6 (x4 : Int32) (t5 : St) =>
      if 223 ≤ x4 then
      (gI 10 33 t5 (M.1 0)).bind fun x7 =>
      (pV 10 33 t5 (M.1 0) (.int (x7 + 1))).bind (fun t8 =>
      some ((), t8))
    else
      (gR 10 32 t5 (M.1 0)).bind fun a9 =>
      (gI 10 33 t5 (M.1 0)).bind fun x10 =>
      (gR 10 28 t5 (M.1 0)).bind fun a11 =>
      (aI 0 t5 a11 x4).bind fun x12 =>
      (sI 0 t5 a9 ((223 * x10) + x4) x12).bind (fun t13 =>
      l6 (x4 + 1) t13)) FU 0 t2) (fun _ t => MA M dr (setD a (keepD a.2.2.2)) t) := by
    intro n l g t2 hn hln v2 hS htk
    have j33 : upd J 33 (nI n) 33 = nI n := pk_us
    refine Ok.f2 223 0 (fun k x t => x = nI k ∧ MV M (upd J 33 (nI n)) (updR Q 32 (va_cpy (Q 28) g 0 (223 * n) k)) dr t) (by omega) (by omega) ⟨rfl, by rw [cpy_0]; exact v2⟩ ?_ ?_
    · rintro j k x t hk ⟨rfl, v⟩ hj
      refine Ok.bF (nI_ge hk (by decide)) (Ok.r (nr_32 v) (Ok.r ((nr_33 v).trans (congrArg some j33)) (Ok.r (nr_28 v) (Ok.r (na_28 v hk) ?_))))
      rw [show (223 * nI n) + nI k = nI (223 * n + k) from by rw [show (223 : Int32) = nI 223 from rfl, pk_mul, nI_add], nI_1]
      refine Ok.w (v.putN 32 (223 * n + k) _ rfl rfl (fun _ => rfl) (by omega) (by decide)) ?_
      intro t3 v3
      refine hj _ _ ⟨rfl, v3.congr rfl ?_ rfl⟩
      rw [updR_updR, updR_s, updR_n _ _ (show (28 : Nat) ≠ 32 by decide)]
      have := cpy_s (f := Q 28) (g := g) (sp := 0) (dp := 223 * n) (k := k)
      rw [Nat.zero_add] at this
      rw [this]
    · rintro j x t ⟨rfl, v⟩
      refine Ok.bT (by decide) (Ok.r ((nr_33 v).trans (congrArg some j33)) ?_)
      rw [nI_1]
      refine Ok.w (v.putI 33 _ (by decide) (fun _ => rfl) (Nat.le_of_ble_eq_true rfl) (fun _ => rfl)) ?_
      intro t3 v3
      refine Ok.p ⟨_, _, v3, ?_⟩
      have hI : ∀ k, k ≠ 33 → upd (upd J 33 (nI n)) 33 (nI (n + 1)) k = J k := fun k hk => (pk_un hk).trans (pk_un hk)
      have hR : ∀ k, k ≠ 32 → updR Q 32 (va_cpy (Q 28) g 0 (223 * n) 223) k = Q k := fun k hk => updR_n _ _ hk
      refine ⟨h1.fr (hI _ (by decide)) (hR _ (by decide)), h2.fr (hI _ (by decide)) (hI _ (by decide)) (fun k q1 q2 => hR _ (by omega)), h3.fr (hI _ (by decide)) (hR _ (by decide)), ⟨h4.fr (hI _ (by decide)) (hI _ (by decide)) (hR _ (by decide)) (hR _ (by decide)), ?_⟩, h6.fr (hR _ (by decide)) (hR _ (by decide)) (hR _ (by decide)), ?_, h8.fr (hI _ (by decide)) (hR _ (by decide)), h9.fr (hI _ (by decide)) (hR _ (by decide)) (hR _ (by decide)) (hR _ (by decide)), h10.fr (hI _ (by decide)) (hR _ (by decide)) (hR _ (by decide))⟩
      · rw [hR 28 (by decide)]; exact h5
      · show mAct _ _ ((a.2.2.2.1 :: dA a.2.2.2).take 40)
        rw [htk]
        refine ⟨?_, ?_, fun j e hj => ?_⟩
        · rw [List.length_cons, hln]; exact pk_us
        · rw [List.length_cons, hln]; omega
        · rw [List.length_cons, hln, updR_s]
          match j, hj with
          | 0, hj =>
            simp only [List.getElem?_cons_zero, Option.some.injEq] at hj
            subst hj
            refine h5.cong o30.1 o4.2 (by show (dG a.2.2.2).length ≤ 60; omega) (fun i hi => ?_)
            rw [pk_cpy_in (by omega) (by omega)]
            congr 1; omega
          | j + 1, hj =>
            simp only [List.getElem?_cons_succ] at hj
            obtain ⟨k1, k2⟩ := hS j e hj
            have jl : j < l.length := (List.getElem?_eq_some_iff.mp hj).1
            have k30 := k1.1.c30
            have k4 := k1.1.t
            have kl := k1.2.2.2.1
            rw [show n + 1 - 1 - (j + 1) = n - 1 - j by omega]
            refine k2.cong (by omega) (by omega) (by omega) (fun i hi => ?_)
            rw [pk_cpy_out (by omega)]
  unfold fX10_keep
  refine Ok.r ((nr_33 hv).trans (congrArg some e33)) (Ok.j1 (Ok.bI (nI_eq (b := 40) (by omega) (by omega)) (fun e => ?_) (fun e => ?_)))
  · -- full: the oldest goes
    refine Ok.f2 8920 223 (fun k x t => x = nI k ∧ 223 ≤ k ∧ MV M J (updR Q 32 (fun i => if i + 223 < k then Q 32 (i + 223) else Q 32 i)) dr t) (by omega) (by omega) ⟨rfl, by omega, ?_⟩ ?_ ?_
    · refine hv.congr rfl ?_ rfl
      funext k
      by_cases q : k = 32
      · subst q
        rw [updR_s]
        funext i
        rw [if_neg (by omega)]
      · rw [updR_n _ _ q]
    · rintro j k x t hk ⟨rfl, hk2, v⟩ hj
      refine Ok.bF (nI_ge hk (by decide)) (Ok.r (nr_32 v) (Ok.r (nr_32 v) (Ok.r (na_32 v hk) ?_)))
      rw [show nI k - 223 = nI (k - 223) from pk_sub (b := 223) hk2, nI_1]
      refine Ok.w (v.putN 32 (k - 223) _ rfl rfl (fun _ => rfl) (by omega) (by decide)) ?_
      intro t3 v3
      refine hj _ _ ⟨rfl, by omega, v3.congr rfl ?_ rfl⟩
      rw [updR_updR, updR_s]
      congr 1
      funext i
      unfold upd
      by_cases q : i = k - 223
      · rw [if_pos q, if_neg (by omega), if_pos (by omega), show i + 223 = k by omega]
      · rw [if_neg q]
        show (if i + 223 < k then Q 32 (i + 223) else Q 32 i) = _
        by_cases q2 : i + 223 < k
        · rw [if_pos q2, if_pos (by omega)]
        · rw [if_neg q2, if_neg (by omega)]
    · rintro j x t ⟨rfl, hk2, v⟩
      refine Ok.bT (by decide) (Ok.r ((nr_33 v).trans (congrArg some e33)) ?_)
      rw [e, show nI 40 - 1 = nI 39 from by decide]
      refine Ok.w (v.putI 33 _ (by decide) (fun _ => rfl) (Nat.le_of_ble_eq_true rfl) (fun _ => rfl)) ?_
      intro t3 v3
      refine fin 39 ((dA a.2.2.2).take 39) _ t3 (by decide) (by rw [List.length_take]; omega) v3 (fun j e' hj => ?_) (by rw [List.take_succ_cons])
      rw [List.getElem?_take] at hj
      by_cases j39 : j < 39
      case neg => rw [if_neg j39] at hj; exact absurd hj (by simp)
      rw [if_pos j39] at hj
      have k1 := ok.2.2.1 e' (List.mem_of_getElem? hj)
      have k30 := k1.1.c30
      have k4 := k1.1.t
      have kl := k1.2.2.2.1
      refine ⟨k1, (hA j e' hj).cong (by omega) (by omega) (by omega) (fun i hi => ?_)⟩
      rw [if_pos (by omega), e]
      congr 1; omega
  · refine fin (dA a.2.2.2).length (dA a.2.2.2) (Q 32) σ (by omega) rfl (hv.congr (upd_id e33).symm (updR_id rfl).symm rfl) (fun j e' hj => ⟨ok.2.2.1 e' (List.mem_of_getElem? hj), hA j e' hj⟩) ?_
    rw [List.take_of_length_le (by rw [List.length_cons]; omega)]
theorem ma_undo (h : MA M dr a σ) (ok : NoLd a.2.2.2 ∨ LdOK a.2.2.2) : Ok (fX10_undo σ (M.1 0)) (fun r t => r = (undoA a).1 ∧ MA M dr (undoA a).2 t) := by
  obtain ⟨J, Q, hv, hr⟩ := h
  have hr0 := hr
  obtain ⟨h1, h2, h3, ⟨h4, h5⟩, h6, ⟨e33, hl, hA⟩, h8, h9, h10⟩ := hr
  unfold fX10_undo undoA
  cases q : dA a.2.2.2 with
  | nil =>
    rw [q] at e33
    exact Ok.r ((nr_33 hv).trans (congrArg some e33)) (Ok.bT (by decide) (Ok.p ⟨rfl, J, Q, hv, hr0⟩))
  | cons e l =>
    have ok : LdOK a.2.2.2 := by
      rcases ok with n | ok
      · have := n.2.2.2.2.2.1
        rw [q] at this; exact absurd this (by simp)
      · exact ok
    rw [q] at e33 hl hA
    rw [List.length_cons] at e33 hl
    have oke := ok.2.2.1 e (by rw [q]; exact List.mem_cons_self)
    have k30 := oke.1.c30
    have k4 := oke.1.t
    have kl := oke.2.2.2.1
    refine Ok.r ((nr_33 hv).trans (congrArg some e33)) (Ok.bF (nI_ne0 (by omega) (by omega)) (Ok.r ((nr_33 hv).trans (congrArg some e33)) ?_))
    rw [nI_pred]
    refine Ok.w (hv.putI 33 _ (by decide) (fun _ => rfl) (Nat.le_of_ble_eq_true rfl) (fun _ => rfl)) ?_
    intro t1 v1
    have j33 : upd J 33 (nI l.length) 33 = nI l.length := pk_us
    refine Ok.f2 223 0 (fun k x t => x = nI k ∧ MV M (upd J 33 (nI l.length)) (updR Q 28 (va_cpy (Q 32) (Q 28) (223 * l.length) 0 k)) dr t) (by omega) (by omega) ⟨rfl, by rw [cpy_0, updR_id rfl]; exact v1⟩ ?_ ?_
    · rintro j k x t hk ⟨rfl, v⟩ hj
      refine Ok.bF (nI_ge hk (by decide)) (Ok.r (nr_28 v) (Ok.r (nr_32 v) (Ok.r ((nr_33 v).trans (congrArg some j33)) ?_)))
      rw [show (223 * nI l.length) + nI k = nI (223 * l.length + k) from by rw [show (223 : Int32) = nI 223 from rfl, pk_mul, nI_add], nI_1]
      refine Ok.r (na_32 v (by omega)) (Ok.w (v.putN 28 k _ rfl rfl (fun _ => rfl) hk (by decide)) ?_)
      intro t3 v3
      refine hj _ _ ⟨rfl, v3.congr rfl ?_ rfl⟩
      rw [updR_updR, updR_s, updR_n _ _ (show (32 : Nat) ≠ 28 by decide)]
      have := cpy_s (f := Q 32) (g := Q 28) (sp := 223 * l.length) (dp := 0) (k := k)
      rw [Nat.zero_add] at this
      rw [this]
    · rintro j x t ⟨rfl, v⟩
      refine Ok.bT (by decide) (Ok.r ((nr_33 v).trans (congrArg some j33)) (Ok.p ⟨rfl, _, _, v, ?_⟩))
      have hI : ∀ k, k ≠ 33 → upd J 33 (nI l.length) k = J k := fun k hk => pk_un hk
      have hR : ∀ k, k ≠ 28 → updR Q 28 (va_cpy (Q 32) (Q 28) (223 * l.length) 0 223) k = Q k := fun k hk => updR_n _ _ hk
      refine ⟨h1.fr (hI _ (by decide)) (hR _ (by decide)), h2.fr (hI _ (by decide)) (hI _ (by decide)) (fun k q1 q2 => hR _ (by omega)), h3.fr (hI _ (by decide)) (hR _ (by decide)), ⟨(h4.mv oke.2.1).fr (hI _ (by decide)) (hI _ (by decide)) (hR _ (by decide)) (hR _ (by decide)), ?_⟩, h6.fr (hR _ (by decide)) (hR _ (by decide)) (hR _ (by decide)), ⟨j33, (show l.length ≤ 40 by omega), fun j e' hj => ?_⟩, h8.fr (hI _ (by decide)) (hR _ (by decide)), h9.fr (hI _ (by decide)) (hR _ (by decide)) (hR _ (by decide)) (hR _ (by decide)), h10.fr (hI _ (by decide)) (hR _ (by decide)) (hR _ (by decide))⟩
      · rw [updR_s]
        have := hA 0 e rfl
        rw [List.length_cons] at this
        refine this.cong (by omega) (by omega) (by omega) (fun i hi => ?_)
        rw [pk_cpy_in (by omega) (by omega)]
        congr 1; omega
      · rw [hR 32 (by decide)]
        have hj1 : l[j]? = some e' := hj
        have := hA (j + 1) e' (by simpa using hj1)
        rw [List.length_cons, show l.length + 1 - 1 - (j + 1) = l.length - 1 - j by omega] at this
        exact this
theorem ma_log (h : MA M dr a σ) (ok : NoLd a.2.2.2 ∨ LdOK a.2.2.2) (v w : Int32) : fX10_log σ (M.1 0) v w = some (logA (dG a.2.2.2) v w, σ) := by
  have hlen : (dG a.2.2.2).length ≤ 60 := by
    rcases ok with n | ok
    · rw [n.2.2.2.2.1]; decide
    · have : (dG a.2.2.2).length = min 60 (qU (dN a.2.2.2)) := ok.1.2.2.2.1
      omega
  refine Ok.toE ?_
  have h0 := h
  obtain ⟨J, Q, hv, hr⟩ := h
  unfold fX10_log
  refine Ok.r (nr_28 hv) (Ok.r (ma_N h0) (Ok.cE (f_inN σ v (by omega)) ?_))
  rcases ixc v (n := (dG a.2.2.2).length) (by omega) with ⟨e, hn⟩ | ⟨i, hi, rfl, e⟩
  · have el : logA (dG a.2.2.2) v w = -1 := by simp [logA, e]
    rw [el, decide_eq_false hn]
    exact Ok.bT rfl (Ok.p ⟨rfl, rfl⟩)
  · rw [decide_eq_true (ix_in hi (by omega))]
    refine Ok.bF (by decide) (Ok.cE (show fX10_in σ w 0 2 = some (bI (decide (¬ w < 0 ∧ w < nI 3)), σ) from f_inN σ w (n := 3) (by decide)) ?_)
    rcases ixc w (n := 3) (by decide) with ⟨e3, hn3⟩ | ⟨j, hj, rfl, e3⟩
    · rw [decide_eq_false hn3]
      exact Ok.bT rfl (Ok.p ⟨by simp [logA, e, e3], rfl⟩)
    · rw [decide_eq_true (ix_in hj (by decide))]
      refine Ok.bF (by decide) (Ok.r (nr_28 hv) (Ok.r (nr_28 hv) (Ok.r (ma_N h0) ?_)))
      rw [show nI (dG a.2.2.2).length - 1 = nI ((dG a.2.2.2).length - 1) from pk_sub (b := 1) (by omega), show nI ((dG a.2.2.2).length - 1) - nI i = nI ((dG a.2.2.2).length - 1 - i) from pk_sub (by omega), show (43 + (3 * nI ((dG a.2.2.2).length - 1 - i))) + nI j = nI (43 + 3 * ((dG a.2.2.2).length - 1 - i) + j) from by rw [show (3 : Int32) = nI 3 from rfl, pk_mul, show (43 : Int32) = nI 43 from rfl, nI_add, nI_add]]
      obtain ⟨en, hen⟩ : ∃ en, (dG a.2.2.2)[i]? = some en := ⟨_, List.getElem?_eq_getElem hi⟩
      have := hr.2.2.2.1.2.2.2.2.2.2.2.2 i en hen j hj
      rw [Nat.zero_add] at this
      refine Ok.r ((na_28 hv (by omega)).trans (congrArg some this)) (Ok.p ⟨?_, rfl⟩)
      simp [logA, e, e3, hen]
theorem ma_image (h : MA M dr a σ) (ok : NoLd a.2.2.2 ∨ LdOK a.2.2.2) : Ok (fX10_image σ (M.1 0)) (fun r t => r = (if qC (dN a.2.2.2) = 0 then (-1, a) else (nI (qU (dN a.2.2.2)), setD a (imageD a.2.2.2))).1 ∧ MA M dr (if qC (dN a.2.2.2) = 0 then ((-1 : Int32), a) else (nI (qU (dN a.2.2.2)), setD a (imageD a.2.2.2))).2 t) := by
  have hC : qC (dN a.2.2.2) ≤ 30 := by
    rcases ok with n | ok
    · rw [n.1]; omega
    · exact ok.1.1.c30.1
  unfold fX10_image
  by_cases e : qC (dN a.2.2.2) = 0
  · rw [if_pos e]
    exact Ok.r (ma_cells h) (Ok.bT (by rw [e]; rfl) (Ok.p ⟨rfl, h⟩))
  rw [if_neg e]
  have ok : LdOK a.2.2.2 := ok.resolve_left (fun n => e n.1)
  have okn : ScOK (dN a.2.2.2) := ok.1.1
  have o4 := okn.t
  have hlg : (dG a.2.2.2).length = min 60 (qU (dN a.2.2.2)) := ok.1.2.2.2.1
  refine Ok.r (ma_cells h) (Ok.bF (nI_ne0 (by omega) (by omega)) ?_)
  obtain ⟨J, Q, hv, hr⟩ := h
  obtain ⟨h1, h2, h3, ⟨h4, h5⟩, h6, h7, h8, h9, h10⟩ := hr
  refine Ok.f2 223 0 (fun k x t => x = nI k ∧ MV M J (updR Q 44 (va_cpy (Q 28) (Q 44) 0 0 k)) dr t) (by omega) (by omega) ⟨rfl, by rw [cpy_0, updR_id rfl]; exact hv⟩ ?_ ?_
  · rintro j k x t hk ⟨rfl, v⟩ hj
    refine Ok.bF (nI_ge hk (by decide)) (Ok.r (nr_44 v) (Ok.r (nr_28 v) (Ok.r (na_28 v hk) ?_)))
    rw [nI_1]
    refine Ok.w (v.putN 44 k _ rfl rfl (fun _ => rfl) hk (by decide)) ?_
    intro t3 v3
    refine hj _ _ ⟨rfl, v3.congr rfl ?_ rfl⟩
    rw [updR_updR, updR_s, updR_n _ _ (show (28 : Nat) ≠ 44 by decide)]
    have := cpy_s (f := Q 28) (g := Q 44) (sp := 0) (dp := 0) (k := k)
    rw [Nat.zero_add] at this
    rw [this]
  · rintro j x t ⟨rfl, v⟩
    refine Ok.bT (by decide) (Ok.bT (by decide) (Ok.w (v.putI 45 _ (by decide) (fun _ => rfl) (Nat.le_of_ble_eq_true rfl) (fun _ => rfl)) ?_))
    intro t3 v3
    have hI : ∀ k, k ≠ 45 → upd J 45 1 k = J k := fun k hk => pk_un hk
    have hR : ∀ k, k ≠ 44 → updR Q 44 (va_cpy (Q 28) (Q 44) 0 0 223) k = Q k := fun k hk => updR_n _ _ hk
    have m3 : MA M dr (setD a (imageD a.2.2.2)) t3 := by
      refine ⟨_, _, v3, h1.fr (hI _ (by decide)) (hR _ (by decide)), h2.fr (hI _ (by decide)) (hI _ (by decide)) (fun k q1 q2 => hR _ (by omega)), h3.fr (hI _ (by decide)) (hR _ (by decide)), ⟨h4.fr (hI _ (by decide)) (hI _ (by decide)) (hR _ (by decide)) (hR _ (by decide)), ?_⟩, h6.fr (hR _ (by decide)) (hR _ (by decide)) (hR _ (by decide)), h7.fr (hI _ (by decide)) (hR _ (by decide)), Or.inr ⟨_, rfl, pk_us, ?_⟩, h9.fr (hI _ (by decide)) (hR _ (by decide)) (hR _ (by decide)) (hR _ (by decide)), h10.fr (hI _ (by decide)) (hR _ (by decide)) (hR _ (by decide))⟩
      · rw [hR 28 (by decide)]; exact h5
      · rw [updR_s]
        refine h5.cong hC o4.2 (by show (dG a.2.2.2).length ≤ 60; omega) (fun i hi => ?_)
        rw [pk_cpy_in (by omega) (by omega)]
        congr 1; omega
    exact Ok.r (ma_nr m3) (Ok.r (ma_U m3) (Ok.p ⟨rfl, m3⟩))
theorem ma_back (h : MA M dr a σ) (ok : NoLd a.2.2.2 ∨ LdOK a.2.2.2) : Ok (fX10_back σ (M.1 0)) (fun r t => r = (backA a).1 ∧ MA M dr (backA a).2 t) := by
  have h0 := h
  obtain ⟨J, Q, hv, hr⟩ := h
  obtain ⟨h1, h2, h3, ⟨h4, h5⟩, h6, h7, h8, h9, h10⟩ := hr
  unfold fX10_back backA
  rcases h8 with ⟨q, i6⟩ | ⟨e, q, i6, c1⟩
  · rw [q]
    exact Ok.r ((nr_45 hv).trans (congrArg some i6)) (Ok.bT rfl (Ok.p ⟨rfl, h0⟩))
  · rw [q]
    have ok : LdOK a.2.2.2 := by
      rcases ok with n | ok
      · rw [n.2.2.2.2.2.2.1] at q; exact absurd q (by simp)
      · exact ok
    have oke := ok.2.2.2.2.1 e q
    have k30 := oke.1.c30
    have k4 := oke.1.t
    have kl := oke.2.2.2.1
    refine Ok.r ((nr_45 hv).trans (congrArg some i6)) (Ok.bF (by decide) ?_)
    refine Ok.f2 223 0 (fun k x t => x = nI k ∧ MV M J (updR Q 28 (va_cpy (Q 44) (Q 28) 0 0 k)) dr t) (by omega) (by omega) ⟨rfl, by rw [cpy_0, updR_id rfl]; exact hv⟩ ?_ ?_
    · rintro j k x t hk ⟨rfl, v⟩ hj
      refine Ok.bF (nI_ge hk (by decide)) (Ok.r (nr_28 v) (Ok.r (nr_44 v) (Ok.r (na_44 v hk) ?_)))
      rw [nI_1]
      refine Ok.w (v.putN 28 k _ rfl rfl (fun _ => rfl) hk (by decide)) ?_
      intro t3 v3
      refine hj _ _ ⟨rfl, v3.congr rfl ?_ rfl⟩
      rw [updR_updR, updR_s, updR_n _ _ (show (44 : Nat) ≠ 28 by decide)]
      have := cpy_s (f := Q 44) (g := Q 28) (sp := 0) (dp := 0) (k := k)
      rw [Nat.zero_add] at this
      rw [this]
    · rintro j x t ⟨rfl, v⟩
      refine Ok.bT (by decide) (Ok.w (v.putI 33 _ (by decide) (fun _ => rfl) (Nat.le_of_ble_eq_true rfl) (fun _ => rfl)) ?_)
      intro t3 v3
      have hI : ∀ k, k ≠ 33 → upd J 33 0 k = J k := fun k hk => pk_un hk
      have hR : ∀ k, k ≠ 28 → updR Q 28 (va_cpy (Q 44) (Q 28) 0 0 223) k = Q k := fun k hk => updR_n _ _ hk
      have m3 : MA M dr (setD a (e, a.2.2.2.2.1, [], a.2.2.2.2.2.2)) t3 := by
        refine ⟨_, _, v3, h1.fr (hI _ (by decide)) (hR _ (by decide)), h2.fr (hI _ (by decide)) (hI _ (by decide)) (fun k q1 q2 => hR _ (by omega)), h3.fr (hI _ (by decide)) (hR _ (by decide)), ⟨(h4.mv oke.2.1).fr (hI _ (by decide)) (hI _ (by decide)) (hR _ (by decide)) (hR _ (by decide)), ?_⟩, h6.fr (hR _ (by decide)) (hR _ (by decide)) (hR _ (by decide)), ⟨pk_us, (show ([] : List Snp).length ≤ 40 from by decide), fun j e' hj => by have q9 : ([] : List Snp)[j]? = some e' := hj; simp at q9⟩, Or.inr ⟨e, q, (hI _ (by decide)).trans i6, ?_⟩, h9.fr (hI _ (by decide)) (hR _ (by decide)) (hR _ (by decide)) (hR _ (by decide)), h10.fr (hI _ (by decide)) (hR _ (by decide)) (hR _ (by decide))⟩
        · rw [updR_s]
          refine c1.cong (by omega) (by omega) (by omega) (fun i hi => ?_)
          rw [pk_cpy_in (by omega) (by omega)]
          congr 1; omega
        · rw [hR 44 (by decide)]; exact c1
      exact Ok.r (ma_nr m3) (Ok.r (ma_U m3) (Ok.p ⟨rfl, m3⟩))
end
