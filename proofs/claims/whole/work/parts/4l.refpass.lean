/-! an hour passes in the reference -/
theorem max_i {a : Nat} (ha : a ≤ 9) : (if 0 < nI a - 1 then nI a - 1 else 0) = nI (a - 1) := by
  have : ∀ a, a < 10 → (if 0 < nI a - 1 then nI a - 1 else 0) = nI (a - 1) := by decide +kernel
  exact this a (by omega)
section
variable {M : Mfg} {dr : Int64} {a : Abs} {σ : St}
set_option maxHeartbeats 1000000 in
theorem ma_pass (h : MA M dr a σ) (ok : LdOK a.2.2.2) : Ok (fX10_passHour σ (M.1 0)) (fun _ t => MA M dr (setD a (passD (rul a.2.1) a.2.2.2)) t) := by
  have okn : ScOK (dN a.2.2.2) := ok.1.1
  have o30 := okn.c30
  have o4 := okn.t
  have oF := okn.f
  have oU := okn.u
  have oK : qK (dN a.2.2.2) ≤ 999 := okn.2.2.2.2.2.1
  have oB : qB (dN a.2.2.2) < 16 := okn.2.2.2.2.2.2.2.1
  have oc := hidC (dN a.2.2.2) (rul a.2.1) okn
  have hlg : (dG a.2.2.2).length = min 60 (qU (dN a.2.2.2)) := ok.1.2.2.2.1
  have h0 := h
  obtain ⟨J, Q, hv, hr⟩ := h
  have hrs := hr.rsr
  have hru := hr.ruM
  have hlog := hr.2.2.2.1.2.2.2.2.2.2.2.2
  simp only [Nat.zero_add] at hlog
  obtain ⟨r1, r2, r3, rG, rT, rB, rF, rK, rU⟩ := hrs
  -- behind the shift: a row r of the same scene with n logged, n below 60
  have fin : ∀ (n : Nat) (r : Nat → Int32) (t3 : St), n < 60 → MV M J (updR Q 28 r) dr t3 → (∀ i, i < 42 → r i = Q 28 i) → r 42 = nI n → ((fa_cnt (hidB (dN a.2.2.2) (rul a.2.1)) (qC (dN a.2.2.2)), qB (dN a.2.2.2), qF (dN a.2.2.2)) :: dG a.2.2.2).take 60 = (fa_cnt (hidB (dN a.2.2.2) (rul a.2.1)) (qC (dN a.2.2.2)), qB (dN a.2.2.2), qF (dN a.2.2.2)) :: (dG a.2.2.2).take n → ((dG a.2.2.2).take n).length = n → (∀ i x, ((dG a.2.2.2).take n)[i]? = some x → ∀ k, k < 3 → r (43 + 3 * (n - 1 - i) + k) = nI (entW x k)) → Ok ((gR 10 28 t3 (M.1 0)).bind fun a5 =>
    (aI 0 t3 a5 42).bind fun x6 =>
    nam (43 + (3 * x6) : Int32) (fun x7 =>
    (gR 10 28 t3 (M.1 0)).bind fun a8 =>
    bo 10 t3 (M.1 0) (fX10_hid t3 (M.1 0)) (fun x9 t10 =>
    bd (fJ6_bitCount_0f7a4 t10 x9) (fun x11 t12 =>
    (sI 0 t12 a8 x7 x11).bind (fun t13 =>
    (gR 10 28 t13 (M.1 0)).bind fun a14 =>
    (gR 10 28 t13 (M.1 0)).bind fun a15 =>
    (aI 0 t13 a15 38).bind fun x16 =>
    (sI 0 t13 a14 (x7 + 1) x16).bind (fun t17 =>
    (gR 10 28 t17 (M.1 0)).bind fun a18 =>
    (gR 10 28 t17 (M.1 0)).bind fun a19 =>
    (aI 0 t17 a19 39).bind fun x20 =>
    (sI 0 t17 a18 (x7 + 2) x20).bind (fun t21 =>
    (gR 10 28 t21 (M.1 0)).bind fun a22 =>
    (aI 0 t21 a22 42).bind fun x23 =>
    (sI 0 t21 a22 42 (x23 + 1)).bind (fun t24 =>
    (gR 10 28 t24 (M.1 0)).bind fun a25 =>
    (gR 10 28 t24 (M.1 0)).bind fun a26 =>
    (aI 0 t24 a26 39).bind fun x27 =>
    bd (fJ9_max_7cf53 t24 0 (x27 - 1)) (fun x28 t29 =>
    (sI 0 t29 a25 39 x28).bind (fun t30 =>
    (gR 10 28 t30 (M.1 0)).bind fun a31 =>
    (gR 10 28 t30 (M.1 0)).bind fun a32 =>
    (aI 0 t30 a32 40).bind fun x33 =>
    bd (fJ9_min_7cf53 t30 999 (x33 + 1)) (fun x34 t35 =>
    (sI 0 t35 a31 40 x34).bind (fun t36 =>
    (gR 10 28 t36 (M.1 0)).bind fun a37 =>
    (aI 0 t36 a37 41).bind fun x38 =>
    (sI 0 t36 a37 41 (x38 + 1)).bind (fun t39 =>
    some ((), t39)))))))))))))) (fun _ t => MA M dr (setD a (passD (rul a.2.1) a.2.2.2)) t) := by
    intro n r t3 hn v3 hlow h42 htk hln hent
    have rd : ∀ {r' : Nat → Int32} {τ : St}, MV M J (updR Q 28 r') dr τ → ∀ (i : Nat) (w : Int32), i < 223 → r' i = w → aI 0 τ (M.1 28) (nI i) = some w := fun {r' τ} v i w hi hw => (na_28 v hi).trans (congrArg some (by rw [updR_s]; exact hw))
    have wr : ∀ {r' : Nat → Int32} {τ : St}, MV M J (updR Q 28 r') dr τ → ∀ (i : Nat) (w : Int32), i < 223 → ∃ u, sI 0 τ (M.1 28) (nI i) w = some u ∧ MV M J (updR Q 28 (upd r' i w)) dr u := by
      intro r' τ v i w hi
      obtain ⟨u, e, h1⟩ := v.putN 28 i w rfl rfl (fun _ => rfl) hi (by decide)
      rw [updR_updR, updR_s] at h1
      exact ⟨u, e, h1⟩
    have rv : RV M J (updR Q 28 r) dr (dN a.2.2.2) t3 := by
      refine ⟨v3, ⟨r1, r2, ?_, ?_, ?_, ?_, ?_, ?_, ?_⟩, okn⟩
      · rw [updR_n _ _ (by decide)]; exact r3
      · intro i hi; rw [updR_s, hlow i (by omega)]; exact rG i hi
      · intro t ht; rw [updR_s, hlow _ (by omega), hlow _ (by omega), updR_n _ _ (by decide)]; exact rT t ht
      · rw [updR_s, hlow _ (by omega)]; exact rB
      · rw [updR_s, hlow _ (by omega)]; exact rF
      · rw [updR_s, hlow _ (by omega)]; exact rK
      · rw [updR_s, hlow _ (by omega)]; exact rU
    have ru : RulM J (updR Q 28 r) (rul a.2.1) := by
      rcases hru with q | ⟨i, f, q1, q2, q3, q4⟩
      · exact Or.inl q
      · exact Or.inr ⟨i, f, q1, q2, q3.fr (updR_n _ _ (by decide)) (updR_n _ _ (by decide)) (updR_n _ _ (by decide)) (updR_n _ _ (by decide)) (updR_n _ _ (by decide)) (updR_n _ _ (by decide)), q4⟩
    refine Ok.r (nr_28 v3) (Ok.r (rd v3 42 _ (by decide) h42) (Ok.nE (e' := nI (43 + 3 * n)) (by rw [show (3 : Int32) = nI 3 from rfl, pk_mul, show (43 : Int32) = nI 43 from rfl, nI_add]) (Ok.r (nr_28 v3) (Ok.v (nO v3) (m_hid rv ru) ?_))))
    rintro r4 t4 ⟨rfl, rv4⟩
    have v4 := rv4.1
    refine Ok.cE ((f_bitC _ _).trans (congrArg (fun z => some (z, t4)) (bitC_msk _ (by omega)))) (Ok.w (wr v4 (43 + 3 * n) _ (by omega)) ?_)
    intro t5 v5
    refine Ok.r (nr_28 v5) (Ok.r (nr_28 v5) (Ok.r (rd v5 38 (nI (qB (dN a.2.2.2))) (by decide) ((pk_un (by omega)).trans ((hlow _ (by decide)).trans rB))) ?_))
    rw [show nI (43 + 3 * n) + 1 = nI (43 + 3 * n + 1) from nI_add _ 1]
    refine Ok.w (wr v5 (43 + 3 * n + 1) _ (by omega)) ?_
    intro t6 v6
    refine Ok.r (nr_28 v6) (Ok.r (nr_28 v6) (Ok.r (rd v6 39 (nI (qF (dN a.2.2.2))) (by decide) ((pk_un (by omega)).trans ((pk_un (by omega)).trans ((hlow _ (by decide)).trans rF)))) ?_))
    rw [show nI (43 + 3 * n) + 2 = nI (43 + 3 * n + 2) from nI_add _ 2]
    refine Ok.w (wr v6 (43 + 3 * n + 2) _ (by omega)) ?_
    intro t7 v7
    refine Ok.r (nr_28 v7) (Ok.r (rd v7 42 (nI n) (by decide) ((pk_un (by omega)).trans ((pk_un (by omega)).trans ((pk_un (by omega)).trans h42)))) ?_)
    rw [nI_1]
    refine Ok.w (wr v7 42 _ (by decide)) ?_
    intro t8 v8
    refine Ok.r (nr_28 v8) (Ok.r (nr_28 v8) (Ok.r (rd v8 39 (nI (qF (dN a.2.2.2))) (by decide) ((pk_un (by omega)).trans ((pk_un (by omega)).trans ((pk_un (by omega)).trans ((pk_un (by omega)).trans ((hlow _ (by decide)).trans rF)))))) (Ok.cE ((f_max _ _ _).trans (congrArg (fun z => some (z, t8)) (max_i (by omega)))) (Ok.w (wr v8 39 _ (by decide)) ?_))))
    intro t9 v9
    refine Ok.r (nr_28 v9) (Ok.r (nr_28 v9) (Ok.r (rd v9 40 (nI (qK (dN a.2.2.2))) (by decide) ((pk_un (by omega)).trans ((pk_un (by omega)).trans ((pk_un (by omega)).trans ((pk_un (by omega)).trans ((pk_un (by omega)).trans ((hlow _ (by decide)).trans rK))))))) ?_))
    rw [nI_1]
    refine Ok.cE ((f_min _ _ _).trans (congrArg (fun z => some (z, t9)) (min_i (a := 999) (by omega) (by omega)))) (Ok.w (wr v9 40 _ (by decide)) ?_)
    intro t10 v10
    refine Ok.r (nr_28 v10) (Ok.r (rd v10 41 (nI (qU (dN a.2.2.2))) (by decide) ((pk_un (by omega)).trans ((pk_un (by omega)).trans ((pk_un (by omega)).trans ((pk_un (by omega)).trans ((pk_un (by omega)).trans ((pk_un (by omega)).trans ((hlow _ (by decide)).trans rU)))))))) ?_)
    rw [nI_1]
    refine Ok.w (wr v10 41 _ (by decide)) ?_
    intro t11 v11
    refine Ok.p ⟨_, _, v11, hr.now (e := (passS (dN a.2.2.2), ((fa_cnt (hidB (dN a.2.2.2) (rul a.2.1)) (qC (dN a.2.2.2)), qB (dN a.2.2.2), qF (dN a.2.2.2)) :: dG a.2.2.2).take 60)) ⟨rfl, rfl, rfl, rfl, fun _ _ => rfl⟩ ?_⟩
    rw [htk]
    refine ⟨fun i hi => ?_, fun t ht => ⟨?_, ?_⟩, ?_, ?_, ?_, ?_, ?_, ?_⟩
    · have hi' : i < qC (dN a.2.2.2) := hi
      simp only [upd_at, Nat.zero_add]
      repeat rw [if_neg (by omega)]
      exact (hlow i (by omega)).trans (rG i hi')
    · have ht' : t < qT (dN a.2.2.2) := ht
      simp only [upd_at, Nat.zero_add]
      repeat rw [if_neg (by omega)]
      exact (hlow _ (by omega)).trans (rT t ht').1
    · have ht' : t < qT (dN a.2.2.2) := ht
      simp only [upd_at, Nat.zero_add]
      repeat rw [if_neg (by omega)]
      exact (hlow _ (by omega)).trans (rT t ht').2.1
    · simp only [upd_at, Nat.zero_add]
      repeat rw [if_neg (by omega)]
      exact (hlow _ (by omega)).trans rB
    · simp only [upd_at, Nat.zero_add]
      rw [if_neg (by omega), if_neg (by omega), if_pos trivial]; rfl
    · simp only [upd_at, Nat.zero_add]
      rw [if_neg (by omega), if_pos trivial]; rfl
    · simp only [upd_at, Nat.zero_add]
      rw [if_pos trivial]; rfl
    · simp only [upd_at, Nat.zero_add]
      rw [if_neg (by omega), if_neg (by omega), if_neg (by omega), if_pos trivial, List.length_cons, hln]
    · intro i x hi k hk
      simp only [upd_at, Nat.zero_add]
      rw [List.length_cons, hln]
      match i, hi with
      | 0, hi =>
        simp only [List.getElem?_cons_zero, Option.some.injEq] at hi
        subst hi
        rw [if_neg (by omega), if_neg (by omega), if_neg (by omega), if_neg (by omega)]
        match k, hk with
        | 0, _ => rw [if_neg (by omega), if_neg (by omega), if_pos (by omega)]; rfl
        | 1, _ => rw [if_neg (by omega), if_pos (by omega)]; rfl
        | 2, _ => rw [if_pos (by omega)]; rfl
        | k + 3, h => omega
      | i + 1, hi =>
        simp only [List.getElem?_cons_succ] at hi
        have il : i < ((dG a.2.2.2).take n).length := (List.getElem?_eq_some_iff.mp hi).1
        rw [if_neg (by omega), if_neg (by omega), if_neg (by omega), if_neg (by omega), if_neg (by omega), if_neg (by omega), if_neg (by omega)]
        rw [show n + 1 - 1 - (i + 1) = n - 1 - i by omega]
        exact hent i x hi k hk
  unfold fX10_passHour
  refine Ok.r (nr_28 hv) (Ok.r (ma_N h0) (Ok.j1 (Ok.bI (nI_eq (b := 60) (by omega) (by omega)) (fun e => ?_) (fun e => ?_))))
  · refine Ok.f2 180 3 (fun k x t => x = nI k ∧ 3 ≤ k ∧ MV M J (updR Q 28 (fun i => if 43 ≤ i ∧ i + 3 < 43 + k then Q 28 (i + 3) else Q 28 i)) dr t) (by omega) (by omega) ⟨rfl, by omega, ?_⟩ ?_ ?_
    · refine hv.congr rfl ?_ rfl
      funext k
      by_cases q : k = 28
      · subst q
        rw [updR_s]
        funext i
        rw [if_neg (by omega)]
      · rw [updR_n _ _ q]
    · rintro j k x t hk ⟨rfl, hk2, v⟩ hj
      refine Ok.bF (nI_ge hk (by decide)) (Ok.r (nr_28 v) (Ok.r (nr_28 v) ?_))
      rw [show (43 : Int32) + nI k = nI (43 + k) from by rw [show (43 : Int32) = nI 43 from rfl, nI_add]]
      refine Ok.r (na_28 v (by omega)) ?_
      rw [show nI (43 + k) - 3 = nI (43 + k - 3) from pk_sub (b := 3) (by omega), nI_1]
      refine Ok.w (v.putN 28 (43 + k - 3) _ rfl rfl (fun _ => rfl) (by omega) (by decide)) ?_
      intro t3 v3
      refine hj _ _ ⟨rfl, by omega, v3.congr rfl ?_ rfl⟩
      rw [updR_updR, updR_s]
      congr 1
      funext i
      unfold upd
      by_cases q : i = 43 + k - 3
      · rw [if_pos q, if_neg (by omega), if_pos (by omega), show i + 3 = 43 + k by omega]
      · rw [if_neg q]
        show (if 43 ≤ i ∧ i + 3 < 43 + k then Q 28 (i + 3) else Q 28 i) = _
        by_cases q2 : 43 ≤ i ∧ i + 3 < 43 + k
        · rw [if_pos q2, if_pos (by omega)]
        · rw [if_neg q2, if_neg (by omega)]
    · rintro j x t ⟨rfl, hk2, v⟩
      have e42 : updR Q 28 (fun i => if 43 ≤ i ∧ i + 3 < 43 + 180 then Q 28 (i + 3) else Q 28 i) 28 42 = nI 60 := by
        rw [updR_s, if_neg (by omega)]
        have := hr.2.2.2.1.2.2.2.2.2.2.2.1
        rw [Nat.zero_add] at this
        rw [this]
        exact congrArg nI e
      refine Ok.bT (by decide) (Ok.r (nr_28 v) (Ok.r ((na_28 v (i := 42) (by decide)).trans (congrArg some e42)) (Ok.w (v.putN 28 42 _ rfl rfl (fun _ => rfl) (by decide) (by decide)) ?_)))
      intro t3 v3
      rw [updR_updR, updR_s] at v3
      refine fin 59 _ t3 (by decide) v3 (fun i hi => ?_) (pk_us.trans (by decide)) (by rw [List.take_succ_cons]) (by rw [List.length_take]; omega) ?_
      · rw [pk_un (by omega), if_neg (by omega)]
      · intro i x hi k hk
        rw [List.getElem?_take] at hi
        by_cases i59 : i < 59
        case neg => rw [if_neg i59] at hi; exact absurd hi (by simp)
        rw [if_pos i59] at hi
        have := hlog i x hi k hk
        rw [pk_un (by omega), if_pos (by omega)]
        rw [← this]
        congr 1
        have e' : a.2.2.2.1.2.length = 60 := e
        omega
  · refine fin (dG a.2.2.2).length (Q 28) σ (by omega) (hv.congr rfl (updR_id rfl).symm rfl) (fun i _ => rfl) ?_ ?_ (by rw [List.take_length]) ?_
    · have := hr.2.2.2.1.2.2.2.2.2.2.2.1
      rw [Nat.zero_add] at this
      exact this
    · rw [List.take_length, List.take_of_length_le (by rw [List.length_cons]; omega)]
    · rw [List.take_length]
      intro i x hi k hk
      exact hlog i x hi k hk
end
