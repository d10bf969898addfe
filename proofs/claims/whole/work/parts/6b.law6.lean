/-! tower, class and reference side by side -/
section
variable {K : Cfg} {M : Mfg} {dr : Int64} {a : Abs} {t1 : St} {ou : Nat} {g : Nat → Int64}
theorem tow_fin (hc : CA K dr a t1) (hm : MA M dr a t1) (hA : AOK a) (hH : HrOK a.2.2.2) (hd : ∀ z, setK K z → ¬ setM M.1 z) (hs : ∀ j, j < 8 → rd t1 (t1.1.1 j) = some (zc j) ∧ ¬ setK K (t1.1.1 j) ∧ ¬ setM M.1 (t1.1.1 j)) (ho : t1.2.2 ou = some (.inl (3, 1, .inr (.inl g)))) (ho1 : ¬ setK K ou) (ho2 : ¬ setM M.1 ou) (v w : Int32) :
    isO 10 t1 (M.1 0) = true ∧ ∃ t2, fX10_tower t1 (M.1 0) v w = some ((towA a v w).1, t2) ∧ isO 10 t2 (M.1 0) = true ∧ fX10_thrown t2 (M.1 0) = some ((towA a v w).2, t2) ∧ RelX (K.1 0) (M.1 0) ou t2 ∧ t2.2.2 ou = some (.inl (3, 1, .inr (.inl g))) := by
  obtain ⟨r', t2, e2, rfl, m2, e3⟩ := m_tower hm hA.2 v w
  have q := ma_sm2 hm m2
  refine ⟨ma_O hm, t2, e2, ma_O m2, e3, ⟨rebK K t2, M, dr, a, g, ⟨rfl, rfl⟩, hc.reb (fun z hz => q.2 z (hd z hz)), m2, hA, hH, fun z hz => hd z hz, fun j hj => ?_, ?_, ho1, ho2⟩, ?_⟩
  · obtain ⟨s1, s2, s3⟩ := hs j hj
    rw [q.1]
    refine ⟨?_, s2, s3⟩
    unfold rd at s1 ⊢
    rw [q.2 _ s3, q.1]
    exact s1
  · rw [q.2 ou ho2]; exact ho
  · rw [q.2 ou ho2]; exact ho
end
theorem zc_ou {σ : St} {ou z j : Nat} {f : Nat → Int64} (h : rd σ z = some (zc j)) (ho : σ.2.2 ou = some (.inl (3, 1, .inr (.inl f)))) : z ≠ ou := by
  rintro rfl
  have e := (rd_of ho).symm.trans h
  unfold zc at e
  have e2 := congrArg (fun q : aE => match q with | .inl q => q.1 | .inr _ => 9) (Option.some.inj e)
  simp only at e2
  split at e2 <;> omega
theorem tow_pair {x mo ou : Nat} {σ : St} (hR : RelX x mo ou σ) (v w : Int32) : ∃ (z : Int32) (t1 : St) (r : Int32) (t2 : St), (∀ (l : Launch), l.stackTraces = false → ∀ D cy sz sa, LT l D cy σ sz sa [.ref x, .int v, .int w, .ref ou] (fun q u => q = vI z ∧ u = t1)) ∧
    isO 10 t1 mo = true ∧ fX10_tower t1 mo v w = some (r, t2) ∧ isO 10 t2 mo = true ∧ fX10_thrown t2 mo = some (z, t2) ∧ RelX x mo ou t2 ∧ (z = 0 → ∃ f, t2.2.2 ou = some (.inl (3, 1, .inr (.inl f))) ∧ f 0 = r.toInt64) := by
  obtain ⟨K, M, dr, a, f, ⟨rfl, rfl⟩, hc, hm, hA, hH, hd, hs, ho, ho1, ho2⟩ := hR
  obtain ⟨h30, h4, _, _, _, hl⟩ := okC hA.2
  have bad : ∀ b : Int32, fX7_hasTower σ (K.1 11) v = some (b, σ) → (b = 0 ∨ w < 0 ∨ ¬ w ≤ 5) → towA a v w = (0, 1) → ∃ (z : Int32) (t1 : St) (r : Int32) (t2 : St), (∀ (l : Launch), l.stackTraces = false → ∀ D cy sz sa, LT l D cy σ sz sa [.ref (K.1 0), .int v, .int w, .ref ou] (fun q u => q = vI z ∧ u = t1)) ∧
      isO 10 t1 (M.1 0) = true ∧ fX10_tower t1 (M.1 0) v w = some (r, t2) ∧ isO 10 t2 (M.1 0) = true ∧ fX10_thrown t2 (M.1 0) = some (z, t2) ∧ RelX (K.1 0) (M.1 0) ou t2 ∧ (z = 0 → ∃ f, t2.2.2 ou = some (.inl (3, 1, .inr (.inl f))) ∧ f 0 = r.toInt64) := by
    intro b hb h3 ee
    have m1 : MA (M.1, σ) dr a σ := ma_reb hm (fun z hz => rfl)
    obtain ⟨o1, t2, e2, o2, e3, hR2, _⟩ := tow_fin hc m1 hA hH hd hs ho ho1 ho2 v w
    rw [ee] at e2 e3
    exact ⟨1, σ, 0, t2, fun l hst D cy sz sa => lt_b l hst (ca_O hc) (ca_now hc) (ca_O7 hc) hb h3, o1, e2, o2, e3, hR2, fun q => absurd q (by decide)⟩
  rcases ixc v (n := qT (dN a.2.2.2)) (by omega) with ⟨e, hn⟩ | ⟨t, ht, rfl, e⟩
  · refine bad _ (ca_hasTower hc v) (Or.inl ?_) (by simp only [towA, e])
    rw [decide_eq_false hn]; rfl
  rcases ixc w (n := 6) (by omega) with ⟨e2, hn⟩ | ⟨k, hk, rfl, e2⟩
  · refine bad _ (ca_hasTower hc (nI t)) (Or.inr ?_) (by simp only [towA, e, e2])
    by_cases q : w < 0
    · exact Or.inl q
    · refine Or.inr (fun q5 => hn ⟨q, ?_⟩)
      rw [Int32.lt_iff_toInt_lt]
      rw [Int32.le_iff_toInt_le] at q5
      have : (5 : Int32).toInt = 5 := by decide
      have : (nI 6).toInt = 6 := by decide
      omega
  have ee : towA a (nI t) (nI k) = (towK a t k, 0) := by simp only [towA, e, e2]
  obtain ⟨r, u, e1, rfl, c1⟩ := c_tower hc hA.2 ht hk
  have w1 := hc.sm2 c1
  have hu : u.2.2 ou = some (.inl (3, 1, .inr (.inl f))) := by rw [w1.2 ou ho1]; exact ho
  obtain ⟨g, hg⟩ : ∃ g : Nat → Int64, g = vp_updL f (0 : Int32).toNatClampNeg (towK a t k).toInt64 := ⟨_, rfl⟩
  obtain ⟨tt, htt⟩ : ∃ tt : St, tt = (u.1, u.2.1, up u.2.2 ou (.inl (3, 1, .inr (.inl g)))) := ⟨_, rfl⟩
  have t1e : tt.1 = σ.1 := by rw [htt]; exact w1.1
  have t2e : ∀ z, z ≠ ou → tt.2.2 z = u.2.2 z := fun z hz => by rw [htt]; exact up_n _ _ hz
  have hto : tt.2.2 ou = some (.inl (3, 1, .inr (.inl g))) := by rw [htt]; exact up_s _ _ _
  have hsL : sL u ou 0 (towK a t k).toInt64 = some tt := by
    unfold sL
    rw [hu, htt, hg]
    rfl
  have hcc : CA (rebK K tt) dr a tt := c1.reb (fun z hz => t2e z (fun q => ho1 (q ▸ hz)))
  have m1 : MA (M.1, tt) dr a tt := ma_reb hm (fun z hz => (t2e z (fun q => ho2 (q ▸ hz))).trans (w1.2 z (fun q => hd z q hz)))
  obtain ⟨o1, t2, e3, o2, e4, hR2, hf2⟩ := tow_fin hcc m1 hA hH (fun z hz => hd z hz) (fun j hj => by
    obtain ⟨s1, s2, s3⟩ := hs j hj
    have hne := zc_ou s1 ho
    rw [t1e]
    refine ⟨?_, s2, s3⟩
    unfold rd at s1 ⊢
    rw [t2e _ hne, w1.2 _ s2, t1e]
    exact s1) hto ho1 ho2 (nI t) (nI k)
  rw [ee] at e3 e4
  refine ⟨0, tt, towK a t k, t2, fun l hst D cy sz sa => lt_a l (ca_O hc) e1 hsL, o1, e3, o2, e4, hR2, fun _ => ⟨g, hf2, ?_⟩⟩
  rw [hg]
  rfl
theorem lV_L_51 : MLv RL 51 mX10_tower 10 2 := ⟨bX10_tower, List.mem_filter.mpr ⟨by decide +kernel, rfl⟩, List.mem_filter.mpr ⟨by decide +kernel, rfl⟩, List.mem_filter.mpr ⟨by decide +kernel, rfl⟩, ⟨_, _, rfl⟩⟩
theorem lV_L_52 : MLv RL 52 mX10_thrown 10 0 := ⟨bX10_thrown, List.mem_filter.mpr ⟨by decide +kernel, rfl⟩, List.mem_filter.mpr ⟨by decide +kernel, rfl⟩, List.mem_filter.mpr ⟨by decide +kernel, rfl⟩, ⟨_, _, rfl⟩⟩
theorem lg_cmp_self (x : Int64) : lg_cmp x x = 0 := by
  unfold lg_cmp
  simp
set_option maxHeartbeats 4000000 in
set_option maxRecDepth 100000 in
theorem law6X : law6 RelX := by
  intro b L xs x mo ou j hj hL σ hR hk
  refine LW.aload_n 1 dL_law_414 rfl rfl ?_
  refine LW.aload_n 0 dL_law_415 rfl rfl ?_
  refine LW.iload 4 dL_law_416 rfl ?_
  refine LW.iconst dL_law_418 kI_1 ?_
  refine LW.iadd dL_law_419 ?_
  refine LW.sld dL_law_420 (law_in hj hL).1 ?_
  refine LW.aload_n 0 dL_law_421 rfl rfl ?_
  refine LW.iload 4 dL_law_422 rfl ?_
  refine LW.iconst dL_law_424 kI_2 ?_
  refine LW.iadd dL_law_425 ?_
  refine LW.sld dL_law_426 (law_in hj hL).2.1 ?_
  refine LW.aload_n 3 dL_law_427 rfl rfl ?_
  obtain ⟨z, t1, r, t2, hLT, o1, e2, o2, e3, hR2, hz⟩ := tow_pair hR (xs (nI (6 * j) + 1).toNatClampNeg) (xs (nI (6 * j) + 2).toNatClampNeg)
  refine LW.tow (rest := []) (by omega) (by omega) (by decide) hLT (fun r9 t9 h9 => ?_)
  obtain ⟨rfl, h8⟩ := h9
  rw [h8]
  refine LW.at (st2 := [.int z]) (k2 := 75 + 4 * j + 1) (n2 := 20149 + 300 * j + 6) rfl rfl rfl ?_
  refine LW.istore (lv' := [(0, .ref b), (1, .ref x), (2, .ref mo), (3, .ref ou), (4, .int (nI (6 * j))), (5, .int z)]) dL_law_431 (by decide) [1, 2, 3, 4, 5, 0] rfl ?_
  refine LW.aload_n 2 dL_law_433 rfl rfl ?_
  refine LW.aload_n 0 dL_law_434 rfl rfl ?_
  refine LW.iload 4 dL_law_435 rfl ?_
  refine LW.iconst dL_law_437 kI_1 ?_
  refine LW.iadd dL_law_438 ?_
  refine LW.sld dL_law_439 (law_in hj hL).1 ?_
  refine LW.aload_n 0 dL_law_440 rfl rfl ?_
  refine LW.iload 4 dL_law_441 rfl ?_
  refine LW.iconst dL_law_443 kI_2 ?_
  refine LW.iadd dL_law_444 ?_
  refine LW.sld dL_law_445 (law_in hj hL).2.1 ?_
  refine LW.callv [.int (xs (nI (6 * j) + 1).toNatClampNeg), .int (xs (nI (6 * j) + 2).toNatClampNeg)] (rest := []) dL_law_446 lV_L_51 rfl ⟨by decide, by show _ + 0 ≤ _; omega, by show _ + 0 ≤ _; omega, by decide⟩ o1 (gX10_tower t1 mo (xs (nI (6 * j) + 1).toNatClampNeg) (xs (nI (6 * j) + 2).toNatClampNeg) _ _ e2) (fun r9 t9 h9 => ?_)
  obtain ⟨rfl, h8⟩ := h9
  rw [h8]
  refine LW.at (st2 := [.int r]) (k2 := 75 + 4 * j + 1) (n2 := 20149 + 300 * j + 6) rfl rfl rfl ?_
  refine LW.istore (lv' := [(0, .ref b), (1, .ref x), (2, .ref mo), (3, .ref ou), (4, .int (nI (6 * j))), (5, .int z), (6, .int r)]) dL_law_449 (by decide) [1, 2, 3, 4, 5, 6, 0] rfl ?_
  refine LW.aload_n 2 dL_law_451 rfl rfl ?_
  refine LW.callv [] (rest := []) dL_law_452 lV_L_52 rfl ⟨by decide, by show _ + 0 ≤ _; omega, by show _ + 0 ≤ _; omega, by decide⟩ o2 (gX10_thrown t2 mo _ _ e3) (fun r9 t9 h9 => ?_)
  obtain ⟨rfl, h8⟩ := h9
  rw [h8]
  refine LW.at (st2 := [.int z]) (k2 := 75 + 4 * j + 1) (n2 := 20149 + 300 * j + 6) rfl rfl rfl ?_
  refine LW.iload 5 dL_law_455 rfl ?_
  refine LW.icmp_eqT (tgt := 462) dL_law_457 (by decide) rfl ?_
  refine LW.iload 5 dL_law_462 rfl ?_
  have fin : LW b L xs (75 + 4 * j + 1) (20149 + 300 * j + 6) 479 [(0, .ref b), (1, .ref x), (2, .ref mo), (3, .ref ou), (4, .int (nI (6 * j))), (5, .int z), (6, .int r)] [] t2 := by
    refine LW.goto (tgt := 1583) dL_law_479 (by decide) ?_
    refine LW.sub [0, 1, 2, 3, 4] rfl ?_
    refine LW.widen (k2 := 75 + 4 * (j + 1)) (n2 := 20149 + 300 * (j + 1)) (by omega) (by omega) ?_
    exact hk t2 hR2
  refine LW.if_ne (tgt := 479) dL_law_464 (by decide) (fun _ => fin) (fun q => ?_)
  obtain ⟨f, hf, hf0⟩ := hz q
  refine LW.aload_n 3 dL_law_467 rfl rfl ?_
  refine LW.iconst dL_law_468 kI_0 ?_
  refine LW.lald dL_law_469 hf (by decide) ?_
  refine LW.iload 6 dL_law_470 rfl ?_
  refine LW.i2l dL_law_472 ?_
  refine LW.lcmp dL_law_473 ?_
  refine LW.if_eq (tgt := 479) dL_law_474 (by decide) (fun _ => fin) (fun q2 => absurd ?_ q2)
  rw [show f (0 : Int32).toNatClampNeg = r.toInt64 from hf0]
  exact lg_cmp_self _
