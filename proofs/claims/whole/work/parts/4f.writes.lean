/-! writes to scenes, rows and fields of the class -/
section
variable {K : Cfg} {I : Nat → Int32} {R : Nat → Nat → Int32} {dr : Int64} {b : Nat} {s : Scn} {σ : St}
theorem b_put (h : CV K I R dr σ) (hb : scB b) (f : Nat) (v : Int32) (hf : f < 9) : ∃ t, pV 7 f σ (K.1 b) (.int v) = some t ∧ CV K (upd I (20 * b + f) v) R dr t := by
  rcases hb with rfl | rfl | rfl
  · match f, hf with
    | 0, _ => exact h.putI 11 0 v rfl (by decide) (fun _ => rfl) (Nat.le_of_ble_eq_true rfl) (fun _ => rfl)
    | 1, _ => exact h.putI 11 1 v rfl (by decide) (fun _ => rfl) (Nat.le_of_ble_eq_true rfl) (fun _ => rfl)
    | 2, _ => exact h.putI 11 2 v rfl (by decide) (fun _ => rfl) (Nat.le_of_ble_eq_true rfl) (fun _ => rfl)
    | 3, _ => exact h.putI 11 3 v rfl (by decide) (fun _ => rfl) (Nat.le_of_ble_eq_true rfl) (fun _ => rfl)
    | 4, _ => exact h.putI 11 4 v rfl (by decide) (fun _ => rfl) (Nat.le_of_ble_eq_true rfl) (fun _ => rfl)
    | 5, _ => exact h.putI 11 5 v rfl (by decide) (fun _ => rfl) (Nat.le_of_ble_eq_true rfl) (fun _ => rfl)
    | 6, _ => exact h.putI 11 6 v rfl (by decide) (fun _ => rfl) (Nat.le_of_ble_eq_true rfl) (fun _ => rfl)
    | 7, _ => exact h.putI 11 7 v rfl (by decide) (fun _ => rfl) (Nat.le_of_ble_eq_true rfl) (fun _ => rfl)
    | 8, _ => exact h.putI 11 8 v rfl (by decide) (fun _ => rfl) (Nat.le_of_ble_eq_true rfl) (fun _ => rfl)
    | f + 9, hf => omega
  · match f, hf with
    | 0, _ => exact h.putI 17 0 v rfl (by decide) (fun _ => rfl) (Nat.le_of_ble_eq_true rfl) (fun _ => rfl)
    | 1, _ => exact h.putI 17 1 v rfl (by decide) (fun _ => rfl) (Nat.le_of_ble_eq_true rfl) (fun _ => rfl)
    | 2, _ => exact h.putI 17 2 v rfl (by decide) (fun _ => rfl) (Nat.le_of_ble_eq_true rfl) (fun _ => rfl)
    | 3, _ => exact h.putI 17 3 v rfl (by decide) (fun _ => rfl) (Nat.le_of_ble_eq_true rfl) (fun _ => rfl)
    | 4, _ => exact h.putI 17 4 v rfl (by decide) (fun _ => rfl) (Nat.le_of_ble_eq_true rfl) (fun _ => rfl)
    | 5, _ => exact h.putI 17 5 v rfl (by decide) (fun _ => rfl) (Nat.le_of_ble_eq_true rfl) (fun _ => rfl)
    | 6, _ => exact h.putI 17 6 v rfl (by decide) (fun _ => rfl) (Nat.le_of_ble_eq_true rfl) (fun _ => rfl)
    | 7, _ => exact h.putI 17 7 v rfl (by decide) (fun _ => rfl) (Nat.le_of_ble_eq_true rfl) (fun _ => rfl)
    | 8, _ => exact h.putI 17 8 v rfl (by decide) (fun _ => rfl) (Nat.le_of_ble_eq_true rfl) (fun _ => rfl)
    | f + 9, hf => omega
  · match f, hf with
    | 0, _ => exact h.putI 23 0 v rfl (by decide) (fun _ => rfl) (Nat.le_of_ble_eq_true rfl) (fun _ => rfl)
    | 1, _ => exact h.putI 23 1 v rfl (by decide) (fun _ => rfl) (Nat.le_of_ble_eq_true rfl) (fun _ => rfl)
    | 2, _ => exact h.putI 23 2 v rfl (by decide) (fun _ => rfl) (Nat.le_of_ble_eq_true rfl) (fun _ => rfl)
    | 3, _ => exact h.putI 23 3 v rfl (by decide) (fun _ => rfl) (Nat.le_of_ble_eq_true rfl) (fun _ => rfl)
    | 4, _ => exact h.putI 23 4 v rfl (by decide) (fun _ => rfl) (Nat.le_of_ble_eq_true rfl) (fun _ => rfl)
    | 5, _ => exact h.putI 23 5 v rfl (by decide) (fun _ => rfl) (Nat.le_of_ble_eq_true rfl) (fun _ => rfl)
    | 6, _ => exact h.putI 23 6 v rfl (by decide) (fun _ => rfl) (Nat.le_of_ble_eq_true rfl) (fun _ => rfl)
    | 7, _ => exact h.putI 23 7 v rfl (by decide) (fun _ => rfl) (Nat.le_of_ble_eq_true rfl) (fun _ => rfl)
    | 8, _ => exact h.putI 23 8 v rfl (by decide) (fun _ => rfl) (Nat.le_of_ble_eq_true rfl) (fun _ => rfl)
    | f + 9, hf => omega
theorem cellC_b (A : Nat → Nat) (I : Nat → Int32) (dr : Int64) (lw : Nat → Option Nat) (hb : scB b) : domC (b + 1) = true ∧ scrC (b + 1) = false ∧ (∀ R, cellC A I R dr lw (b + 1) = .inl (0, 30, .inl (R (b + 1)))) ∧ ∀ j, 2 ≤ j → j ≤ 4 → domC (b + j) = true ∧ scrC (b + j) = false ∧ ∀ R, cellC A I R dr lw (b + j) = .inl (0, 4, .inl (R (b + j))) := by
  rcases hb with rfl | rfl | rfl
  · refine ⟨rfl, rfl, fun _ => rfl, fun j h1 h2 => ?_⟩
    match j, h1, h2 with
    | 2, _, _ => exact ⟨rfl, rfl, fun _ => rfl⟩
    | 3, _, _ => exact ⟨rfl, rfl, fun _ => rfl⟩
    | 4, _, _ => exact ⟨rfl, rfl, fun _ => rfl⟩
    | j + 5, _, h => omega
  · refine ⟨rfl, rfl, fun _ => rfl, fun j h1 h2 => ?_⟩
    match j, h1, h2 with
    | 2, _, _ => exact ⟨rfl, rfl, fun _ => rfl⟩
    | 3, _, _ => exact ⟨rfl, rfl, fun _ => rfl⟩
    | 4, _, _ => exact ⟨rfl, rfl, fun _ => rfl⟩
    | j + 5, _, h => omega
  · refine ⟨rfl, rfl, fun _ => rfl, fun j h1 h2 => ?_⟩
    match j, h1, h2 with
    | 2, _, _ => exact ⟨rfl, rfl, fun _ => rfl⟩
    | 3, _, _ => exact ⟨rfl, rfl, fun _ => rfl⟩
    | 4, _, _ => exact ⟨rfl, rfl, fun _ => rfl⟩
    | j + 5, _, h => omega
theorem b_putG (h : CV K I R dr σ) (hb : scB b) (i : Nat) (v : Int32) (hi : i < 30) : ∃ t, sI 0 σ (K.1 (b + 1)) (nI i) v = some t ∧ CV K I (updR R (b + 1) (upd (R (b + 1)) i v)) dr t := by
  obtain ⟨c1, c2, c3, _⟩ := cellC_b K.1 I dr (lwOf K.2.1 K.2.2.1) hb
  exact h.putN (b + 1) i v c1 c2 c3 hi (by decide)
theorem b_putT (h : CV K I R dr σ) (hb : scB b) (j i : Nat) (v : Int32) (h2 : 2 ≤ j) (h4 : j ≤ 4) (hi : i < 4) : ∃ t, sI 0 σ (K.1 (b + j)) (nI i) v = some t ∧ CV K I (updR R (b + j) (upd (R (b + j)) i v)) dr t := by
  obtain ⟨_, _, _, c⟩ := cellC_b K.1 I dr (lwOf K.2.1 K.2.2.1) hb
  obtain ⟨c1, c2, c3⟩ := c j h2 h4
  exact h.putN (b + j) i v c1 c2 c3 hi (by decide)
theorem CV.cpy (h : CV K I R dr σ) (k0 k1 sp dp z : Nat) {z0 z1 : Nat} (hk0 : domC k0 = true) (hr0 : scrC k0 = false) (hc0 : ∀ R, cellC K.1 I R dr (lwOf K.2.1 K.2.2.1) k0 = .inl (0, z0, .inl (R k0))) (hk1 : domC k1 = true) (hr1 : scrC k1 = false) (hc1 : ∀ R, cellC K.1 I R dr (lwOf K.2.1 K.2.2.1) k1 = .inl (0, z1, .inl (R k1))) (h0 : sp + z ≤ z0) (h1 : dp + z ≤ z1) (hz0 : z0 < 2 ^ 31) (hz1 : z1 < 2 ^ 31) : ∃ t, cpr σ (K.1 k0) (nI sp) (K.1 k1) (nI dp) (nI z) = some t ∧ CV K I (updR R k1 (va_cpy (R k0) (R k1) sp dp z)) dr t := by
  obtain ⟨R', hR, hw, hl', hs⟩ := h
  have q0 : rd σ (K.1 k0) = some (.inl (0, z0, .inl (R k0))) := rd_of ((hw.2 k0 hk0).trans (congrArg some ((hc0 R').trans (by rw [hR k0 hr0]))))
  have q1 : σ.2.2 (K.1 k1) = some (.inl (0, z1, .inl (R k1))) := (hw.2 k1 hk1).trans (congrArg some ((hc1 R').trans (by rw [hR k1 hr1])))
  have n1 := nI_toInt (n := sp) (by omega)
  have n2 := nI_toInt (n := dp) (by omega)
  have n3 := nI_toInt (n := z) (by omega)
  have hcond : 0 ≤ (nI sp).toInt ∧ 0 ≤ (nI dp).toInt ∧ 0 ≤ (nI z).toInt ∧ (nI sp).toInt + (nI z).toInt ≤ z0 ∧ (nI dp).toInt + (nI z).toInt ≤ z1 := by
    rw [n1, n2, n3]; omega
  obtain ⟨g1, g2⟩ := hw.put (I2 := I) (R2 := updR R' k1 (va_cpy (R k0) (R k1) sp dp z)) (lw2 := lwOf K.2.1 K.2.2.1) (dr2 := dr) k1 hk1 (fun _ _ _ _ => rfl) (fun j hj => updR_n _ _ hj) (fun _ => rfl) (fun _ => rfl)
  rw [hc1, updR_s] at g1 g2
  refine ⟨_, ?_, updR R' k1 (va_cpy (R k0) (R k1) sp dp z), fun j hj => ?_, g1, hl'.sm g2, hs.tr (g2.mono (fun a q => Or.inl q))⟩
  · simp only [cpr, q0, q1]
    rw [if_pos hcond, nI_clamp (by omega), nI_clamp (by omega), nI_clamp (by omega)]
  · by_cases q : j = k1
    · subst q; rw [updR_s, updR_s]
    · rw [updR_n _ _ q, updR_n _ _ q, hR j hj]
theorem v_begin (h : CV K I R dr σ) (hb : scB b) (w r c : Int32) : ∃ t, fX7_begin σ (K.1 b) w r c = some ((), t) ∧ CV K (upd (upd (upd (upd (upd (upd (upd I (20 * b + 0) w) (20 * b + 1) r) (20 * b + 2) (w * r)) (20 * b + 3) c) (20 * b + 6) 0) (20 * b + 7) 0) (20 * b + 8) 0) R dr t := by
  unfold fX7_begin
  obtain ⟨t1, e1, h1⟩ := b_put h hb 0 w (by decide)
  obtain ⟨t2, e2, h2⟩ := b_put h1 hb 1 r (by decide)
  obtain ⟨t3, e3, h3⟩ := b_put h2 hb 2 (w * r) (by decide)
  obtain ⟨t4, e4, h4⟩ := b_put h3 hb 3 c (by decide)
  obtain ⟨t5, e5, h5⟩ := b_put h4 hb 6 0 (by decide)
  obtain ⟨t6, e6, h6⟩ := b_put h5 hb 7 0 (by decide)
  obtain ⟨t7, e7, h7⟩ := b_put h6 hb 8 0 (by decide)
  simp only [e1, e2, e3, e4, e5, e6, e7, Option.bind_some]
  exact ⟨t7, rfl, h7⟩
/-- a scene's numbers, from the store alone -/
theorem g_fld (h : CV K I R dr σ) (hb : scB b) (f : Nat) (hf : f < 9) : gI 7 f σ (K.1 b) = some (I (20 * b + f)) := by
  rcases hb with rfl | rfl | rfl
  · match f, hf with
    | 0, _ => exact kr_11_0 h
    | 1, _ => exact kr_11_1 h
    | 2, _ => exact kr_11_2 h
    | 3, _ => exact kr_11_3 h
    | 4, _ => exact kr_11_4 h
    | 5, _ => exact kr_11_5 h
    | 6, _ => exact kr_11_6 h
    | 7, _ => exact kr_11_7 h
    | 8, _ => exact kr_11_8 h
    | f + 9, hf => omega
  · match f, hf with
    | 0, _ => exact kr_17_0 h
    | 1, _ => exact kr_17_1 h
    | 2, _ => exact kr_17_2 h
    | 3, _ => exact kr_17_3 h
    | 4, _ => exact kr_17_4 h
    | 5, _ => exact kr_17_5 h
    | 6, _ => exact kr_17_6 h
    | 7, _ => exact kr_17_7 h
    | 8, _ => exact kr_17_8 h
    | f + 9, hf => omega
  · match f, hf with
    | 0, _ => exact kr_23_0 h
    | 1, _ => exact kr_23_1 h
    | 2, _ => exact kr_23_2 h
    | 3, _ => exact kr_23_3 h
    | 4, _ => exact kr_23_4 h
    | 5, _ => exact kr_23_5 h
    | 6, _ => exact kr_23_6 h
    | 7, _ => exact kr_23_7 h
    | 8, _ => exact kr_23_8 h
    | f + 9, hf => omega
theorem g_row (h : CV K I R dr σ) (hb : scB b) (j : Nat) (h1 : 1 ≤ j) (h4 : j ≤ 4) : gR 7 (8 + j) σ (K.1 b) = some (K.1 (b + j)) := by
  rcases hb with rfl | rfl | rfl
  · match j, h1, h4 with
    | 1, _, _ => exact kr_11_9 h
    | 2, _, _ => exact kr_11_10 h
    | 3, _, _ => exact kr_11_11 h
    | 4, _, _ => exact kr_11_12 h
    | j + 5, _, h4 => omega
  · match j, h1, h4 with
    | 1, _, _ => exact kr_17_9 h
    | 2, _, _ => exact kr_17_10 h
    | 3, _, _ => exact kr_17_11 h
    | 4, _, _ => exact kr_17_12 h
    | j + 5, _, h4 => omega
  · match j, h1, h4 with
    | 1, _, _ => exact kr_23_9 h
    | 2, _, _ => exact kr_23_10 h
    | 3, _, _ => exact kr_23_11 h
    | 4, _, _ => exact kr_23_12 h
    | j + 5, _, h4 => omega
theorem g_O (h : CV K I R dr σ) (hb : scB b) : isO 7 σ (K.1 b) = true := by
  rcases hb with rfl | rfl | rfl
  · exact kO_11 h
  · exact kO_17 h
  · exact kO_23 h
def FrB (b : Nat) (I R' : Nat → Int32) : Prop := ∀ k, (k < 20 * b ∨ 20 * b + 9 ≤ k) → R' k = I k
def FrR (b : Nat) (R R' : Nat → Nat → Int32) : Prop := ∀ k, (k < b + 1 ∨ b + 5 ≤ k) → R' k = R k
theorem upd_at (f : Nat → Int32) (i : Nat) (v : Int32) (j : Nat) : upd f i v j = if j = i then v else f j := rfl
theorem v_become (h : CV K I R dr σ) {b' : Nat} (hb : scB b) (hb' : scB b') (hne : b ≠ b') (hs : ScR I R b' s) (hC : qC s ≤ 30) (hT : qT s ≤ 4) (hc : qC s = qW s * qH s) : Ok (fX7_become σ (K.1 b) (K.1 b')) (fun _ t => ∃ I' R', CV K I' R' dr t ∧ ScR I' R' b s ∧ FrB b I I' ∧ FrR b R R') := by
  have hd : ∀ f g, f < 9 → g < 9 → 20 * b' + f ≠ 20 * b + g := by
    intro f g h1 h2
    rcases hb with rfl | rfl | rfl <;> rcases hb' with rfl | rfl | rfl <;> omega
  have hr : ∀ i j, 1 ≤ i → i ≤ 4 → 1 ≤ j → j ≤ 4 → b' + i ≠ b + j := by
    intro f g h1 h2 h3 h4
    rcases hb with rfl | rfl | rfl <;> rcases hb' with rfl | rfl | rfl <;> omega
  have rdI : ∀ {J : Nat → Int32} {τ : St} {R : Nat → Nat → Int32}, CV K J R dr τ → (∀ f, f < 9 → J (20 * b' + f) = I (20 * b' + f)) → ∀ f, f < 9 → gI 7 f τ (K.1 b') = some (nI (s.1 f)) := by
    intro J τ R hJ hq f hf
    rw [g_fld hJ hb' f hf, hq f hf, hs.1 f hf]
  have up1 : ∀ {J : Nat → Int32} (g : Nat) (v : Int32), g < 9 → (∀ f, f < 9 → J (20 * b' + f) = I (20 * b' + f)) → (∀ f, f < 9 → upd J (20 * b + g) v (20 * b' + f) = I (20 * b' + f)) := by
    intro J g v hg hq f hf
    rw [pk_un (hd f g hf hg)]; exact hq f hf
  obtain ⟨c1, c2, c3, c4⟩ := cellC_b K.1 I dr (lwOf K.2.1 K.2.2.1) hb
  unfold fX7_become
  have z0 : ∀ f, f < 9 → I (20 * b' + f) = I (20 * b' + f) := fun _ _ => rfl
  refine Ok.r (rdI h z0 0 (by decide)) (Ok.r (rdI h z0 1 (by decide)) (Ok.r (rdI h z0 3 (by decide)) ?_))
  obtain ⟨t1, e1, h1⟩ := v_begin h hb (nI (s.1 0)) (nI (s.1 1)) (nI (s.1 3))
  have z1 := up1 8 0 (by decide) (up1 7 0 (by decide) (up1 6 0 (by decide) (up1 3 (nI (s.1 3)) (by decide) (up1 2 (nI (s.1 0) * nI (s.1 1)) (by decide) (up1 1 (nI (s.1 1)) (by decide) (up1 0 (nI (s.1 0)) (by decide) z0))))))
  refine Ok.vE (g_O h hb) e1 ?_
  refine Ok.r (rdI h1 z1 4 (by decide)) (Ok.w (b_put h1 hb 4 _ (by decide)) ?_)
  intro t2 h2
  have z2 := up1 4 (nI (s.1 4)) (by decide) z1
  refine Ok.r (rdI h2 z2 5 (by decide)) (Ok.w (b_put h2 hb 5 _ (by decide)) ?_)
  intro t3 h3
  have z3 := up1 5 (nI (s.1 5)) (by decide) z2
  refine Ok.r (rdI h3 z3 6 (by decide)) (Ok.w (b_put h3 hb 6 _ (by decide)) ?_)
  intro t4 h4
  have z4 := up1 6 (nI (s.1 6)) (by decide) z3
  refine Ok.r (rdI h4 z4 7 (by decide)) (Ok.w (b_put h4 hb 7 _ (by decide)) ?_)
  intro t5 h5
  have z5 := up1 7 (nI (s.1 7)) (by decide) z4
  refine Ok.r (rdI h5 z5 8 (by decide)) (Ok.w (b_put h5 hb 8 _ (by decide)) ?_)
  intro t6 h6
  generalize hI' : upd (upd (upd (upd (upd (upd (upd (upd (upd (upd (upd (upd I (20 * b + 0) (nI (s.1 0))) (20 * b + 1) (nI (s.1 1))) (20 * b + 2) (nI (s.1 0) * nI (s.1 1))) (20 * b + 3) (nI (s.1 3))) (20 * b + 6) 0) (20 * b + 7) 0) (20 * b + 8) 0) (20 * b + 4) (nI (s.1 4))) (20 * b + 5) (nI (s.1 5))) (20 * b + 6) (nI (s.1 6))) (20 * b + 7) (nI (s.1 7))) (20 * b + 8) (nI (s.1 8)) = I' at h6
  have hII : (∀ f, f < 9 → I' (20 * b + f) = nI (s.1 f)) ∧ FrB b I I' := by
    rw [← hI']
    refine ⟨fun f hf => ?_, fun k hk => ?_⟩
    · match f, hf with
      | 0, _ => simp [upd_at]
      | 1, _ => simp [upd_at]
      | 2, _ =>
        simp [upd_at]
        rw [pk_mul]
        exact congrArg nI hc.symm
      | 3, _ => simp [upd_at]
      | 4, _ => simp [upd_at]
      | 5, _ => simp [upd_at]
      | 6, _ => simp [upd_at]
      | 7, _ => simp [upd_at]
      | 8, _ => simp [upd_at]
      | f + 9, hf => omega
    · simp only [upd_at]
      repeat rw [if_neg (by omega)]
  obtain ⟨c1, c2, c3, c4⟩ := cellC_b K.1 I' dr (lwOf K.2.1 K.2.2.1) hb
  obtain ⟨d1, d2, d3, d4⟩ := cellC_b K.1 I' dr (lwOf K.2.1 K.2.2.1) hb'
  obtain ⟨c21, c22, c23⟩ := c4 2 (by decide) (by decide)
  obtain ⟨c31, c32, c33⟩ := c4 3 (by decide) (by decide)
  obtain ⟨c41, c42, c43⟩ := c4 4 (by decide) (by decide)
  obtain ⟨d21, d22, d23⟩ := d4 2 (by decide) (by decide)
  obtain ⟨d31, d32, d33⟩ := d4 3 (by decide) (by decide)
  obtain ⟨d41, d42, d43⟩ := d4 4 (by decide) (by decide)
  refine Ok.r (g_row h6 hb' 1 (by decide) (by decide)) (Ok.r (g_row h6 hb 1 (by decide) (by decide)) (Ok.w (h6.cpy (b' + 1) (b + 1) 0 0 30 d1 d2 d3 c1 c2 c3 (by decide) (by decide) (by decide) (by decide)) ?_))
  intro t7 h7
  refine Ok.r (g_row h7 hb' 2 (by decide) (by decide)) (Ok.r (g_row h7 hb 2 (by decide) (by decide)) (Ok.w (h7.cpy (b' + 2) (b + 2) 0 0 4 d21 d22 d23 c21 c22 c23 (by decide) (by decide) (by decide) (by decide)) ?_))
  intro t8 h8
  refine Ok.r (g_row h8 hb' 3 (by decide) (by decide)) (Ok.r (g_row h8 hb 3 (by decide) (by decide)) (Ok.w (h8.cpy (b' + 3) (b + 3) 0 0 4 d31 d32 d33 c31 c32 c33 (by decide) (by decide) (by decide) (by decide)) ?_))
  intro t9 h9
  refine Ok.r (g_row h9 hb' 4 (by decide) (by decide)) (Ok.r (g_row h9 hb 4 (by decide) (by decide)) (Ok.w (h9.cpy (b' + 4) (b + 4) 0 0 4 d41 d42 d43 c41 c42 c43 (by decide) (by decide) (by decide) (by decide)) ?_))
  intro t10 h10
  refine Ok.p ⟨_, _, h10, ⟨hII.1, fun i hi => ?_, fun t ht => ⟨?_, ?_, ?_⟩⟩, hII.2, fun k hk => ?_⟩
  · rw [updR_n _ _ (by omega), updR_n _ _ (by omega), updR_n _ _ (by omega), updR_s, pk_cpy_in (by omega) (by omega)]
    simp only [Nat.zero_add, Nat.sub_zero]
    exact hs.2.1 i hi
  · rw [updR_n _ _ (by omega), updR_n _ _ (by omega), updR_s, pk_cpy_in (by omega) (by omega), updR_n _ _ (hr 2 1 (by decide) (by decide) (by decide) (by decide))]
    simp only [Nat.zero_add, Nat.sub_zero]
    exact (hs.2.2 t ht).1
  · rw [updR_n _ _ (by omega), updR_s, pk_cpy_in (by omega) (by omega), updR_n _ _ (hr 3 2 (by decide) (by decide) (by decide) (by decide)), updR_n _ _ (hr 3 1 (by decide) (by decide) (by decide) (by decide))]
    simp only [Nat.zero_add, Nat.sub_zero]
    exact (hs.2.2 t ht).2.1
  · rw [updR_s, pk_cpy_in (by omega) (by omega), updR_n _ _ (hr 4 3 (by decide) (by decide) (by decide) (by decide)), updR_n _ _ (hr 4 2 (by decide) (by decide) (by decide) (by decide)), updR_n _ _ (hr 4 1 (by decide) (by decide) (by decide) (by decide))]
    simp only [Nat.zero_add, Nat.sub_zero]
    exact (hs.2.2 t ht).2.2
  · rw [updR_n _ _ (by omega), updR_n _ _ (by omega), updR_n _ _ (by omega), updR_n _ _ (by omega)]
/-- a record of what acts change -/
def RcR (r : Nat → Int32) (o : Nat) (s : Scn) : Prop := (∀ i, i < qC s → r (o + i) = nI (qG s i)) ∧ (∀ t, t < qT s → r (o + 30 + t) = nI (qP s t) ∧ r (o + 34 + t) = nI (qM s t)) ∧ r (o + 38) = nI (qF s) ∧ r (o + 39) = nI (qK s) ∧ r (o + 40) = nI (qU s) ∧ r (o + 41) = nI (qB s) ∧ r (o + 42) = nI (qL s)
def SmL (s u : Scn) : Prop := qW u = qW s ∧ qH u = qH s ∧ qC u = qC s ∧ qT u = qT s ∧ ∀ t, t < qT s → qA u t = qA s t
theorem v_save (h : CV K I R dr σ) (hb : scB b) (hs : ScR I R b s) (hC : qC s ≤ 30) (hT : qT s ≤ 4) (k1 o : Nat) {z1 : Nat} (hk1 : domC k1 = true) (hr1 : scrC k1 = false) (hc1 : ∀ R, cellC K.1 I R dr (lwOf K.2.1 K.2.2.1) k1 = .inl (0, z1, .inl (R k1))) (hne : ∀ j, 1 ≤ j → j ≤ 4 → b + j ≠ k1) (h1 : o + 43 ≤ z1) (hz1 : z1 < 2 ^ 30) : Ok (fX7_save σ (K.1 b) (K.1 k1) (nI o)) (fun _ t => ∃ g, CV K I (updR R k1 g) dr t ∧ RcR g o s ∧ ∀ j, (j < o ∨ o + 43 ≤ j) → g j = R k1 j) := by
  obtain ⟨c1, c2, c3, c4⟩ := cellC_b K.1 I dr (lwOf K.2.1 K.2.2.1) hb
  obtain ⟨c21, c22, c23⟩ := c4 2 (by decide) (by decide)
  obtain ⟨c31, c32, c33⟩ := c4 3 (by decide) (by decide)
  have hz2 : z1 < 2 ^ 31 := by omega
  have fl : ∀ {τ : St} {R' : Nat → Nat → Int32}, CV K I R' dr τ → ∀ f, f < 9 → gI 7 f τ (K.1 b) = some (nI (s.1 f)) := fun hτ f hf => (g_fld hτ hb f hf).trans (congrArg some (hs.1 f hf))
  have n30 : nI o + 30 = nI (o + 30) := nI_add o 30
  have n34 : nI o + 30 + 4 = nI (o + 34) := by rw [n30]; exact nI_add (o + 30) 4
  have n38 : nI o + 30 + 8 = nI (o + 38) := by rw [n30]; exact nI_add (o + 30) 8
  unfold fX7_save
  refine Ok.r (g_row h hb 1 (by decide) (by decide)) (Ok.w (h.cpy (b + 1) k1 0 o 30 c1 c2 c3 hk1 hr1 hc1 (by decide) (by omega) (by decide) hz2) ?_)
  intro t1 h1
  rw [n30]
  refine Ok.r (g_row h1 hb 2 (by decide) (by decide)) (Ok.w (h1.cpy (b + 2) k1 0 (o + 30) 4 c21 c22 c23 hk1 hr1 hc1 (by decide) (by omega) (by decide) hz2) ?_)
  intro t2 h2
  rw [show nI (o + 30) + 4 = nI (o + 34) from nI_add (o + 30) 4]
  refine Ok.r (g_row h2 hb 3 (by decide) (by decide)) (Ok.w (h2.cpy (b + 3) k1 0 (o + 34) 4 c31 c32 c33 hk1 hr1 hc1 (by decide) (by omega) (by decide) hz2) ?_)
  intro t3 h3
  refine Ok.nE (show nI (o + 30) + 8 = nI (o + 38) from nI_add (o + 30) 8) ?_
  refine Ok.r (fl h3 4 (by decide)) (Ok.w (h3.putN k1 (o + 38) _ hk1 hr1 hc1 (by omega) hz2) ?_)
  intro t4 h4
  rw [show nI (o + 38) + 1 = nI (o + 39) from nI_add (o + 38) 1]
  refine Ok.r (fl h4 5 (by decide)) (Ok.w (h4.putN k1 (o + 39) _ hk1 hr1 hc1 (by omega) hz2) ?_)
  intro t5 h5
  rw [show nI (o + 38) + 2 = nI (o + 40) from nI_add (o + 38) 2]
  refine Ok.r (fl h5 6 (by decide)) (Ok.w (h5.putN k1 (o + 40) _ hk1 hr1 hc1 (by omega) hz2) ?_)
  intro t6 h6
  rw [show nI (o + 38) + 3 = nI (o + 41) from nI_add (o + 38) 3]
  refine Ok.r (fl h6 7 (by decide)) (Ok.w (h6.putN k1 (o + 41) _ hk1 hr1 hc1 (by omega) hz2) ?_)
  intro t7 h7
  rw [show nI (o + 38) + 4 = nI (o + 42) from nI_add (o + 38) 4]
  refine Ok.r (fl h7 8 (by decide)) (Ok.w (h7.putN k1 (o + 42) _ hk1 hr1 hc1 (by omega) hz2) ?_)
  intro t8 h8
  simp only [updR_updR, updR_s, updR_n R (va_cpy (R (b + 1)) (R k1) 0 o 30) (hne 2 (by decide) (by decide)), updR_n R (va_cpy (R (b + 2)) (va_cpy (R (b + 1)) (R k1) 0 o 30) 0 (o + 30) 4) (hne 3 (by decide) (by decide))] at h8
  refine Ok.p ⟨_, h8, ⟨fun i hi => ?_, fun t ht => ⟨?_, ?_⟩, ?_, ?_, ?_, ?_, ?_⟩, fun j hj => ?_⟩
  · simp only [upd_at]
    rw [if_neg (by omega), if_neg (by omega), if_neg (by omega), if_neg (by omega), if_neg (by omega), pk_cpy_out (by omega), pk_cpy_out (by omega), pk_cpy_in (by omega) (by omega)]
    rw [show 0 + (o + i - o) = i by omega]
    exact hs.2.1 i hi
  · simp only [upd_at]
    rw [if_neg (by omega), if_neg (by omega), if_neg (by omega), if_neg (by omega), if_neg (by omega), pk_cpy_out (by omega), pk_cpy_in (by omega) (by omega)]
    rw [show 0 + (o + 30 + t - (o + 30)) = t by omega]
    exact (hs.2.2 t ht).1
  · simp only [upd_at]
    rw [if_neg (by omega), if_neg (by omega), if_neg (by omega), if_neg (by omega), if_neg (by omega), pk_cpy_in (by omega) (by omega)]
    rw [show 0 + (o + 34 + t - (o + 34)) = t by omega]
    exact (hs.2.2 t ht).2.1
  · simp [upd_at]
  · simp [upd_at]
  · simp [upd_at]
  · simp [upd_at]
  · simp [upd_at]
  · simp only [upd_at]
    rw [if_neg (by omega), if_neg (by omega), if_neg (by omega), if_neg (by omega), if_neg (by omega), pk_cpy_out (by omega), pk_cpy_out (by omega), pk_cpy_out (by omega)]
theorem v_load (h : CV K I R dr σ) (hs : ScR I R 11 s) (hC : qC s ≤ 30) (hT : qT s ≤ 4) {u : Scn} (hm : SmL s u) (k1 o : Nat) {z1 : Nat} (hk1 : domC k1 = true) (hr1 : scrC k1 = false) (hc1 : ∀ I R, cellC K.1 I R dr (lwOf K.2.1 K.2.2.1) k1 = .inl (0, z1, .inl (R k1))) (hne : ∀ j, 1 ≤ j → j ≤ 4 → k1 ≠ 11 + j) (h1 : o + 43 ≤ z1) (hz1 : z1 < 2 ^ 30) (hu : RcR (R k1) o u) : Ok (fX7_load σ (K.1 11) (K.1 k1) (nI o)) (fun _ t => ∃ I' R', CV K I' R' dr t ∧ ScR I' R' 11 u ∧ FrB 11 I I' ∧ FrR 11 R R') := by
  have hb : scB 11 := Or.inl rfl
  obtain ⟨c1, c2, c3, c4⟩ := cellC_b K.1 I dr (lwOf K.2.1 K.2.2.1) hb
  obtain ⟨c21, c22, c23⟩ := c4 2 (by decide) (by decide)
  obtain ⟨c31, c32, c33⟩ := c4 3 (by decide) (by decide)
  have hz2 : z1 < 2 ^ 31 := by omega
  have n30 : nI o + 30 = nI (o + 30) := nI_add o 30
  have ar : ∀ {τ : St} {I' : Nat → Int32} {R' : Nat → Nat → Int32}, CV K I' R' dr τ → R' k1 = R k1 → ∀ i, i < z1 → aI 0 τ (K.1 k1) (nI i) = some (R k1 i) := by
    intro τ I' R' hτ hq i hi
    obtain ⟨Rx, hR, hw, hl', hs'⟩ := hτ
    have : τ.2.2 (K.1 k1) = some (.inl (0, z1, .inl (R k1))) := (hw.2 k1 hk1).trans (congrArg some ((hc1 I' Rx).trans (by rw [hR k1 hr1, hq])))
    exact aI_n this hi hz2
  obtain ⟨u1, u2, u3, u4, u5, u6, u7⟩ := hu
  unfold fX7_load
  refine Ok.r (g_row h hb 1 (by decide) (by decide)) (Ok.w (h.cpy k1 12 o 0 30 hk1 hr1 (hc1 I) c1 c2 c3 (by omega) (by decide) hz2 (by decide)) ?_)
  intro t1 h1
  rw [n30]
  refine Ok.r (g_row h1 hb 2 (by decide) (by decide)) (Ok.w (h1.cpy k1 13 (o + 30) 0 4 hk1 hr1 (hc1 I) c21 c22 c23 (by omega) (by decide) hz2 (by decide)) ?_)
  intro t2 h2
  rw [show nI (o + 30) + 4 = nI (o + 34) from nI_add (o + 30) 4]
  refine Ok.r (g_row h2 hb 3 (by decide) (by decide)) (Ok.w (h2.cpy k1 14 (o + 34) 0 4 hk1 hr1 (hc1 I) c31 c32 c33 (by omega) (by decide) hz2 (by decide)) ?_)
  intro t3 h3
  have e1 : updR R 12 (va_cpy (R k1) (R 12) o 0 30) k1 = R k1 := updR_n _ _ (hne 1 (by decide) (by decide))
  have e2 : updR (updR R 12 (va_cpy (R k1) (R 12) o 0 30)) 13 (va_cpy (updR R 12 (va_cpy (R k1) (R 12) o 0 30) k1) (updR R 12 (va_cpy (R k1) (R 12) o 0 30) 13) (o + 30) 0 4) k1 = R k1 := (updR_n _ _ (hne 2 (by decide) (by decide))).trans e1
  rw [e2, e1] at h3
  generalize hR' : updR (updR (updR R 12 (va_cpy (R k1) (R 12) o 0 30)) 13 (va_cpy (R k1) (updR R 12 (va_cpy (R k1) (R 12) o 0 30) 13) (o + 30) 0 4)) 14 (va_cpy (R k1) (updR (updR R 12 (va_cpy (R k1) (R 12) o 0 30)) 13 (va_cpy (R k1) (updR R 12 (va_cpy (R k1) (R 12) o 0 30) 13) (o + 30) 0 4) 14) (o + 34) 0 4) = R' at h3
  have e3 : R' k1 = R k1 := by
    rw [← hR', updR_n _ _ (hne 3 (by decide) (by decide)), updR_n _ _ (hne 2 (by decide) (by decide)), updR_n _ _ (hne 1 (by decide) (by decide))]
  refine Ok.nE (show nI (o + 30) + 8 = nI (o + 38) from nI_add (o + 30) 8) ?_
  refine Ok.r (ar h3 e3 (o + 38) (by omega)) (Ok.w (b_put h3 hb 4 _ (by decide)) ?_)
  intro t4 h4
  rw [show nI (o + 38) + 1 = nI (o + 39) from nI_add (o + 38) 1]
  refine Ok.r (ar h4 e3 (o + 39) (by omega)) (Ok.w (b_put h4 hb 5 _ (by decide)) ?_)
  intro t5 h5
  rw [show nI (o + 38) + 2 = nI (o + 40) from nI_add (o + 38) 2]
  refine Ok.r (ar h5 e3 (o + 40) (by omega)) (Ok.w (b_put h5 hb 6 _ (by decide)) ?_)
  intro t6 h6
  rw [show nI (o + 38) + 3 = nI (o + 41) from nI_add (o + 38) 3]
  refine Ok.r (ar h6 e3 (o + 41) (by omega)) (Ok.w (b_put h6 hb 7 _ (by decide)) ?_)
  intro t7 h7
  rw [show nI (o + 38) + 4 = nI (o + 42) from nI_add (o + 38) 4]
  refine Ok.r (ar h7 e3 (o + 42) (by omega)) (Ok.w (b_put h7 hb 8 _ (by decide)) ?_)
  intro t8 h8
  obtain ⟨m1, m2, m3, m4, m5⟩ := hm
  refine Ok.p ⟨_, _, h8, ⟨fun f hf => ?_, fun i hi => ?_, fun t ht => ⟨?_, ?_, ?_⟩⟩, fun k hk => ?_, fun k hk => ?_⟩
  · match f, hf with
    | 0, _ => simp [upd_at]; exact (hs.1 0 (by decide)).trans (congrArg nI m1.symm)
    | 1, _ => simp [upd_at]; exact (hs.1 1 (by decide)).trans (congrArg nI m2.symm)
    | 2, _ => simp [upd_at]; exact (hs.1 2 (by decide)).trans (congrArg nI m3.symm)
    | 3, _ => simp [upd_at]; exact (hs.1 3 (by decide)).trans (congrArg nI m4.symm)
    | 4, _ => simp [upd_at]; exact u3
    | 5, _ => simp [upd_at]; exact u4
    | 6, _ => simp [upd_at]; exact u5
    | 7, _ => simp [upd_at]; exact u6
    | 8, _ => simp [upd_at]; exact u7
    | f + 9, hf => omega
  · rw [← hR', updR_n _ _ (by omega), updR_n _ _ (by omega), updR_s, pk_cpy_in (by omega) (by omega)]
    simp only [Nat.sub_zero]
    exact u1 i hi
  · rw [← hR', updR_n _ _ (by omega), updR_s, pk_cpy_in (by omega) (by omega)]
    simp only [Nat.sub_zero]
    exact (u2 t ht).1
  · rw [← hR', updR_s, pk_cpy_in (by omega) (by omega)]
    simp only [Nat.sub_zero]
    exact (u2 t ht).2
  · rw [← hR', updR_n _ _ (by omega), updR_n _ _ (by omega), updR_n _ _ (by omega), m5 t (by omega)]
    exact (hs.2.2 t (by omega)).2.2
  · simp only [upd_at]
    repeat rw [if_neg (by omega)]
  · rw [← hR', updR_n _ _ (by omega), updR_n _ _ (by omega), updR_n _ _ (by omega)]
end
