/-! What a LAND read without fault keeps -/
theorem bnd_rng {T : Tap} {lo hi : Int32} {p : Nat} (h : (bndT T lo hi p).2.2 = none) : ¬ (bndT T lo hi p).1 < lo ∧ ¬ hi < (bndT T lo hi p).1 := by
  cases e : (numT T 2 p).2.2 with
  | some q =>
    have e2 : bndT T lo hi p = numT T 2 p := by unfold bndT; rw [e]
    rw [e2, e] at h; cases h
  | none =>
    by_cases q : (numT T 2 p).1 < lo ∨ hi < (numT T 2 p).1
    · have e2 : bndT T lo hi p = ((numT T 2 p).1, (numT T 2 p).2.1, some ((numT T 2 p).2.1 - 1)) := by unfold bndT; rw [e]; simp only []; rw [if_pos q]
      rw [e2] at h; cases h
    · have e2 : bndT T lo hi p = numT T 2 p := by unfold bndT; rw [e]; simp only []; rw [if_neg q]
      rw [e2]
      exact ⟨fun w => q (Or.inl w), fun w => q (Or.inr w)⟩
def rngV (e : Nat) (v : Nat → Int32) : Prop := ∀ k, k < 4 → ¬ v k < zv (4 * e + 1) k ∧ ¬ zv (4 * e + 2) k < v k
theorem rng_us : ∀ e, e < 2 → ∀ k, k < 4 → ¬ zv (4 * e + 3) k < zv (4 * e + 1) k ∧ ¬ zv (4 * e + 2) k < zv (4 * e + 3) k := by decide +kernel
theorem itm_rng {T : Tap} {e : Nat} : ∀ d x v p, rngV e v → (itmA T e d x v p).2.2 = none → rngV e (itmA T e d x v p).1
  | 0, x, v, p, hv, _ => by rw [itmA]; exact hv
  | d + 1, x, v, p, hv, h => by
    cases ei : itT e (atT T (skT T p)) with
    | none => rw [itm_n _ _ _ _ _ _ ei]; exact hv
    | some k =>
      obtain ⟨k4, _⟩ := itT_lt ei
      by_cases hb : bt x k = true
      · rw [itm_d _ _ _ _ _ _ _ ei hb] at h; cases h
      · cases eb : (bndT T (zv (4 * e + 1) k) (zv (4 * e + 2) k) (skT T p + 1)).2.2 with
        | some q => rw [itm_f _ _ _ _ _ _ _ _ ei hb eb] at h; cases h
        | none =>
          rw [itm_y _ _ _ _ _ _ _ ei hb eb] at h ⊢
          refine itm_rng d _ _ _ (fun i hi => ?_) h
          unfold upd
          by_cases q : i = k
          · rw [if_pos q, q]; exact bnd_rng eb
          · rw [if_neg q]; exact hv i hi
theorem rowF_out (T : Tap) (r : Nat) {i : Nat} : ∀ d n g p, n + d ≤ 6 → (i < 6 * r ∨ 6 * r + 6 ≤ i) → (rowF T r d n g p).2.1 i = g i
  | 0, n, g, p, _, _ => by rw [rowF]
  | d + 1, n, g, p, hn, hi => by
    by_cases h : dgB (atT T (skT T p)) = true
    · rw [rowF_y _ _ _ _ _ _ h, rowF_out T r d (n + 1) _ _ (by omega) hi]
      unfold upd; rw [if_neg (by omega)]
    · rw [rowF_n _ _ _ _ _ _ h]
theorem dg_num {x : Int32} (h : dgB x = true) : ∃ n, n ≤ 9 ∧ x - 48 = nI n := by
  have h' : ¬ x < 48 ∧ ¬ 57 < x := by unfold dgB at h; exact of_decide_eq_true h
  have h1 : 48 ≤ x.toInt := by
    have := h'.1; rw [Int32.lt_iff_toInt_lt] at this
    have e : (48 : Int32).toInt = 48 := by decide
    omega
  have h2 : x.toInt ≤ 57 := by
    have := h'.2; rw [Int32.lt_iff_toInt_lt] at this
    have e : (57 : Int32).toInt = 57 := by decide
    omega
  obtain ⟨n, hn⟩ : ∃ n : Nat, x.toInt = n := ⟨x.toInt.toNat, by omega⟩
  have ex : x = nI n := by
    apply Int32.toInt_inj.mp
    rw [nI_toInt (by omega), hn]
  refine ⟨n - 48, by omega, ?_⟩
  rw [ex]
  exact pk_sub (b := 48) (by omega)
def digV (g : Nat → Int32) : Prop := ∀ i, ∃ n, n ≤ 9 ∧ g i = nI n
theorem rowF_dig (T : Tap) (r : Nat) : ∀ d n g p, digV g → digV (rowF T r d n g p).2.1
  | 0, n, g, p, h => by rw [rowF]; exact h
  | d + 1, n, g, p, h => by
    by_cases q : dgB (atT T (skT T p)) = true
    · rw [rowF_y _ _ _ _ _ _ q]
      refine rowF_dig T r d _ _ _ (fun i => ?_)
      have ea : atT T (skT T p) = T.2 (skT T p) := by unfold atT; rw [if_pos (dg_lt T q)]
      unfold upd
      by_cases w : i = 6 * r + n
      · rw [if_pos w, ← ea]; exact dg_num q
      · rw [if_neg w]; exact h i
    · rw [rowF_n _ _ _ _ _ _ q]; exact h
/-- a LAND as it is read -/
def LayR (s : Lay) : Prop := LayB s ∧ (s.1 = false → s.2.2.2.2.1 = zv 3) ∧ rngV 0 s.2.2.2.2.1 ∧ (∀ t, t < s.2.1 → rngV 1 (fun k => s.2.2.2.2.2.1 (4 * t + k))) ∧ digV s.2.2.2.2.2.2 ∧ ∀ i, 6 * s.2.2.1 ≤ i → s.2.2.2.2.2.2 i = 0
theorem Lay0_R : LayR Lay0 := ⟨⟨by decide, by decide, by decide⟩, fun _ => rfl, rng_us 0 (by decide), fun t ht => absurd ht (Nat.not_lt_zero t), fun i => ⟨0, by decide, rfl⟩, fun i hi => rfl⟩
theorem cl_R {T : Tap} {s : Lay} {p : Nat} (hR : LayR s) (h : (clA T s p).2.2 = none) : LayR (clA T s p).1 := by
  obtain ⟨hB, h0, h1, h2, h3, h4⟩ := hR
  have hB' := (cl_B hB h).1
  by_cases q1 : atT T (skT T p) = 115 ∧ s.1 = false
  · rw [clA_s q1.1 q1.2] at h hB' ⊢
    exact ⟨hB', (fun q => by cases q), itm_rng 5 0 _ _ h1 h, h2, h3, h4⟩
  by_cases q2 : atT T (skT T p) = 116 ∧ s.2.1 < 4
  · rw [clA_t q2.1 q2.2] at h hB' ⊢
    have hr := itm_rng 5 0 (zv 7) _ (rng_us 1 (by decide)) h
    refine ⟨hB', h0, h1, fun t ht => ?_, h3, h4⟩
    intro k hk
    have ht' : t < s.2.1 + 1 := ht
    show ¬ lay4 s.2.1 _ s.2.2.2.2.2.1 (4 * t + k) < _ ∧ ¬ _ < lay4 s.2.1 _ s.2.2.2.2.2.1 (4 * t + k)
    unfold lay4
    by_cases e : t = s.2.1
    · rw [if_pos (by omega), show 4 * t + k - 4 * s.2.1 = k by omega]
      exact hr k hk
    · rw [if_neg (by omega)]
      exact h2 t (by omega) k hk
  by_cases q3 : atT T (skT T p) = 114 ∧ s.2.2.1 < 5
  · rw [clA_r q3.1 q3.2] at h hB' ⊢
    refine ⟨hB', h0, h1, h2, rowF_dig T _ _ _ _ _ h3, fun i hi => ?_⟩
    have hi' : 6 * (s.2.2.1 + 1) ≤ i := hi
    show (rowF T s.2.2.1 6 0 s.2.2.2.2.2.2 (skT T p + 1)).2.1 i = 0
    rw [rowF_out T _ _ _ _ _ (by omega) (by omega)]
    exact h4 i (by omega)
  · rw [clA_n q1 q2 q3] at h; cases h
theorem rd_R {T : Tap} : ∀ d s p, LayR s → (rdF T d s p).2 = none → LayR (rdF T d s p).1 ∧ fitL (rdF T d s p).1 = true
  | 0, s, p, _, h => by rw [rdF] at h; cases h
  | d + 1, s, p, hR, h => by
    rw [rdF] at h ⊢
    cases ef : (clA T s p).2.2 with
    | some q => rw [ef] at h; cases h
    | none =>
      rw [ef] at h
      simp only [] at h ⊢
      by_cases z : atT T (skT T (clA T s p).2.1) = 59
      · rw [if_pos z] at h ⊢
        exact rd_R d _ _ (cl_R hR ef) h
      · rw [if_neg z] at h ⊢
        refine ⟨cl_R hR ef, ?_⟩
        have h' : endT T (clA T s p).1 (clA T s p).2.1 = none := h
        unfold endT at h'
        by_cases q : atT T (skT T (clA T s p).2.1) = -1 ∧ fitL (clA T s p).1 = true
        · exact q.2
        · rw [if_neg q] at h'; cases h'
