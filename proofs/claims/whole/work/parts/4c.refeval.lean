/-! the reference: what a law is worth there -/
theorem lgc_le (x y : Int64) : lg_cmp x y ≤ 0 ↔ x ≤ y := by
  unfold lg_cmp
  by_cases h : x > y
  · rw [if_pos h]; exact ⟨fun q => absurd q (by decide), fun q => absurd h (Int64.not_lt.mpr q)⟩
  · rw [if_neg h]
    split
    · exact ⟨fun _ => Int64.not_lt.mp h, fun _ => by decide⟩
    · exact ⟨fun _ => Int64.not_lt.mp h, fun _ => by decide⟩
theorem lgc_eq (x y : Int64) : lg_cmp x y = 0 ↔ x = y := by
  unfold lg_cmp
  by_cases h : x > y
  · rw [if_pos h]; exact ⟨fun q => absurd q (by decide), fun q => absurd h (by rw [q]; exact Int64.lt_irrefl)⟩
  · rw [if_neg h]
    by_cases e : x = y
    · rw [if_pos e]; exact ⟨fun _ => e, fun _ => rfl⟩
    · rw [if_neg e]; exact ⟨fun q => absurd q (by decide), fun q => absurd q e⟩
theorem lgc_ge (x y : Int64) : 0 ≤ lg_cmp x y ↔ y ≤ x := by
  unfold lg_cmp
  by_cases h : x > y
  · rw [if_pos h]; exact ⟨fun _ => Int64.le_of_lt h, fun _ => by decide⟩
  · rw [if_neg h]
    by_cases e : x = y
    · rw [if_pos e]; exact ⟨fun _ => by rw [e]; exact Int64.le_refl _, fun _ => by decide⟩
    · rw [if_neg e]
      refine ⟨fun q => absurd q (by decide), fun q => absurd (Int64.le_antisymm q (Int64.not_lt.mp h)) (fun z => e z.symm)⟩
theorem lgc_lt (x y : Int64) : lg_cmp x y < 0 ↔ x < y := by
  rw [← Int32.not_le, lgc_ge, Int64.not_le]
theorem lgc_gt (x y : Int64) : 0 < lg_cmp x y ↔ y < x := by
  rw [← Int32.not_le, lgc_le, Int64.not_le]
def bdM (v : Int64) : Int32 := (if lg_cmp (-1000000) (if 0 < lg_cmp 1000000 v then v else 1000000) < 0 then (if 0 < lg_cmp 1000000 v then v else 1000000) else (-1000000)).toInt32
theorem f_bounded (σ : St) (v : Int64) : fX10_bounded σ v = some (bdM v, σ) := by
  unfold fX10_bounded
  rw [f_minL, bd_some, f_maxL, bd_some]
  rfl
def jnM (c x y : Int32) : Int32 := if c = 2 then bdM (x.toInt64 + y.toInt64) else if c = 3 then bdM (x.toInt64 - y.toInt64) else if c = 4 then bdM (x.toInt64 * y.toInt64) else if c = 5 then (if lg_cmp y.toInt64 0 = 0 then 0 else bdM (x.toInt64 / y.toInt64)) else if c = 6 then (if lg_cmp x.toInt64 y.toInt64 = 0 then 1 else 0) else if c = 7 then (if 0 ≤ lg_cmp x.toInt64 y.toInt64 then 0 else 1) else if c = 8 then (if lg_cmp x.toInt64 y.toInt64 ≤ 0 then 0 else 1) else if c = 10 then (if lg_cmp x.toInt64 0 = 0 then 0 else if lg_cmp y.toInt64 0 = 0 then 0 else 1) else (if lg_cmp x.toInt64 0 = 0 then (if lg_cmp y.toInt64 0 = 0 then 0 else 1) else 1)
theorem f_worked (σ : St) (c x y : Int32) : fX10_worked σ c x.toInt64 y.toInt64 = some (jnM c x y, σ) := by
  have i1 : (if lg_cmp y.toInt64 0 = 0 then some ((0 : Int32), σ) else if y.toInt64 = 0 then none else bd (some (bdM (x.toInt64 / y.toInt64), σ)) (fun x7 t8 => some (x7, t8))) = some ((if lg_cmp y.toInt64 0 = 0 then 0 else bdM (x.toInt64 / y.toInt64)), σ) := by
    by_cases h : lg_cmp y.toInt64 0 = 0
    · rw [if_pos h, if_pos h]
    · rw [if_neg h, if_neg h, if_neg (fun q => h ((lgc_eq _ _).mpr q)), bd_some]
  have i2 : (if lg_cmp x.toInt64 y.toInt64 = 0 then some ((1 : Int32), σ) else some (0, σ)) = some ((if lg_cmp x.toInt64 y.toInt64 = 0 then 1 else 0), σ) := by
    split <;> rfl
  have i3 : (if 0 ≤ lg_cmp x.toInt64 y.toInt64 then some ((0 : Int32), σ) else some (1, σ)) = some ((if 0 ≤ lg_cmp x.toInt64 y.toInt64 then 0 else 1), σ) := by
    split <;> rfl
  have i4 : (if lg_cmp x.toInt64 y.toInt64 ≤ 0 then some ((0 : Int32), σ) else some (1, σ)) = some ((if lg_cmp x.toInt64 y.toInt64 ≤ 0 then 0 else 1), σ) := by
    split <;> rfl
  have i5 : (if lg_cmp x.toInt64 0 = 0 then if lg_cmp y.toInt64 0 = 0 then some ((0 : Int32), σ) else some (1, σ) else some (1, σ)) = some ((if lg_cmp x.toInt64 0 = 0 then (if lg_cmp y.toInt64 0 = 0 then 0 else 1) else 1), σ) := by
    split
    · split <;> rfl
    · rfl
  have i6 : (if lg_cmp x.toInt64 0 = 0 then some ((0 : Int32), σ) else if lg_cmp y.toInt64 0 = 0 then some (0, σ) else some (1, σ)) = some ((if lg_cmp x.toInt64 0 = 0 then 0 else if lg_cmp y.toInt64 0 = 0 then 0 else 1), σ) := by
    split
    · rfl
    · split <;> rfl
  unfold fX10_worked
  simp only [f_bounded]
  rw [i1, i2, i3, i4, i5, i6]
  simp only [bd_some]
  by_cases hx : c.toInt < 2 ∨ 2 + 9 ≤ c.toInt
  · rw [tbs_out hx]
    have hne : ∀ v : Int32, 2 ≤ v.toInt → v.toInt < 11 → ¬ c = v := fun v h1 h2 e => by rw [e] at hx; omega
    unfold jnM
    rw [if_neg (hne 2 (by decide) (by decide)), if_neg (hne 3 (by decide) (by decide)), if_neg (hne 4 (by decide) (by decide)), if_neg (hne 5 (by decide) (by decide)), if_neg (hne 6 (by decide) (by decide)), if_neg (hne 7 (by decide) (by decide)), if_neg (hne 8 (by decide) (by decide)), if_neg (hne 10 (by decide) (by decide))]
  · obtain ⟨j, hj, e⟩ : ∃ j : Nat, j < 9 ∧ c.toInt = 2 + j := ⟨(c.toInt - 2).toNat, by omega, by omega⟩
    have e' : c = nI (2 + j) := by
      apply Int32.toInt_inj.mp
      rw [nI_toInt (by omega), e]; omega
    rw [e']
    refine tbs_at j (by rw [nI_toInt (by omega)]; omega) ?_
    clear e e' hx i1 i2 i3 i4 i5 i6
    match j, hj with
    | 0, _ =>
      have e9 : ∀ z, jnM (nI (2 + 0)) x y = z → (some (some (z, σ)) : Option (Option (Int32 × St))) = some (some (jnM (nI (2 + 0)) x y, σ)) := fun z hz => by rw [hz]
      refine e9 _ ?_
      unfold jnM
      rw [if_pos (show nI (2 + 0) = 2 by decide)]
    | 1, _ =>
      have e9 : ∀ z, jnM (nI (2 + 1)) x y = z → (some (some (z, σ)) : Option (Option (Int32 × St))) = some (some (jnM (nI (2 + 1)) x y, σ)) := fun z hz => by rw [hz]
      refine e9 _ ?_
      unfold jnM
      rw [if_neg (show ¬ nI (2 + 1) = 2 by decide), if_pos (show nI (2 + 1) = 3 by decide)]
    | 2, _ =>
      have e9 : ∀ z, jnM (nI (2 + 2)) x y = z → (some (some (z, σ)) : Option (Option (Int32 × St))) = some (some (jnM (nI (2 + 2)) x y, σ)) := fun z hz => by rw [hz]
      refine e9 _ ?_
      unfold jnM
      rw [if_neg (show ¬ nI (2 + 2) = 2 by decide), if_neg (show ¬ nI (2 + 2) = 3 by decide), if_pos (show nI (2 + 2) = 4 by decide)]
    | 3, _ =>
      have e9 : ∀ z, jnM (nI (2 + 3)) x y = z → (some (some (z, σ)) : Option (Option (Int32 × St))) = some (some (jnM (nI (2 + 3)) x y, σ)) := fun z hz => by rw [hz]
      refine e9 _ ?_
      unfold jnM
      rw [if_neg (show ¬ nI (2 + 3) = 2 by decide), if_neg (show ¬ nI (2 + 3) = 3 by decide), if_neg (show ¬ nI (2 + 3) = 4 by decide), if_pos (show nI (2 + 3) = 5 by decide)]
    | 4, _ =>
      have e9 : ∀ z, jnM (nI (2 + 4)) x y = z → (some (some (z, σ)) : Option (Option (Int32 × St))) = some (some (jnM (nI (2 + 4)) x y, σ)) := fun z hz => by rw [hz]
      refine e9 _ ?_
      unfold jnM
      rw [if_neg (show ¬ nI (2 + 4) = 2 by decide), if_neg (show ¬ nI (2 + 4) = 3 by decide), if_neg (show ¬ nI (2 + 4) = 4 by decide), if_neg (show ¬ nI (2 + 4) = 5 by decide), if_pos (show nI (2 + 4) = 6 by decide)]
    | 5, _ =>
      have e9 : ∀ z, jnM (nI (2 + 5)) x y = z → (some (some (z, σ)) : Option (Option (Int32 × St))) = some (some (jnM (nI (2 + 5)) x y, σ)) := fun z hz => by rw [hz]
      refine e9 _ ?_
      unfold jnM
      rw [if_neg (show ¬ nI (2 + 5) = 2 by decide), if_neg (show ¬ nI (2 + 5) = 3 by decide), if_neg (show ¬ nI (2 + 5) = 4 by decide), if_neg (show ¬ nI (2 + 5) = 5 by decide), if_neg (show ¬ nI (2 + 5) = 6 by decide), if_pos (show nI (2 + 5) = 7 by decide)]
    | 6, _ =>
      have e9 : ∀ z, jnM (nI (2 + 6)) x y = z → (some (some (z, σ)) : Option (Option (Int32 × St))) = some (some (jnM (nI (2 + 6)) x y, σ)) := fun z hz => by rw [hz]
      refine e9 _ ?_
      unfold jnM
      rw [if_neg (show ¬ nI (2 + 6) = 2 by decide), if_neg (show ¬ nI (2 + 6) = 3 by decide), if_neg (show ¬ nI (2 + 6) = 4 by decide), if_neg (show ¬ nI (2 + 6) = 5 by decide), if_neg (show ¬ nI (2 + 6) = 6 by decide), if_neg (show ¬ nI (2 + 6) = 7 by decide), if_pos (show nI (2 + 6) = 8 by decide)]
    | 7, _ =>
      have e9 : ∀ z, jnM (nI (2 + 7)) x y = z → (some (some (z, σ)) : Option (Option (Int32 × St))) = some (some (jnM (nI (2 + 7)) x y, σ)) := fun z hz => by rw [hz]
      refine e9 _ ?_
      unfold jnM
      rw [if_neg (show ¬ nI (2 + 7) = 2 by decide), if_neg (show ¬ nI (2 + 7) = 3 by decide), if_neg (show ¬ nI (2 + 7) = 4 by decide), if_neg (show ¬ nI (2 + 7) = 5 by decide), if_neg (show ¬ nI (2 + 7) = 6 by decide), if_neg (show ¬ nI (2 + 7) = 7 by decide), if_neg (show ¬ nI (2 + 7) = 8 by decide), if_neg (show ¬ nI (2 + 7) = 10 by decide)]
    | 8, _ =>
      have e9 : ∀ z, jnM (nI (2 + 8)) x y = z → (some (some (z, σ)) : Option (Option (Int32 × St))) = some (some (jnM (nI (2 + 8)) x y, σ)) := fun z hz => by rw [hz]
      refine e9 _ ?_
      unfold jnM
      rw [if_neg (show ¬ nI (2 + 8) = 2 by decide), if_neg (show ¬ nI (2 + 8) = 3 by decide), if_neg (show ¬ nI (2 + 8) = 4 by decide), if_neg (show ¬ nI (2 + 8) = 5 by decide), if_neg (show ¬ nI (2 + 8) = 6 by decide), if_neg (show ¬ nI (2 + 8) = 7 by decide), if_neg (show ¬ nI (2 + 8) = 8 by decide), if_pos (show nI (2 + 8) = 10 by decide)]
    | j + 9, h => omega
def ev1 : List Int32 → Option Int32
  | [x] => some x
  | _ => none
def evN (F : List Int32 → Option Int32) : List Int32 → Option Int32
  | [] => none
  | x :: q => F ((1 - x) :: q)
def evJ (F : List Int32 → Option Int32) (c : Int32) : List Int32 → Option Int32
  | y :: x :: q => F (jnM c x y :: q)
  | _ => none
def evW (c v g : Nat → Int32) : Nat → Nat → List Int32 → Option Int32
  | 0, _, st => ev1 st
  | d + 1, k, st => if c k = 0 then (if st.length < 80 then evW c v g d (k + 1) (v k :: st) else none)
    else if c k = 1 then (if st.length < 80 ∧ ¬ v k < 0 ∧ v k < 6 then evW c v g d (k + 1) (g (v k).toNatClampNeg :: st) else none)
    else if c k = 9 then evN (evW c v g d (k + 1)) st
    else evJ (evW c v g d (k + 1)) (c k) st
theorem evW_s (c v g : Nat → Int32) (d k : Nat) (st : List Int32) : evW c v g (d + 1) k st = if c k = 0 then (if st.length < 80 then evW c v g d (k + 1) (v k :: st) else none) else if c k = 1 then (if st.length < 80 ∧ ¬ v k < 0 ∧ v k < 6 then evW c v g d (k + 1) (g (v k).toNatClampNeg :: st) else none) else if c k = 9 then evN (evW c v g d (k + 1)) st else evJ (evW c v g d (k + 1)) (c k) st := rfl
def evQ (c v tf sf st g : Nat → Int32) (n : Nat) : Nat → Nat → Option Int32
  | 0, _ => some 0
  | d + 1, i => if tf (140 * n + i) = sf (140 * n + i) then evW c v g ((st (140 * n + i)).toNatClampNeg - (sf (140 * n + i)).toNatClampNeg) (520 * n + (sf (140 * n + i)).toNatClampNeg) []
    else (evW c v g ((sf (140 * n + i)).toNatClampNeg - (tf (140 * n + i)).toNatClampNeg) (520 * n + (tf (140 * n + i)).toNatClampNeg) []).bind fun r => if r = 0 then evQ c v tf sf st g n d (i + 1) else evW c v g ((st (140 * n + i)).toNatClampNeg - (sf (140 * n + i)).toNatClampNeg) (520 * n + (sf (140 * n + i)).toNatClampNeg) []
section
variable {M : Mfg} {J : Nat → Int32} {Q : Nat → Nat → Int32} {dr : Int64} {σ : St}
theorem MV.cell (h : MV M J Q dr σ) {k z : Nat} (hk : domM k = true) (hc : ∀ R, cellM M.1 J R dr k = .inl (0, z, .inl (R k))) : ∃ f, σ.2.2 (M.1 k) = some (.inl (0, z, .inl f)) := by
  obtain ⟨R', _, hw, _⟩ := h
  exact ⟨R' k, (hw.2 _ hk).trans (congrArg some (hc R'))⟩
theorem MV.putT (h : MV M J Q dr σ) (k i : Nat) (v : Int32) {z : Nat} {f : Nat → Int32} (hk : domM k = true) (hr : scrM k = true) (hc : ∀ R, cellM M.1 J R dr k = .inl (0, z, .inl (R k))) (hf : σ.2.2 (M.1 k) = some (.inl (0, z, .inl f))) (hi : i < z) (hz : z < 2 ^ 31) : ∃ u, sI 0 σ (M.1 k) (nI i) v = some u ∧ (MV M J Q dr u ∧ u.2.2 (M.1 k) = some (.inl (0, z, .inl (upd f i v))) ∧ ∀ j, domM j = true → j ≠ k → u.2.2 (M.1 j) = σ.2.2 (M.1 j)) := by
  obtain ⟨R', hR, hw, hs⟩ := h
  obtain ⟨u, e, g1, g2⟩ := hw.putA k (nI i) v hk hc (inb_nI hi hz)
  have e2 := sI_n hf hi hz v
  rw [e] at e2
  have e3 := Option.some.inj e2
  refine ⟨u, e, ⟨_, fun j hj => ?_, g1, hs.tr g2⟩, ?_, fun j hj hne => ?_⟩
  · rw [updR_n _ _ (fun q => by rw [q, hr] at hj; exact absurd hj (by decide)), hR j hj]
  · rw [e3]; exact up_s _ _ _
  · rw [e3]; exact up_n _ _ (fun q => hne (hw.1 j k hj hk q))
set_option maxHeartbeats 1000000 in
theorem m_workOut (h : MV M J Q dr σ) {g : Nat → Int32} (hg : σ.2.2 (M.1 15) = some (.inl (0, 6, .inl g))) {n a e : Nat} {v : Int32} (hn : n ≤ 4) (hae : a ≤ e) (he : e ≤ 520) (hv : evW (Q 6) (Q 7) g (e - a) (520 * n + a) [] = some v) : Ok (fX10_workOut σ (M.1 0) (nI n) (nI a) (nI e)) (fun r t => r = v ∧ MV M J Q dr t ∧ t.2.2 (M.1 15) = some (.inl (0, 6, .inl g))) := by
  obtain ⟨f0, hf0⟩ := h.cell (k := 16) (z := 80) rfl (fun _ => rfl)
  have o1 : ∀ k, (520 * nI n) + nI k = nI (520 * n + k) := fun k => by
    rw [show (520 : Int32) = nI 520 from rfl, pk_mul, nI_add]
  unfold fX10_workOut
  refine Ok.nE (o1 a) ?_
  rw [o1 e]
  refine Ok.m3 (fun d x2 x3 t => ∃ k st f, k + d = e ∧ x2 = nI (List.length st) ∧ x3 = nI (520 * n + k) ∧ st.length ≤ 80 ∧ stR f st ∧ evW (Q 6) (Q 7) g d (520 * n + k) st = some v ∧ MV M J Q dr t ∧ t.2.2 (M.1 15) = some (.inl (0, 6, .inl g)) ∧ t.2.2 (M.1 16) = some (.inl (0, 80, .inl f))) ?_ FU (e - a) _ _ _ (by unfold FU; omega) ⟨a, [], f0, by omega, rfl, rfl, by simp, trivial, hv, h, hg, hf0⟩
  rintro j d x2 x3 t ⟨k, st, f, hk, rfl, rfl, hl, hR, hv, h1, hg1, hf1⟩ hj
  refine Ok.bI (nI_leI (by omega) (by omega)) (fun q => ?_) (fun q => ?_)
  · have : d = 0 := by omega
    subst this
    match st, hv, hR with
    | [], hv, _ => exact absurd hv (by simp [evW, ev1])
    | [x], hv, hR =>
      have : x = v := by simpa [evW, ev1] using hv
      subst this
      refine Ok.r (nr_16 h1) (Ok.r (v := x) ?_ (Ok.p ⟨rfl, h1, hg1⟩))
      exact (aI_n hf1 (i := 0) (by decide) (by decide)).trans (congrArg some hR.1)
    | x :: y :: z, hv, _ => exact absurd hv (by simp [evW, ev1])
  obtain ⟨d, rfl⟩ : ∃ e, d = e + 1 := ⟨d - 1, by omega⟩
  have hk2 : 520 * n + k < 2600 := by omega
  rw [evW_s] at hv
  have wr : ∀ (i : Nat) (x : Int32), i < 80 → ∃ u, sI 0 t (M.1 16) (nI i) x = some u ∧ (MV M J Q dr u ∧ u.2.2 (M.1 16) = some (.inl (0, 80, .inl (upd f i x))) ∧ u.2.2 (M.1 15) = some (.inl (0, 6, .inl g))) := by
    intro i x hi
    obtain ⟨u, e1, g1, g2, g3⟩ := h1.putT 16 i x (z := 80) rfl rfl (fun _ => rfl) hf1 hi (by decide)
    exact ⟨u, e1, g1, g2, (g3 15 rfl (by decide)).trans hg1⟩
  refine Ok.r (nr_6 h1) (Ok.r (na_6 h1 hk2) (Ok.j2 (Ok.j1 ?_)))
  have push : ∀ (w : Int32), st.length < 80 → evW (Q 6) (Q 7) g d (520 * n + k + 1) (w :: st) = some v → Ok ((sI 0 t (M.1 16) (nI st.length) w).bind (fun t21 => j (nI st.length + 1) (nI (520 * n + k) + 1) t21)) (fun r t => r = v ∧ MV M J Q dr t ∧ t.2.2 (M.1 15) = some (.inl (0, 6, .inl g))) := by
    intro w h80 hw
    refine Ok.w (wr st.length w h80) ?_
    rintro u ⟨u1, u2, u3⟩
    rw [nI_1, nI_1]
    exact hj d _ _ _ (by omega) ⟨k + 1, w :: st, _, by omega, rfl, rfl, by simp only [List.length_cons]; omega, ⟨pk_us, stR_upd hR (Nat.le_refl _)⟩, hw, u1, u3, u2⟩
  refine Ok.b (fun q0 => ?_) (fun q0 => ?_)
  · rw [if_pos q0] at hv
    by_cases h80 : st.length < 80
    · rw [if_pos h80] at hv
      exact Ok.r (nr_16 h1) (Ok.r (nr_6 h1) (Ok.r (na_6 h1 hk2) (Ok.j3 (Ok.bT q0 (Ok.r (nr_7 h1) (Ok.r (na_7 h1 hk2) (push _ h80 hv)))))))
    · rw [if_neg h80] at hv; exact absurd hv (by simp)
  rw [if_neg q0] at hv
  refine Ok.r (nr_6 h1) (Ok.r (na_6 h1 hk2) (Ok.b (fun q1 => ?_) (fun q1 => ?_)))
  · rw [if_pos q1] at hv
    by_cases h80 : st.length < 80 ∧ ¬ Q 7 (520 * n + k) < 0 ∧ Q 7 (520 * n + k) < 6
    · rw [if_pos h80] at hv
      exact Ok.r (nr_16 h1) (Ok.r (nr_6 h1) (Ok.r (na_6 h1 hk2) (Ok.j3 (Ok.bF q0 (Ok.r (nr_15 h1) (Ok.r (nr_7 h1) (Ok.r (na_7 h1 hk2) (Ok.r (aI_of hg1 (inb_of h80.2.1 h80.2.2 (by decide))) (push _ h80.1 hv)))))))))
    · rw [if_neg h80] at hv; exact absurd hv (by simp)
  rw [if_neg q1] at hv
  refine Ok.r (nr_6 h1) (Ok.r (na_6 h1 hk2) (Ok.b (fun q9 => ?_) (fun q9 => ?_)))
  · rw [if_pos q9] at hv
    match st, hv, hR, hl with
    | [], hv, _, _ => exact absurd hv (by simp [evN])
    | x :: q, hv, hR, hl =>
      have hl2 := hl
      simp only [List.length_cons] at hl2
      have e1 : nI (List.length (x :: q)) - 1 = nI q.length := by rw [List.length_cons, nI_pred]
      rw [e1]
      refine Ok.r (nr_16 h1) (Ok.r (nr_16 h1) (Ok.r (v := x) ((aI_n hf1 (by omega) (by decide)).trans (congrArg some hR.1)) (Ok.w (wr _ _ (by omega)) ?_)))
      rintro u ⟨u1, u2, u3⟩
      rw [nI_1]
      exact hj d _ _ _ (by omega) ⟨k + 1, (1 - x) :: q, _, by omega, rfl, rfl, hl, ⟨pk_us, stR_upd hR.2 (Nat.le_refl _)⟩, hv, u1, u3, u2⟩
  · rw [if_neg q9] at hv
    match st, hv, hR, hl with
    | [], hv, _, _ => exact absurd hv (by simp [evJ])
    | [x], hv, _, _ => exact absurd hv (by simp [evJ])
    | y :: x :: q, hv, hR, hl =>
      have hl2 := hl
      simp only [List.length_cons] at hl2
      have e1 : nI (List.length (y :: x :: q)) + (-1) = nI (q.length + 1) := pk_m1 _
      have e2 : nI (List.length (y :: x :: q)) + (-1) - 1 = nI q.length := by rw [e1, nI_pred]
      rw [e2, e1]
      refine Ok.r (nr_16 h1) (Ok.r (nr_6 h1) (Ok.r (na_6 h1 hk2) (Ok.r (nr_16 h1) (Ok.r (v := x) ((aI_n hf1 (by omega) (by decide)).trans (congrArg some hR.2.1)) (Ok.r (nr_16 h1) (Ok.r (v := y) ((aI_n hf1 (by omega) (by decide)).trans (congrArg some hR.1)) (Ok.cE (f_worked _ _ _ _) (Ok.w (wr _ _ (by omega)) ?_))))))))
      rintro u ⟨u1, u2, u3⟩
      rw [nI_1]
      exact hj d _ _ _ (by omega) ⟨k + 1, jnM (Q 6 (520 * n + k)) x y :: q, _, by omega, rfl, rfl, by simp only [List.length_cons]; omega, ⟨pk_us, stR_upd hR.2.2 (Nat.le_refl _)⟩, hv, u1, u3, u2⟩
/-- letters as they can be -/
def LtB (g : Nat → Int32) : Prop := ∀ j, j < 6 → ∃ b, b < 100000 ∧ g j = nI b
def LawM (Q : Nat → Nat → Int32) (n : Nat) (f : LawF) : Prop := ∃ nc, nc ≤ 140 ∧ Q 9 n = nI nc ∧ (∀ c, c < nc → ∃ a b e : Nat, a ≤ b ∧ b ≤ e ∧ e ≤ 520 ∧ Q 10 (140 * n + c) = nI a ∧ Q 11 (140 * n + c) = nI b ∧ Q 12 (140 * n + c) = nI e) ∧ ∀ g, LtB g → evQ (Q 6) (Q 7) (Q 10) (Q 11) (Q 12) g n nc 0 = some (f g)
theorem m_worthOf (h : MV M J Q dr σ) {g : Nat → Int32} (hg : σ.2.2 (M.1 15) = some (.inl (0, 6, .inl g))) {n : Nat} {f : LawF} (hn : n < 4) (hL : LawM Q n f) (hgb : LtB g) : Ok (fX10_worthOf σ (M.1 0) (nI n)) (fun r t => r = f g ∧ MV M J Q dr t) := by
  obtain ⟨nc, hnc, e9, hp, hv⟩ := hL
  have o1 : (140 * nI n) = nI (140 * n) := by rw [show (140 : Int32) = nI 140 from rfl, pk_mul]
  unfold fX10_worthOf
  refine Ok.nE o1 ?_
  rw [o1]
  refine Ok.f2 nc 0 (fun k x t => x = nI (140 * n + k) ∧ evQ (Q 6) (Q 7) (Q 10) (Q 11) (Q 12) g n (nc - k) k = some (f g) ∧ MV M J Q dr t ∧ t.2.2 (M.1 15) = some (.inl (0, 6, .inl g))) (by omega) (by omega) ⟨rfl, hv g hgb, h, hg⟩ ?_ ?_
  · rintro j k x t hk ⟨rfl, hk2, h1, hg1⟩ hj
    obtain ⟨a, b, e, hab, hbe, he, q10, q11, q12⟩ := hp k hk
    have hi : 140 * n + k < 700 := by omega
    obtain ⟨d, hd⟩ : ∃ d, nc - k = d + 1 := ⟨nc - k - 1, by omega⟩
    rw [hd, evQ, q10, q11, q12, nI_clamp (by omega), nI_clamp (by omega), nI_clamp (by omega)] at hk2
    refine Ok.r (nr_9 h1) (Ok.r ((na_9 h1 (by omega)).trans (congrArg some e9)) ?_)
    rw [nI_add]
    have fin : ∀ {τ : St}, MV M J Q dr τ → τ.2.2 (M.1 15) = some (.inl (0, 6, .inl g)) → evW (Q 6) (Q 7) g (e - b) (520 * n + b) [] = some (f g) → Ok ((gR 10 11 τ (M.1 0)).bind fun a13 => (aI 0 τ a13 (nI (140 * n + k))).bind fun x14 => (gR 10 12 τ (M.1 0)).bind fun a15 => (aI 0 τ a15 (nI (140 * n + k))).bind fun x16 => bo 10 τ (M.1 0) (fX10_workOut τ (M.1 0) (nI n) x14 x16) (fun x17 t18 => some (x17, t18))) (fun r t => r = f g ∧ MV M J Q dr t) := by
      intro τ h2 hg2 hw
      refine Ok.r (nr_11 h2) (Ok.r ((na_11 h2 hi).trans (congrArg some q11)) (Ok.r (nr_12 h2) (Ok.r ((na_12 h2 hi).trans (congrArg some q12)) (Ok.v (nO h2) (m_workOut h2 hg2 (by omega) hbe he hw) ?_))))
      rintro r3 t3 ⟨rfl, h3, _⟩
      exact Ok.p ⟨rfl, h3⟩
    refine Ok.bF (nI_ge (by omega) (by omega)) (Ok.r (nr_10 h1) (Ok.r ((na_10 h1 hi).trans (congrArg some q10)) (Ok.r (nr_11 h1) (Ok.r ((na_11 h1 hi).trans (congrArg some q11)) (Ok.j1 ?_)))))
    refine Ok.b (fun q => ?_) (fun q => ?_)
    · rw [if_pos q] at hk2
      exact fin h1 hg1 hk2
    · rw [if_neg q] at hk2
      obtain ⟨r, hr, hk3⟩ := Option.bind_eq_some_iff.mp hk2
      refine Ok.r (nr_10 h1) (Ok.r ((na_10 h1 hi).trans (congrArg some q10)) (Ok.r (nr_11 h1) (Ok.r ((na_11 h1 hi).trans (congrArg some q11)) (Ok.v (nO h1) (m_workOut h1 hg1 (by omega) hab (by omega) hr) ?_))))
      rintro r3 t3 ⟨rfl, h3, hg3⟩
      refine Ok.b (fun q => ?_) (fun q => ?_)
      · rw [if_pos q] at hk3
        rw [nI_1]
        exact hj _ _ ⟨rfl, by rw [show nc - (k + 1) = d by omega]; exact hk3, h3, hg3⟩
      · rw [if_neg q] at hk3
        exact fin h3 hg3 hk3
  · rintro j x t ⟨rfl, hk2, h1, hg1⟩
    rw [Nat.sub_self, evQ] at hk2
    refine Ok.r (nr_9 h1) (Ok.r ((na_9 h1 (by omega)).trans (congrArg some e9)) ?_)
    rw [nI_add]
    exact Ok.bT (nI_le (Nat.le_refl _) (by omega)) (Ok.p ⟨Option.some.inj hk2, h1⟩)
end
