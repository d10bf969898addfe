/-! The whole LAND read: the reference's clauses and loop -/
/-- a tower being read: its four cells hold v -/
def XMt (s : Lay) (v : Nat → Int32) (J : Nat → Int32) (Q : Nat → Nat → Int32) : Prop := J 21 = nI s.2.2.1 ∧ J 22 = nI s.2.1 ∧ (∀ i, i < 4 → Q 17 i = s.2.2.2.2.1 i) ∧ (∀ i, i < 4 * s.2.1 → Q 20 i = s.2.2.2.2.2.1 i) ∧ (∀ i, i < 4 → Q 20 (4 * s.2.1 + i) = v i) ∧ (∀ i, i < 6 * s.2.2.1 → Q 18 i = s.2.2.2.2.2.2 i) ∧ ∃ w, mxW w s.2.2.1 = s.2.2.2.1 ∧ ∀ r, r < s.2.2.1 → Q 19 r = nI (w r)
theorem XMt_ind (s : Lay) (v : Nat → Int32) : IndM (XMt s v) := by
  rintro J Q x ⟨h1, h2, h3⟩
  refine ⟨⟨?_, ?_, h3⟩, ⟨?_, ?_, h3⟩⟩ <;> rw [pk_un (by decide)] <;> assumption
section
variable {M : Mfg} {dr : Int64} {a : Abs} {σ : St} {p : Nat} {f : Option Nat}
theorem u_s {s : Lay} (h : UR M dr a (XM s) p none σ) (hs : s.2.2.2.2.1 = zv 3) : Ok (fX10_items σ (M.1 0) 115 (M.1 17) 0) (fun _ t => ItR M dr a (fun v => XM (true, s.2.1, s.2.2.1, s.2.2.2.1, v, s.2.2.2.2.2)) (itmA a.1 0 5 0 s.2.2.2.2.1 p) t) := by
  rw [hs]
  refine u_items (e := 0) (rr := 17) (off := 0) (v := s.2.2.2.2.1) (Xv := fun v => XM (true, s.2.1, s.2.2.1, s.2.2.2.1, v, s.2.2.2.2.2)) (h.imp (fun J Q q => q)) (by decide) (fun v => XM_ind _) ?_ ?_
  · rintro v v' J Q hv ⟨x1, x2, x3, x4⟩
    exact ⟨x1, x2, fun i hi => (x3 i hi).trans (hv i hi), x4⟩
  · intro v k x t q f hk g
    refine g.row17 (i := 0 + k) (by omega) x ?_
    rintro J Q ⟨x1, x2, x3, x4, x5, w, x6, x7⟩
    refine ⟨x1, x2, fun i hi => ?_, fun i hi => ?_, fun i hi => ?_, w, x6, fun r hr => ?_⟩
    · rw [updR_s, Nat.zero_add]
      show upd (Q 17) k x i = upd v k x i
      unfold upd
      by_cases q : i = k
      · rw [if_pos q, if_pos q]
      · rw [if_neg q, if_neg q]; exact x3 i hi
    · rw [updR_n _ _ (by decide)]; exact x4 i hi
    · rw [updR_n _ _ (by decide)]; exact x5 i hi
    · rw [updR_n _ _ (by decide)]; exact x7 r hr
theorem u_t {s : Lay} (h : UR M dr a (XM s) p none σ) (hT : s.2.1 < 4) : Ok (fX10_items σ (M.1 0) 116 (M.1 20) (nI (4 * s.2.1))) (fun _ t => ItR M dr a (XMt s) (itmA a.1 1 5 0 (zv 7) p) t) := by
  obtain ⟨v0, h0⟩ : ∃ v0, UR M dr a (XMt s v0) p none σ := by
    obtain ⟨J, Q, h1, h2, ⟨x1, x2, x3, x4, x5⟩, h4⟩ := h
    exact ⟨fun i => Q 20 (4 * s.2.1 + i), J, Q, h1, h2, ⟨x1, x2, x3, x4, fun i hi => rfl, x5⟩, h4⟩
  refine u_items (e := 1) (rr := 20) (off := 4 * s.2.1) (v := v0) (Xv := XMt s) h0 (by decide) (fun v => XMt_ind _ _) ?_ ?_
  · rintro v v' J Q hv ⟨x1, x2, x3, x4, x5, x6⟩
    exact ⟨x1, x2, x3, x4, fun i hi => (x5 i hi).trans (hv i hi), x6⟩
  · intro v k x t q f hk g
    refine g.row20 (i := 4 * s.2.1 + k) (by omega) x ?_
    rintro J Q ⟨x1, x2, x3, x4, x5, x6, w, x7, x8⟩
    refine ⟨x1, x2, fun i hi => ?_, fun i hi => ?_, fun i hi => ?_, fun i hi => ?_, w, x7, fun r hr => ?_⟩
    · rw [updR_n _ _ (by decide)]; exact x3 i hi
    · rw [updR_s]; unfold upd; rw [if_neg (by omega)]; exact x4 i hi
    · rw [updR_s]
      unfold upd
      by_cases q : i = k
      · rw [if_pos (by omega), if_pos q]
      · rw [if_neg (by omega), if_neg q]; exact x5 i hi
    · rw [updR_n _ _ (by decide)]; exact x6 i hi
    · rw [updR_n _ _ (by decide)]; exact x8 r hr
theorem XMt.up {s : Lay} {v J : Nat → Int32} {Q : Nat → Nat → Int32} (h : XMt s v J Q) : XM (s.1, s.2.1 + 1, s.2.2.1, s.2.2.2.1, s.2.2.2.2.1, lay4 s.2.1 v s.2.2.2.2.2.1, s.2.2.2.2.2.2) (upd J 22 (nI (s.2.1 + 1))) Q := by
  obtain ⟨x1, x2, x3, x4, x5, x6⟩ := h
  refine ⟨by rw [pk_un (by decide)]; exact x1, pk_us, x3, fun i hi => ?_, x6⟩
  have hi' : i < 4 * (s.2.1 + 1) := hi
  show Q 20 i = lay4 s.2.1 v s.2.2.2.2.2.1 i
  unfold lay4
  by_cases q : 4 * s.2.1 ≤ i ∧ i < 4 * s.2.1 + 4
  · rw [if_pos q, ← x5 (i - 4 * s.2.1) (by omega), show 4 * s.2.1 + (i - 4 * s.2.1) = i by omega]
  · rw [if_neg q]; exact x4 i (by omega)
/-- the tower's count goes up -/
theorem u_t2 {s : Lay} {r : (Nat → Int32) × Nat × Option Nat} {t : St} (h : ItR M dr a (XMt s) r t) : gI 10 22 t (M.1 0) = some (nI s.2.1) ∧ ∃ u, pV 10 22 t (M.1 0) (.int (nI s.2.1 + 1)) = some u ∧ ClR M dr a ((s.1, s.2.1 + 1, s.2.2.1, s.2.2.2.1, s.2.2.2.2.1, lay4 s.2.1 r.1 s.2.2.2.2.2.1, s.2.2.2.2.2.2), r.2) s.1 u := by
  have key : ∀ {v : Nat → Int32} {p : Nat} {f : Option Nat}, UR M dr a (XMt s v) p f t → gI 10 22 t (M.1 0) = some (nI s.2.1) ∧ ∃ u, pV 10 22 t (M.1 0) (.int (nI s.2.1 + 1)) = some u ∧ UR M dr a (XM (s.1, s.2.1 + 1, s.2.2.1, s.2.2.2.1, s.2.2.2.2.1, lay4 s.2.1 v s.2.2.2.2.2.1, s.2.2.2.2.2.2)) p f u := by
    intro v p f g
    rw [nI_1]
    refine ⟨?_, g.put22 _ (fun J Q q => q.up)⟩
    obtain ⟨J, Q, h1, h2, ⟨x1, x2, _⟩, _⟩ := g
    exact (nr_22 h1).trans (congrArg some x2)
  rcases h with ⟨e, g⟩ | ⟨q, e, ⟨v, p, g⟩ | ⟨v, g, e1, e2, e3⟩⟩
  · obtain ⟨k1, u, k2, k3⟩ := key g
    exact ⟨k1, u, k2, Or.inl ⟨e, rfl, _, k3, rfl⟩⟩
  · obtain ⟨k1, u, k2, k3⟩ := key g
    exact ⟨k1, u, k2, Or.inr ⟨q, e, Or.inl ⟨p, k3.imp (fun _ _ _ => trivial)⟩⟩⟩
  · obtain ⟨k1, u, k2, k3⟩ := key g
    exact ⟨k1, u, k2, Or.inr ⟨q, e, Or.inr ⟨q, k3.imp (fun _ _ _ => trivial), e1, e2, e3⟩⟩⟩
end
