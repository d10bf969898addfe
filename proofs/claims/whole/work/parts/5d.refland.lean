/-! The LAND's reader: the reference -/
def mxW (w : Nat → Nat) : Nat → Nat
  | 0 => 0
  | n + 1 => max (mxW w n) (w n)
theorem mxW_cong {w w' : Nat → Nat} : ∀ {n : Nat}, (∀ i, i < n → w i = w' i) → mxW w n = mxW w' n
  | 0, _ => rfl
  | n + 1, h => by rw [mxW, mxW, mxW_cong (fun i hi => h i (by omega)), h n (by omega)]
theorem mxW_le {w : Nat → Nat} {b : Nat} : ∀ {n : Nat}, mxW w n ≤ b ↔ ∀ i, i < n → w i ≤ b
  | 0 => ⟨fun _ i hi => by omega, fun _ => Nat.zero_le _⟩
  | n + 1 => by
    rw [mxW, Nat.max_le, mxW_le]
    refine ⟨fun h i hi => ?_, fun h => ⟨fun i hi => h i (by omega), h n (by omega)⟩⟩
    by_cases e : i = n
    · rw [e]; exact h.2
    · exact h.1 i (by omega)
/-- the rows' cells are known below b -/
def XMb (s : Lay) (b : Nat) (J : Nat → Int32) (Q : Nat → Nat → Int32) : Prop := J 21 = nI s.2.2.1 ∧ J 22 = nI s.2.1 ∧ (∀ i, i < 4 → Q 17 i = s.2.2.2.2.1 i) ∧ (∀ i, i < 4 * s.2.1 → Q 20 i = s.2.2.2.2.2.1 i) ∧ (∀ i, i < b → Q 18 i = s.2.2.2.2.2.2 i) ∧ ∃ w, mxW w s.2.2.1 = s.2.2.2.1 ∧ ∀ r, r < s.2.2.1 → Q 19 r = nI (w r)
def XM (s : Lay) (J : Nat → Int32) (Q : Nat → Nat → Int32) : Prop := XMb s (6 * s.2.2.1) J Q
theorem XMb_ind (s : Lay) (b : Nat) : IndM (XMb s b) := by
  rintro J Q v ⟨h1, h2, h3⟩
  refine ⟨⟨?_, ?_, h3⟩, ⟨?_, ?_, h3⟩⟩ <;> rw [pk_un (by decide)] <;> assumption
theorem XM_ind (s : Lay) : IndM (XM s) := XMb_ind s _
section
variable {M : Mfg} {dr : Int64} {a : Abs} {σ : St} {X Y : (Nat → Int32) → (Nat → Nat → Int32) → Prop} {p : Nat} {f : Option Nat}
theorem UR.imp (h : UR M dr a X p f σ) (hi : ∀ J Q, X J Q → Y J Q) : UR M dr a Y p f σ := by
  obtain ⟨J, Q, h1, h2, h3, h4⟩ := h
  exact ⟨J, Q, h1, h2, hi _ _ h3, h4⟩
theorem UR.put21 (h : UR M dr a X p f σ) (v : Int32) (hX : ∀ J Q, X J Q → Y (upd J 21 v) Q) : ∃ t, pV 10 21 σ (M.1 0) (.int v) = some t ∧ UR M dr a Y p f t := by
  obtain ⟨J, Q, h1, h2, h3, h4, h5, h6⟩ := h
  obtain ⟨t, e, g⟩ := h1.putI 21 v (by decide) (fun _ => rfl) (Nat.le_of_ble_eq_true rfl) (fun _ => rfl)
  exact ⟨t, e, upd J 21 v, Q, g, h2.scr (fun k hk => pk_un (fun z => hk (by unfold mcI; omega))) (fun _ _ => rfl), hX _ _ h3, by rw [pk_un (by decide)]; exact h4, by rw [pk_un (by decide)]; exact h5, h6⟩
theorem UR.put22 (h : UR M dr a X p f σ) (v : Int32) (hX : ∀ J Q, X J Q → Y (upd J 22 v) Q) : ∃ t, pV 10 22 σ (M.1 0) (.int v) = some t ∧ UR M dr a Y p f t := by
  obtain ⟨J, Q, h1, h2, h3, h4, h5, h6⟩ := h
  obtain ⟨t, e, g⟩ := h1.putI 22 v (by decide) (fun _ => rfl) (Nat.le_of_ble_eq_true rfl) (fun _ => rfl)
  exact ⟨t, e, upd J 22 v, Q, g, h2.scr (fun k hk => pk_un (fun z => hk (by unfold mcI; omega))) (fun _ _ => rfl), hX _ _ h3, by rw [pk_un (by decide)]; exact h4, by rw [pk_un (by decide)]; exact h5, h6⟩
theorem UR.row17 (h : UR M dr a X p f σ) {i : Nat} (hi : i < 4) (v : Int32) (hX : ∀ J Q, X J Q → Y J (updR Q 17 (upd (Q 17) i v))) : ∃ t, sI 0 σ (M.1 17) (nI i) v = some t ∧ UR M dr a Y p f t := by
  obtain ⟨J, Q, h1, h2, h3, h4⟩ := h
  obtain ⟨t, e, g⟩ := h1.putN 17 i v rfl rfl (fun _ => rfl) hi (by decide)
  exact ⟨t, e, J, _, g, h2.scr (fun _ _ => rfl) (fun k hk => updR_n _ _ (fun q => hk (by unfold mcR; omega))), hX _ _ h3, h4⟩
theorem UR.row18 (h : UR M dr a X p f σ) {i : Nat} (hi : i < 30) (v : Int32) (hX : ∀ J Q, X J Q → Y J (updR Q 18 (upd (Q 18) i v))) : ∃ t, sI 0 σ (M.1 18) (nI i) v = some t ∧ UR M dr a Y p f t := by
  obtain ⟨J, Q, h1, h2, h3, h4⟩ := h
  obtain ⟨t, e, g⟩ := h1.putN 18 i v rfl rfl (fun _ => rfl) hi (by decide)
  exact ⟨t, e, J, _, g, h2.scr (fun _ _ => rfl) (fun k hk => updR_n _ _ (fun q => hk (by unfold mcR; omega))), hX _ _ h3, h4⟩
theorem UR.row19 (h : UR M dr a X p f σ) {i : Nat} (hi : i < 5) (v : Int32) (hX : ∀ J Q, X J Q → Y J (updR Q 19 (upd (Q 19) i v))) : ∃ t, sI 0 σ (M.1 19) (nI i) v = some t ∧ UR M dr a Y p f t := by
  obtain ⟨J, Q, h1, h2, h3, h4⟩ := h
  obtain ⟨t, e, g⟩ := h1.putN 19 i v rfl rfl (fun _ => rfl) hi (by decide)
  exact ⟨t, e, J, _, g, h2.scr (fun _ _ => rfl) (fun k hk => updR_n _ _ (fun q => hk (by unfold mcR; omega))), hX _ _ h3, h4⟩
theorem UR.row20 (h : UR M dr a X p f σ) {i : Nat} (hi : i < 16) (v : Int32) (hX : ∀ J Q, X J Q → Y J (updR Q 20 (upd (Q 20) i v))) : ∃ t, sI 0 σ (M.1 20) (nI i) v = some t ∧ UR M dr a Y p f t := by
  obtain ⟨J, Q, h1, h2, h3, h4⟩ := h
  obtain ⟨t, e, g⟩ := h1.putN 20 i v rfl rfl (fun _ => rfl) hi (by decide)
  exact ⟨t, e, J, _, g, h2.scr (fun _ _ => rfl) (fun k hk => updR_n _ _ (fun q => hk (by unfold mcR; omega))), hX _ _ h3, h4⟩
theorem XMb.rd {s : Lay} {b : Nat} (h : UR M dr a (XMb s b) p f σ) : gI 10 21 σ (M.1 0) = some (nI s.2.2.1) ∧ gI 10 22 σ (M.1 0) = some (nI s.2.1) ∧ gR 10 17 σ (M.1 0) = some (M.1 17) ∧ gR 10 18 σ (M.1 0) = some (M.1 18) ∧ gR 10 19 σ (M.1 0) = some (M.1 19) ∧ gR 10 20 σ (M.1 0) = some (M.1 20) := by
  obtain ⟨J, Q, h1, h2, ⟨x1, x2, x3⟩, h4⟩ := h
  exact ⟨(nr_21 h1).trans (congrArg some x1), (nr_22 h1).trans (congrArg some x2), nr_17 h1, nr_18 h1, nr_19 h1, nr_20 h1⟩
/-- a cell of the row that is being read -/
theorem XMb.put {s : Lay} {b n : Nat} {gr : Nat → Int32} (h : UR M dr a (XMb (s.1, s.2.1, s.2.2.1, s.2.2.2.1, s.2.2.2.2.1, s.2.2.2.2.2.1, gr) b) p f σ) (hn : n < 30) (v : Int32) : ∃ t, sI 0 σ (M.1 18) (nI n) v = some t ∧ UR M dr a (XMb (s.1, s.2.1, s.2.2.1, s.2.2.2.1, s.2.2.2.2.1, s.2.2.2.2.2.1, upd gr n v) b) p f t := by
  refine h.row18 hn v ?_
  rintro J Q ⟨x1, x2, x3, x4, x5, w, x6, x7⟩
  refine ⟨x1, x2, fun i hi => ?_, fun i hi => ?_, fun i hi => ?_, w, x6, fun r hr => ?_⟩
  · rw [updR_n _ _ (by decide)]; exact x3 i hi
  · rw [updR_n _ _ (by decide)]; exact x4 i hi
  · rw [updR_s]
    show upd (Q 18) n v i = upd gr n v i
    unfold upd
    by_cases q : i = n
    · rw [if_pos q, if_pos q]
    · rw [if_neg q, if_neg q]; exact x5 i hi
  · rw [updR_n _ _ (by decide)]; exact x7 r hr
set_option maxHeartbeats 800000 in
theorem u_row {s : Lay} (h : UR M dr a (XM s) p none σ) (hR : s.2.2.1 < 5) (hz : ∀ i, 6 * s.2.2.1 ≤ i → s.2.2.2.2.2.2 i = 0) : Ok (fX10_heightsRead σ (M.1 0)) (fun _ t => ∃ p', UR M dr a (XM (s.1, s.2.1, s.2.2.1 + 1, max s.2.2.2.1 (rowF a.1 s.2.2.1 6 0 s.2.2.2.2.2.2 p).1, s.2.2.2.2.1, s.2.2.2.2.2.1, (rowF a.1 s.2.2.1 6 0 s.2.2.2.2.2.2 p).2.1)) p' none t ∧ skT a.1 p' = (rowF a.1 s.2.2.1 6 0 s.2.2.2.2.2.2 p).2.2.1 ∧ ∀ q, (rowF a.1 s.2.2.1 6 0 s.2.2.2.2.2.2 p).2.2.2 = some q → q = (rowF a.1 s.2.2.1 6 0 s.2.2.2.2.2.2 p).2.2.1 ∧ dgB (atT a.1 q) = true) := by
  unfold fX10_heightsRead
  generalize hr : rowF a.1 s.2.2.1 6 0 s.2.2.2.2.2.2 p = rs
  refine Ok.f2 6 0 (fun k x t => x = nI k ∧ UR M dr a (XMb s (6 * s.2.2.1 + k)) p none t) (by omega) (by omega) ⟨rfl, h⟩ ?_ ?_
  · rintro j k x t hk ⟨rfl, g⟩ hj
    refine Ok.bF (show ¬ nI 6 ≤ nI k from nI_ge hk (by decide)) (Ok.r (XMb.rd g).2.2.2.1 (Ok.r (XMb.rd g).1 ?_))
    rw [show (6 : Int32) * nI s.2.2.1 + nI k = nI (6 * s.2.2.1 + k) from by rw [show (6 : Int32) = nI 6 from rfl, pk_mul, nI_add]]
    refine Ok.w (g.row18 (Y := XMb s (6 * s.2.2.1 + (k + 1))) (by omega) 0 ?_) ?_
    · rintro J Q ⟨x1, x2, x3, x4, x5, w, x6, x7⟩
      refine ⟨x1, x2, fun i hi => ?_, fun i hi => ?_, fun i hi => ?_, w, x6, fun r hr => ?_⟩
      · rw [updR_n _ _ (by decide)]; exact x3 i hi
      · rw [updR_n _ _ (by decide)]; exact x4 i hi
      · rw [updR_s]
        unfold upd
        by_cases q : i = 6 * s.2.2.1 + k
        · rw [if_pos q]; exact (hz i (by omega)).symm
        · rw [if_neg q]; exact x5 i (by omega)
      · rw [updR_n _ _ (by decide)]; exact x7 r hr
    · intro t2 g2
      rw [nI_1]
      exact hj _ _ ⟨rfl, g2⟩
  rintro j0 x0 t0 ⟨rfl, g0⟩
  refine Ok.bT (by decide) ?_
  have fin : ∀ (n : Nat) (t : St) (q : Nat) (gr : Nat → Int32), n ≤ 6 → UR M dr a (XMb (s.1, s.2.1, s.2.2.1, s.2.2.2.1, s.2.2.2.2.1, s.2.2.2.2.2.1, gr) (6 * s.2.2.1 + 6)) q none t → rs.1 = n → rs.2.1 = gr → skT a.1 q = rs.2.2.1 → (∀ q, rs.2.2.2 = some q → q = rs.2.2.1 ∧ dgB (atT a.1 q) = true) → Ok ((gR 10 19 t (M.1 0)).bind fun a9 =>
      (gI 10 21 t (M.1 0)).bind fun x10 =>
      (sI 0 t a9 x10 (nI n)).bind (fun t11 =>
      (gI 10 21 t11 (M.1 0)).bind fun x12 =>
      (pV 10 21 t11 (M.1 0) (.int (x12 + 1))).bind (fun t13 =>
      some ((), t13)))) (fun _ t => ∃ p', UR M dr a (XM (s.1, s.2.1, s.2.2.1 + 1, max s.2.2.2.1 rs.1, s.2.2.2.2.1, s.2.2.2.2.2.1, rs.2.1)) p' none t ∧ skT a.1 p' = rs.2.2.1 ∧ ∀ q, rs.2.2.2 = some q → q = rs.2.2.1 ∧ dgB (atT a.1 q) = true) := by
    intro n t q gr hn g e1 e2 e3 e4
    rw [e1, e2]
    refine Ok.r (XMb.rd g).2.2.2.2.1 (Ok.r (XMb.rd g).1 (Ok.w (g.row19 (Y := fun J Q => J 21 = nI s.2.2.1 ∧ J 22 = nI s.2.1 ∧ (∀ i, i < 4 → Q 17 i = s.2.2.2.2.1 i) ∧ (∀ i, i < 4 * s.2.1 → Q 20 i = s.2.2.2.2.2.1 i) ∧ (∀ i, i < 6 * (s.2.2.1 + 1) → Q 18 i = gr i) ∧ ∃ w, mxW w (s.2.2.1 + 1) = max s.2.2.2.1 n ∧ ∀ r, r < s.2.2.1 + 1 → Q 19 r = nI (w r)) hR _ ?_) ?_))
    · rintro J Q ⟨x1, x2, x3, x4, x5, w, x6, x7⟩
      refine ⟨x1, x2, fun i hi => ?_, fun i hi => ?_, fun i hi => ?_, fun r => if r = s.2.2.1 then n else w r, ?_, fun r hr => ?_⟩
      · rw [updR_n _ _ (by decide)]; exact x3 i hi
      · rw [updR_n _ _ (by decide)]; exact x4 i hi
      · rw [updR_n _ _ (by decide)]; exact x5 i (by omega)
      · rw [mxW, if_pos rfl, mxW_cong (w' := w) (fun i hi => if_neg (by omega))]
        show max (mxW w s.2.2.1) n = max s.2.2.2.1 n
        have x6' : mxW w s.2.2.1 = s.2.2.2.1 := x6
        rw [x6']
      · rw [updR_s]
        show upd (Q 19) s.2.2.1 (nI n) r = nI (if r = s.2.2.1 then n else w r)
        unfold upd
        by_cases q : r = s.2.2.1
        · rw [if_pos q, if_pos q]
        · rw [if_neg q, if_neg q]; exact x7 r (by show r < s.2.2.1; omega)
    · intro t2 g2
      have r21 : gI 10 21 t2 (M.1 0) = some (nI s.2.2.1) := by
        obtain ⟨J, Q, h1, h2, ⟨x1, _⟩, _⟩ := g2
        exact (nr_21 h1).trans (congrArg some x1)
      refine Ok.r r21 ?_
      rw [nI_1]
      refine Ok.w (g2.put21 (Y := XM (s.1, s.2.1, s.2.2.1 + 1, max s.2.2.2.1 n, s.2.2.2.2.1, s.2.2.2.2.2.1, gr)) _ ?_) ?_
      · rintro J Q ⟨x1, x2, x3⟩
        exact ⟨pk_us, by rw [pk_un (by decide)]; exact x2, x3⟩
      · intro t3 g3
        exact Ok.p ⟨q, g3, e3, e4⟩
  refine Ok.f2 6 0 (fun k x t => x = nI k ∧ ∃ q gr, UR M dr a (XMb (s.1, s.2.1, s.2.2.1, s.2.2.2.1, s.2.2.2.2.1, s.2.2.2.2.2.1, gr) (6 * s.2.2.1 + 6)) q none t ∧ rowF a.1 s.2.2.1 (6 - k) k gr q = rs) (by omega) (by omega) ⟨rfl, p, _, g0, hr⟩ ?_ ?_
  · rintro j k x t hk ⟨rfl, q, gr, g, er⟩ hj
    refine Ok.j1 (Ok.bF (show ¬ nI 6 ≤ nI k from nI_ge hk (by decide)) (Ok.v g.O (u_look g (XMb_ind _ _)) ?_))
    rintro r1 t1 ⟨rfl, g1⟩
    refine Ok.cE (f10_dg t1 _) (Ok.bI bI_0 (fun z => ?_) (fun z => ?_))
    · rw [rowF_n _ _ _ _ _ _ (by rw [z]; decide)] at er
      refine fin k t1 _ gr (by omega) g1 (by rw [← er]) (by rw [← er]) (by rw [← er]; exact sk_sk _ _) (fun q e => ?_)
      rw [← er] at e; cases e
    · have yd : dgB (atT a.1 (skT a.1 q)) = true := by simpa using z
      have hlt := dg_lt a.1 yd
      have ea : atT a.1 (skT a.1 q) = a.1.2 (skT a.1 q) := by unfold atT; rw [if_pos hlt]
      obtain ⟨d, hd⟩ : ∃ d, 6 - k = d + 1 := ⟨5 - k, by omega⟩
      have hd' : 6 - (k + 1) = d := by omega
      rw [hd, rowF_y _ _ _ _ _ _ yd] at er
      have l240 := g1.l240
      refine Ok.r (XMb.rd g1).2.2.2.1 (Ok.r (XMb.rd g1).1 (Ok.vE g1.O (u_here g1) ?_))
      rw [ea]
      show Ok ((sI 0 t1 (M.1 18) ((6 : Int32) * nI s.2.2.1 + nI k) _).bind _) _
      rw [show (6 : Int32) * nI s.2.2.1 + nI k = nI (6 * s.2.2.1 + k) from by rw [show (6 : Int32) = nI 6 from rfl, pk_mul, nI_add]]
      refine Ok.w (XMb.put g1 (by omega) _) ?_
      intro t2 g2
      refine Ok.r g2.rd.2.2.1 ?_
      rw [nI_1]
      refine Ok.w (g2.putP (XMb_ind _ _) (q := skT a.1 q + 1) (by omega) (fun _ => hlt)) ?_
      intro t3 g3
      rw [nI_1]
      exact hj _ _ ⟨rfl, _, _, g3, by rw [hd']; exact er⟩
  · rintro j x t ⟨rfl, q, gr, g, er⟩
    refine Ok.j1 (Ok.bT (by decide) ?_)
    rw [Nat.sub_self, rowF] at er
    refine fin 6 t q gr (by omega) g (by rw [← er]) (by rw [← er]) (by rw [← er]) (fun q2 e => ?_)
    rw [← er] at e ⊢
    simp only [] at e ⊢
    by_cases w : dgB (atT a.1 (skT a.1 q)) = true
    · rw [if_pos w] at e; cases e; exact ⟨rfl, w⟩
    · rw [if_neg w] at e; cases e
end
