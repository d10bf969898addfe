/-! The LAND's reader: what is read, and the class -/
abbrev Lay : Type := Bool × Nat × Nat × Nat × (Nat → Int32) × (Nat → Int32) × (Nat → Int32)
def rowF (T : Tap) (r : Nat) : Nat → Nat → (Nat → Int32) → Nat → Nat × (Nat → Int32) × Nat × Option Nat
  | 0, n, g, p => (n, g, skT T p, if dgB (atT T (skT T p)) = true then some (skT T p) else none)
  | d + 1, n, g, p => if dgB (atT T (skT T p)) = true then rowF T r d (n + 1) (upd g (6 * r + n) (T.2 (skT T p) - 48)) (skT T p + 1) else (n, g, skT T p, none)
theorem rowF_y (T : Tap) (r d n : Nat) (g : Nat → Int32) (p : Nat) (h : dgB (atT T (skT T p)) = true) : rowF T r (d + 1) n g p = rowF T r d (n + 1) (upd g (6 * r + n) (T.2 (skT T p) - 48)) (skT T p + 1) := by rw [rowF, if_pos h]
theorem rowF_n (T : Tap) (r d n : Nat) (g : Nat → Int32) (p : Nat) (h : ¬ dgB (atT T (skT T p)) = true) : rowF T r d n g p = (n, g, skT T p, none) := by
  cases d with
  | zero => rw [rowF, if_neg h]
  | succ d => rw [rowF, if_neg h]
/-- a row of four, laid at 4 t -/
def lay4 (t : Nat) (v : Nat → Int32) (w : Nat → Int32) (i : Nat) : Int32 := if 4 * t ≤ i ∧ i < 4 * t + 4 then v (i - 4 * t) else w i
def clA (T : Tap) (s : Lay) (p : Nat) : Lay × Nat × Option Nat :=
  if atT T (skT T p) = 115 ∧ s.1 = false then ((true, s.2.1, s.2.2.1, s.2.2.2.1, (itmA T 0 5 0 s.2.2.2.2.1 (skT T p + 1)).1, s.2.2.2.2.2), (itmA T 0 5 0 s.2.2.2.2.1 (skT T p + 1)).2)
  else if atT T (skT T p) = 116 ∧ s.2.1 < 4 then ((s.1, s.2.1 + 1, s.2.2.1, s.2.2.2.1, s.2.2.2.2.1, lay4 s.2.1 (itmA T 1 5 0 (zv 7) (skT T p + 1)).1 s.2.2.2.2.2.1, s.2.2.2.2.2.2), (itmA T 1 5 0 (zv 7) (skT T p + 1)).2)
  else if atT T (skT T p) = 114 ∧ s.2.2.1 < 5 then ((s.1, s.2.1, s.2.2.1 + 1, max s.2.2.2.1 (rowF T s.2.2.1 6 0 s.2.2.2.2.2.2 (skT T p + 1)).1, s.2.2.2.2.1, s.2.2.2.2.2.1, (rowF T s.2.2.1 6 0 s.2.2.2.2.2.2 (skT T p + 1)).2.1), (rowF T s.2.2.1 6 0 s.2.2.2.2.2.2 (skT T p + 1)).2.2)
  else (s, skT T p, some (skT T p))
def XL (s : Lay) (I : Nat → Int32) (R : Nat → Nat → Int32) : Prop := I 64 = bI s.1 ∧ I 65 = nI s.2.1 ∧ I 66 = nI s.2.2.1 ∧ I 67 = nI s.2.2.2.1 ∧ (∀ i, i < 4 → R 4 i = s.2.2.2.2.1 i) ∧ (∀ i, i < 4 * s.2.1 → R 5 i = s.2.2.2.2.2.1 i) ∧ (∀ i, i < 30 → R 6 i = s.2.2.2.2.2.2 i)
theorem XL_ind (s : Lay) : Ind (XL s) := by
  rintro I R v ⟨h1, h2, h3, h4, h5⟩
  refine ⟨⟨?_, ?_, ?_, ?_, h5⟩, ⟨?_, ?_, ?_, ?_, h5⟩⟩ <;> rw [pk_un (by decide)] <;> assumption
section
variable {K : Cfg} {dr : Int64} {a : Abs} {σ : St} {X Y : (Nat → Int32) → (Nat → Nat → Int32) → Prop} {p : Nat} {f : Option Nat}
theorem TR.imp (h : TR K dr a X p f σ) (hi : ∀ I R, X I R → Y I R) : TR K dr a Y p f σ := by
  obtain ⟨I, R, h1, h2, h3, h4⟩ := h
  exact ⟨I, R, h1, h2, hi _ _ h3, h4⟩
theorem TR.put64 (h : TR K dr a X p f σ) (v : Int32) (hX : ∀ I R, X I R → Y (upd I 64 v) R) : ∃ t, pV 2 4 σ (K.1 3) (.int v) = some t ∧ TR K dr a Y p f t := by
  obtain ⟨I, R, h1, h2, h3, h4, h5, h6⟩ := h
  obtain ⟨t, e, g⟩ := h1.putI 3 4 v rfl (by decide) (fun _ => rfl) (Nat.le_of_ble_eq_true rfl) (fun _ => rfl)
  exact ⟨t, e, upd I 64 v, R, g, h2.scr (fun k hk => pk_un (fun z => hk (by unfold scI; omega))) (fun _ _ => rfl), hX _ _ h3, by rw [pk_un (by decide)]; exact h4, by rw [pk_un (by decide)]; exact h5, h6⟩
theorem TR.put65 (h : TR K dr a X p f σ) (v : Int32) (hX : ∀ I R, X I R → Y (upd I 65 v) R) : ∃ t, pV 2 5 σ (K.1 3) (.int v) = some t ∧ TR K dr a Y p f t := by
  obtain ⟨I, R, h1, h2, h3, h4, h5, h6⟩ := h
  obtain ⟨t, e, g⟩ := h1.putI 3 5 v rfl (by decide) (fun _ => rfl) (Nat.le_of_ble_eq_true rfl) (fun _ => rfl)
  exact ⟨t, e, upd I 65 v, R, g, h2.scr (fun k hk => pk_un (fun z => hk (by unfold scI; omega))) (fun _ _ => rfl), hX _ _ h3, by rw [pk_un (by decide)]; exact h4, by rw [pk_un (by decide)]; exact h5, h6⟩
theorem TR.put66 (h : TR K dr a X p f σ) (v : Int32) (hX : ∀ I R, X I R → Y (upd I 66 v) R) : ∃ t, pV 2 6 σ (K.1 3) (.int v) = some t ∧ TR K dr a Y p f t := by
  obtain ⟨I, R, h1, h2, h3, h4, h5, h6⟩ := h
  obtain ⟨t, e, g⟩ := h1.putI 3 6 v rfl (by decide) (fun _ => rfl) (Nat.le_of_ble_eq_true rfl) (fun _ => rfl)
  exact ⟨t, e, upd I 66 v, R, g, h2.scr (fun k hk => pk_un (fun z => hk (by unfold scI; omega))) (fun _ _ => rfl), hX _ _ h3, by rw [pk_un (by decide)]; exact h4, by rw [pk_un (by decide)]; exact h5, h6⟩
theorem TR.put67 (h : TR K dr a X p f σ) (v : Int32) (hX : ∀ I R, X I R → Y (upd I 67 v) R) : ∃ t, pV 2 7 σ (K.1 3) (.int v) = some t ∧ TR K dr a Y p f t := by
  obtain ⟨I, R, h1, h2, h3, h4, h5, h6⟩ := h
  obtain ⟨t, e, g⟩ := h1.putI 3 7 v rfl (by decide) (fun _ => rfl) (Nat.le_of_ble_eq_true rfl) (fun _ => rfl)
  exact ⟨t, e, upd I 67 v, R, g, h2.scr (fun k hk => pk_un (fun z => hk (by unfold scI; omega))) (fun _ _ => rfl), hX _ _ h3, by rw [pk_un (by decide)]; exact h4, by rw [pk_un (by decide)]; exact h5, h6⟩
theorem TR.row4 (h : TR K dr a X p f σ) {i : Nat} (hi : i < 4) (v : Int32) (hX : ∀ I R, X I R → Y I (updR R 4 (upd (R 4) i v))) : ∃ t, sI 0 σ (K.1 4) (nI i) v = some t ∧ TR K dr a Y p f t := by
  obtain ⟨I, R, h1, h2, h3, h4⟩ := h
  obtain ⟨t, e, g⟩ := h1.putN 4 i v rfl rfl (fun _ => rfl) hi (by decide)
  exact ⟨t, e, I, _, g, h2.scr (fun _ _ => rfl) (fun k hk => updR_n _ _ (fun q => hk (by unfold scR; omega))), hX _ _ h3, h4⟩
theorem TR.row5 (h : TR K dr a X p f σ) {i : Nat} (hi : i < 16) (v : Int32) (hX : ∀ I R, X I R → Y I (updR R 5 (upd (R 5) i v))) : ∃ t, sI 0 σ (K.1 5) (nI i) v = some t ∧ TR K dr a Y p f t := by
  obtain ⟨I, R, h1, h2, h3, h4⟩ := h
  obtain ⟨t, e, g⟩ := h1.putN 5 i v rfl rfl (fun _ => rfl) hi (by decide)
  exact ⟨t, e, I, _, g, h2.scr (fun _ _ => rfl) (fun k hk => updR_n _ _ (fun q => hk (by unfold scR; omega))), hX _ _ h3, h4⟩
theorem TR.row6 (h : TR K dr a X p f σ) {i : Nat} (hi : i < 30) (v : Int32) (hX : ∀ I R, X I R → Y I (updR R 6 (upd (R 6) i v))) : ∃ t, sI 0 σ (K.1 6) (nI i) v = some t ∧ TR K dr a Y p f t := by
  obtain ⟨I, R, h1, h2, h3, h4⟩ := h
  obtain ⟨t, e, g⟩ := h1.putN 6 i v rfl rfl (fun _ => rfl) hi (by decide)
  exact ⟨t, e, I, _, g, h2.scr (fun _ _ => rfl) (fun k hk => updR_n _ _ (fun q => hk (by unfold scR; omega))), hX _ _ h3, h4⟩
theorem CV.cpyS {I : Nat → Int32} {R : Nat → Nat → Int32} (h : CV K I R dr σ) (hz : StK K) (j k1 dp : Nat) {z1 : Nat} (hj : j < 8) (hj4 : ¬ (j = 0 ∨ j = 4)) (hk1 : domC k1 = true) (hr1 : scrC k1 = false) (hc1 : ∀ R, cellC K.1 I R dr (lwOf K.2.1 K.2.2.1) k1 = .inl (0, z1, .inl (R k1))) (h1 : dp + 4 ≤ z1) (hz1 : z1 < 2 ^ 31) : ∃ t, cpr σ (σ.1.1 j) 0 (K.1 k1) (nI dp) 4 = some t ∧ CV K I (updR R k1 (va_cpy (zv j) (R k1) 0 dp 4)) dr t := by
  obtain ⟨R', hR, hw, hl', hs⟩ := h
  have q0 : rd σ (σ.1.1 j) = some (.inl (0, 4, .inl (zv j))) := by rw [st_rd hs hz hj]; unfold zc; rw [if_neg hj4]
  have q1 : σ.2.2 (K.1 k1) = some (.inl (0, z1, .inl (R k1))) := (hw.2 k1 hk1).trans (congrArg some ((hc1 R').trans (by rw [hR k1 hr1])))
  have n2 := nI_toInt (n := dp) (by omega)
  have hcond : 0 ≤ (nI 0).toInt ∧ 0 ≤ (nI dp).toInt ∧ 0 ≤ (nI 4).toInt ∧ (nI 0).toInt + (nI 4).toInt ≤ (4 : Nat) ∧ (nI dp).toInt + (nI 4).toInt ≤ z1 := by
    rw [n2, nI_toInt (n := 0) (by omega), nI_toInt (n := 4) (by omega)]; omega
  obtain ⟨g1, g2⟩ := hw.put (I2 := I) (R2 := updR R' k1 (va_cpy (zv j) (R k1) 0 dp 4)) (lw2 := lwOf K.2.1 K.2.2.1) (dr2 := dr) k1 hk1 (fun _ _ _ _ => rfl) (fun j hj => updR_n _ _ hj) (fun _ => rfl) (fun _ => rfl)
  rw [hc1, updR_s] at g1 g2
  refine ⟨_, ?_, updR R' k1 (va_cpy (zv j) (R k1) 0 dp 4), fun j hj => ?_, g1, hl'.sm g2, hs.tr (g2.mono (fun a q => Or.inl q))⟩
  · show cpr σ (σ.1.1 j) (nI 0) (K.1 k1) (nI dp) (nI 4) = _
    simp only [cpr, q0, q1]
    rw [if_pos hcond, nI_clamp (by omega), nI_clamp (by omega), nI_clamp (by omega)]
  · by_cases q : j = k1
    · subst q; rw [updR_s, updR_s]
    · rw [updR_n _ _ q, updR_n _ _ q, hR j hj]
theorem XL.rd {s : Lay} (h : TR K dr a (XL s) p f σ) : gI 2 4 σ (K.1 3) = some (bI s.1) ∧ gI 2 5 σ (K.1 3) = some (nI s.2.1) ∧ gI 2 6 σ (K.1 3) = some (nI s.2.2.1) ∧ gI 2 7 σ (K.1 3) = some (nI s.2.2.2.1) ∧ gR 2 1 σ (K.1 3) = some (K.1 4) ∧ gR 2 2 σ (K.1 3) = some (K.1 5) ∧ gR 2 3 σ (K.1 3) = some (K.1 6) ∧ isO 2 σ (K.1 3) = true := by
  obtain ⟨I, R, h1, h2, ⟨x1, x2, x3, x4, x5⟩, h4⟩ := h
  exact ⟨(kr_3_4 h1).trans (congrArg some x1), (kr_3_5 h1).trans (congrArg some x2), (kr_3_6 h1).trans (congrArg some x3), (kr_3_7 h1).trans (congrArg some x4), kr_3_1 h1, kr_3_2 h1, kr_3_3 h1, kO_3 h1⟩
theorem maxL_i (σ : St) {x y : Nat} (hx : x < 1000) (hy : y < 1000) : fJ9_max_7cf53 σ (nI x) (nI y) = some (nI (max x y), σ) := by
  unfold fJ9_max_7cf53
  by_cases h : x < y
  · rw [if_pos ((nI_ltI (by omega) (by omega)).mpr h), Nat.max_eq_right (by omega)]
  · rw [if_neg (fun w => h ((nI_ltI (by omega) (by omega)).mp w)), Nat.max_eq_left (by omega)]
set_option maxHeartbeats 800000 in
theorem t_row {s : Lay} (h : TR K dr a (XL s) p none σ) (hR : s.2.2.1 < 5) (hw : s.2.2.2.1 ≤ 6) : Ok (fX2_row σ (K.1 3)) (fun _ t => TR K dr a (XL (s.1, s.2.1, s.2.2.1, max s.2.2.2.1 (rowF a.1 s.2.2.1 6 0 s.2.2.2.2.2.2 p).1, s.2.2.2.2.1, s.2.2.2.2.2.1, (rowF a.1 s.2.2.1 6 0 s.2.2.2.2.2.2 p).2.1)) (rowF a.1 s.2.2.1 6 0 s.2.2.2.2.2.2 p).2.2.1 (rowF a.1 s.2.2.1 6 0 s.2.2.2.2.2.2 p).2.2.2 t) := by
  unfold fX2_row
  generalize hr : rowF a.1 s.2.2.1 6 0 s.2.2.2.2.2.2 p = rs
  have fin : ∀ (n : Nat) (t : St) (q : Nat) (f : Option Nat) (gr : Nat → Int32), n ≤ 6 → TR K dr a (XL (s.1, s.2.1, s.2.2.1, s.2.2.2.1, s.2.2.2.2.1, s.2.2.2.2.2.1, gr)) q f t → rs = (n, gr, q, f) → Ok ((gI 2 7 t (K.1 3)).bind fun x7 => bd (fJ9_max_7cf53 t x7 (nI n)) (fun x8 t9 => (pV 2 7 t9 (K.1 3) (.int x8)).bind (fun t10 => some ((), t10)))) (fun _ t => TR K dr a (XL (s.1, s.2.1, s.2.2.1, max s.2.2.2.1 rs.1, s.2.2.2.2.1, s.2.2.2.2.2.1, rs.2.1)) rs.2.2.1 rs.2.2.2 t) := by
    intro n t q f gr hn g er
    rw [er]
    refine Ok.r (XL.rd g).2.2.2.1 (Ok.cE (maxL_i t (by show s.2.2.2.1 < 1000; omega) (by omega)) (Ok.w (g.put67 (Y := XL (s.1, s.2.1, s.2.2.1, max s.2.2.2.1 n, s.2.2.2.2.1, s.2.2.2.2.2.1, gr)) _ ?_) ?_))
    · rintro I R ⟨x1, x2, x3, x4, x5⟩
      exact ⟨by rw [pk_un (by decide)]; exact x1, by rw [pk_un (by decide)]; exact x2, by rw [pk_un (by decide)]; exact x3, pk_us, x5⟩
    · intro t2 g2
      exact Ok.p g2
  refine Ok.f3 7 0 (fun k x y t => y = nI k ∧ ((k ≤ 6 ∧ x = nI k ∧ ∃ q gr, TR K dr a (XL (s.1, s.2.1, s.2.2.1, s.2.2.2.1, s.2.2.2.2.1, s.2.2.2.2.2.1, gr)) q none t ∧ rowF a.1 s.2.2.1 (6 - k) k gr q = rs) ∨ (x = nI 6 ∧ ∃ q gr, TR K dr a (XL (s.1, s.2.1, s.2.2.1, s.2.2.2.1, s.2.2.2.2.1, s.2.2.2.2.2.1, gr)) q (some q) t ∧ rs = (6, gr, q, some q)))) (by omega) (by omega) ⟨rfl, Or.inl ⟨by omega, rfl, p, _, h, hr⟩⟩ ?_ ?_
  · rintro j k x y t hk ⟨rfl, hI⟩ hj
    refine Ok.j1 (Ok.bF (show ¬ nI 6 < nI k from fun q => by have := (nI_ltI (a := 6) (b := k) (by omega) (by omega)).mp q; omega) ?_)
    rcases hI.symm with ⟨rfl, q, gr, g, er⟩ | ⟨h6, rfl, q, gr, g, er⟩
    · refine Ok.r (kr_tape g) (Ok.vE g.O (t_peekF g) (Ok.cE (f8_dg t _) (Ok.bT rfl (fin 6 t q _ gr (by omega) g er))))
    refine Ok.r (kr_tape g) (Ok.v g.O (t_peek g (XL_ind _)) ?_)
    rintro r1 t1 ⟨rfl, g1⟩
    refine Ok.cE (f8_dg t1 _) (Ok.bI bI_0 (fun z => ?_) (fun z => ?_))
    · rw [rowF_n _ _ _ _ _ _ (by rw [z]; decide)] at er
      exact fin k t1 _ _ gr h6 g1 er.symm
    · have yd : dgB (atT a.1 (skT a.1 q)) = true := by simpa using z
      have hlt := dg_lt a.1 yd
      refine Ok.j2 (Ok.bI (show (6 : Int32) ≤ nI k ↔ 6 ≤ k from nI_leI (a := 6) (by omega) (by omega)) (fun z6 => ?_) (fun z6 => ?_))
      · have e6 : k = 6 := by omega
        subst e6
        refine Ok.r (kr_tape g1) (Ok.v g1.O (t_fail g1 (XL_ind _)) ?_)
        intro w t2 g2
        rw [nI_1]
        refine hj _ _ _ ⟨rfl, Or.inr ⟨rfl, _, _, g2, ?_⟩⟩
        rw [← er, rowF, if_pos yd]
      · obtain ⟨d, hd⟩ : ∃ d, 6 - k = d + 1 := ⟨5 - k, by omega⟩
        have hd' : 6 - (k + 1) = d := by omega
        rw [hd, rowF_y _ _ _ _ _ _ yd] at er
        have ea : atT a.1 (skT a.1 q) = a.1.2 (skT a.1 q) := by unfold atT; rw [if_pos hlt]
        refine Ok.r (XL.rd g1).2.2.2.2.2.2.1 (Ok.r (XL.rd g1).2.2.1 (Ok.r (kr_tape g1) (Ok.v g1.O (t_peek g1 (XL_ind _)) ?_)))
        rw [sk_sk]
        rintro r2 t2 ⟨rfl, g2⟩
        rw [ea, show nI s.2.2.1 * 6 + nI k = nI (6 * s.2.2.1 + k) from by rw [show (6 : Int32) = nI 6 from rfl, pk_mul, nI_add, Nat.mul_comm]]
        refine Ok.w (g2.row6 (Y := XL (s.1, s.2.1, s.2.2.1, s.2.2.2.1, s.2.2.2.2.1, s.2.2.2.2.2.1, upd gr (6 * s.2.2.1 + k) (a.1.2 (skT a.1 q) - 48))) (by omega) _ ?_) ?_
        · rintro I R ⟨x1, x2, x3, x4, x5, x6, x7⟩
          refine ⟨x1, x2, x3, x4, fun i hi => ?_, fun i hi => ?_, fun i hi => ?_⟩
          · rw [updR_n _ _ (by decide)]; exact x5 i hi
          · rw [updR_n _ _ (by decide)]; exact x6 i hi
          · rw [updR_s]
            show upd (R 6) _ _ i = upd gr _ _ i
            unfold upd
            by_cases w : i = 6 * s.2.2.1 + k
            · rw [if_pos w, if_pos w]
            · rw [if_neg w, if_neg w]; exact x7 i hi
        intro t3 g3
        refine Ok.r (kr_tape g3) (Ok.v g3.O (t_step g3 (XL_ind _)) ?_)
        rw [if_pos hlt]
        intro w t4 g4
        rw [nI_1]
        exact hj _ _ _ ⟨rfl, Or.inl ⟨by omega, rfl, _, _, g4, by rw [hd']; exact er⟩⟩
  · rintro j x y t ⟨rfl, hI⟩
    refine Ok.j1 (Ok.bT (by decide) ?_)
    rcases hI.symm with ⟨rfl, q, gr, g, er⟩ | ⟨h6, _⟩
    · exact fin 6 t q _ gr (by omega) g er
    · omega
end
