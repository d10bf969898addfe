/-! the class's past: what is kept, taken back, logged, drawn -/
theorem RcR.cong {r g : Nat → Int32} {o : Nat} {s : Scn} (h : RcR r o s) (hC : qC s ≤ 30) (hT : qT s ≤ 4) (hg : ∀ j, o ≤ j → j < o + 43 → g j = r j) : RcR g o s := by
  obtain ⟨h1, h2, h3, h4, h5, h6, h7⟩ := h
  exact ⟨fun i hi => (hg _ (by omega) (by omega)).trans (h1 i hi), fun t ht => ⟨(hg _ (by omega) (by omega)).trans (h2 t ht).1, (hg _ (by omega) (by omega)).trans (h2 t ht).2⟩, (hg _ (by omega) (by omega)).trans h3, (hg _ (by omega) (by omega)).trans h4, (hg _ (by omega) (by omega)).trans h5, (hg _ (by omega) (by omega)).trans h6, (hg _ (by omega) (by omega)).trans h7⟩
theorem RgR.put {r : Nat → Int32} {n N : Nat} {l : List Ent} {v : Int32} (h : RgR r n l) (hl : l.length = min 60 n) (h1 : n ≤ N) (h2 : N ≤ n + 60) : RgR (upd r (N % 128) v) n l := by
  intro i e hi
  have : i < l.length := (List.getElem?_eq_some_iff.mp hi).1
  rw [pk_un (by omega)]
  exact h i e hi
theorem enc_d : ∀ h, h < 31 → ∀ b, b < 16 → ∀ f, f < 10 → (((nI h <<< ((8 : Int32) &&& 31)) ||| (nI b <<< ((4 : Int32) &&& 31))) ||| nI f) = nI (h * 256 + b * 16 + f) ∧ nI (h * 256 + b * 16 + f) >>> ((8 : Int32) &&& 31) = nI h ∧ (nI (h * 256 + b * 16 + f) >>> ((4 : Int32) &&& 31)) &&& 15 = nI b ∧ nI (h * 256 + b * 16 + f) &&& 15 = nI f := by decide +kernel
theorem tbs_no {γ : Type} {x : Int32} {Es : List (Option γ)} {Ed : Option γ} (n : Nat) (hl : Es.length = n) (hn : n < 2 ^ 31) (h : ¬ (¬ x < 0 ∧ x < nI n)) : tbs x 0 Es Ed = Ed := by
  refine tbs_out ?_
  rw [Int32.lt_iff_toInt_lt, Int32.lt_iff_toInt_lt, nI_toInt hn] at h
  have : (0 : Int32).toInt = 0 := rfl
  rw [hl]
  omega
theorem tbs_yes {γ : Type} {Es : List (Option γ)} {Ed E : Option γ} (j : Nat) (hj : j < 2 ^ 31) (hE : Es[j]? = some E) : tbs (nI j) 0 Es Ed = E := tbs_at j (by rw [nI_toInt hj]; omega) hE
theorem min_i {a b : Nat} (ha : a < 2 ^ 31) (hb : b < 2 ^ 31) : (if nI b < nI a then nI b else nI a) = nI (min a b) := by
  by_cases h : b < a
  · rw [if_pos (nI_lt h ha), Nat.min_eq_right (by omega)]
  · rw [if_neg (nI_nlt (by omega) hb), Nat.min_eq_left (by omega)]
def entW (e : Ent) : Nat → Nat
  | 0 => e.1
  | 1 => e.2.1
  | _ => e.2.2
def logA (l : List Ent) (v w : Int32) : Int32 := match ix v l.length, ix w 3 with
  | some i, some k => (match l[i]? with
    | some e => nI (entW e k)
    | none => -1)
  | _, _ => -1
def undoA (a : Abs) : Int32 × Abs := match dA a.2.2.2 with
  | [] => (-1, a)
  | e :: l => (nI l.length, setD a (e, a.2.2.2.2.1, l, a.2.2.2.2.2.2))
def imageD (d : Lnd) : Lnd := (d.1, d.2.1, d.2.2.1, some d.1, d.2.2.2.2)
def backA (a : Abs) : Int32 × Abs := match dI a.2.2.2 with
  | none => (-1, a)
  | some e => (nI (qU e.1), setD a (e, a.2.2.2.2.1, [], a.2.2.2.2.2.2))
section
variable {K : Cfg} {dr : Int64} {a : Abs} {σ : St}
theorem ca_SV (h : CA K dr a σ) (ok : ScOK (dN a.2.2.2)) : ∃ I R, CR K I R a ∧ SV K I R dr 11 (dN a.2.2.2) σ := by
  obtain ⟨I, R, hv, hr⟩ := h
  exact ⟨I, R, hr, hv, Or.inl rfl, hr.2.2.2.1.1, ok⟩
theorem ca_ruling (h : CA K dr a σ) : Ok (fX9_ruling σ (K.1 0)) (fun q t => t = σ ∧ Rul K q (rul a.2.1)) := by
  obtain ⟨I, R, hv, hr⟩ := h
  obtain ⟨-, ⟨e4, l4, eK, e5, hh, hw⟩, -⟩ := hr
  unfold fX9_ruling
  unfold rul
  cases q : a.2.1.2.2 with
  | none =>
    rw [q] at e5
    refine Ok.r ((kr_0_5 hv).trans (congrArg some e5)) (Ok.bT (by decide) (Ok.p ⟨rfl, Or.inl ⟨rfl, rfl⟩⟩))
  | some i =>
    rw [q] at e5
    have hi := hh i q
    have e5' : I 5 = nI i := e5
    have r5 := (kr_0_5 hv).trans (congrArg some e5')
    refine Ok.r r5 (Ok.bF (nI_pos (by omega)) (Ok.r r5 (Ok.r ((kr_0_4 hv).trans (congrArg some e4)) (Ok.bF (nI_ge hi (by omega)) (Ok.r (kr_0_3 hv) (Ok.r r5 (Ok.r (v := some (K.2.1 (3 * i))) ?_ (Ok.p ⟨rfl, Or.inr ⟨i, by omega, rfl, (hw i hi).1, ?_⟩⟩))))))))
    · obtain ⟨R', hR, hcw, _⟩ := hv
      have h9 := hcw.2 9 rfl
      simp only [aQ, rd_of h9, cellC]
      rw [if_pos ⟨trivial, inb_nI (by omega) (by decide)⟩, nI_clamp (by omega)]
      unfold lwOf
      rw [if_pos (by omega)]
    · exact congrArg some (hw i hi).2
theorem ca_keep (h : CA K dr a σ) (ok : LdOK a.2.2.2) : Ok (fX5_keep σ (K.1 29) (K.1 11)) (fun _ t => CA K dr (setD a (keepD a.2.2.2)) t) := by
  obtain ⟨I, R, hv, hr⟩ := h
  obtain ⟨h1, h2, h3, ⟨h4, h5⟩, h6, ⟨nx, hnx, e1, e2, hl, hA⟩, h8, h9, h10⟩ := hr
  have okn : ScOK (dN a.2.2.2) := ok.1.1
  have o30 := okn.c30
  have o4 := okn.t
  unfold fX5_keep
  refine Ok.r (kr_29_0 hv) (Ok.r ((kr_29_1 hv).trans (congrArg some e1)) ?_)
  rw [show nI nx * 43 = nI (nx * 43) from pk_mul nx 43]
  refine Ok.v (kO_11 hv) (v_save hv (Or.inl rfl) h4 (by omega) (by omega) 30 (nx * 43) (z1 := 1720) rfl rfl (fun _ => rfl) (fun j h1 h2 => by omega) (by omega) (by decide)) ?_
  rintro w t1 ⟨g, v1, hg, hf⟩
  refine Ok.r ((kr_29_1 v1).trans (congrArg some e1)) (Ok.bF (by decide) ?_)
  rw [nI_1, show nI (nx + 1) - nI (nx + 1) / 40 * 40 = nI ((nx + 1) % 40) from pk_rem (d := 40) (by omega) (by omega) (by omega)]
  refine Ok.w (v1.putI 29 1 _ rfl (by decide) (fun _ => rfl) (Nat.le_of_ble_eq_true rfl) (fun _ => rfl)) ?_
  intro t2 v2
  have e2' : upd I (20 * 29 + 1) (nI ((nx + 1) % 40)) 582 = nI (dA a.2.2.2).length := (pk_un (by decide)).trans e2
  refine Ok.r ((kr_29_2 v2).trans (congrArg some e2')) ?_
  rw [nI_1]
  refine Ok.cE ((f_min _ _ _).trans (congrArg (fun z => some (z, t2)) (min_i (a := 40) (b := (dA a.2.2.2).length + 1) (by omega) (by omega)))) (Ok.w (v2.putI 29 2 _ rfl (by decide) (fun _ => rfl) (Nat.le_of_ble_eq_true rfl) (fun _ => rfl)) ?_)
  intro t3 v3
  refine Ok.p ⟨_, _, v3, ?_⟩
  have hI : ∀ k, k ≠ 581 → k ≠ 582 → upd (upd I (20 * 29 + 1) (nI ((nx + 1) % 40))) (20 * 29 + 2) (nI (min 40 ((dA a.2.2.2).length + 1))) k = I k := fun k q1 q2 => (pk_un (by omega)).trans (pk_un (by omega))
  have hR : ∀ k, k ≠ 30 → updR R 30 g k = R k := fun k hk => updR_n _ _ hk
  refine ⟨h1.fr (hI _ (by decide) (by decide)) (hR _ (by decide)), h2.fr (hI _ (by decide) (by decide)) (hI _ (by decide) (by decide)), h3.fr (hI _ (by decide) (by decide)) (hR _ (by decide)), ⟨h4.fr (fun f hf => hI _ (by omega) (by omega)) (fun j h1 h2 => hR _ (by omega)), ?_⟩, h6.fr (fun f hf => hI _ (by omega) (by omega)) (fun j h1 h2 => hR _ (by omega)), ⟨(nx + 1) % 40, by omega, (pk_un (by decide)).trans pk_us, ?_, ?_, ?_⟩, h8.fr (hI _ (by decide) (by decide)) (hR _ (by decide)) (hR _ (by decide)), h9.fr (hI _ (by decide) (by decide)) (hR _ (by decide)) (hR _ (by decide)) (hR _ (by decide)), h10.fr (hI _ (by decide) (by decide)) (hR _ (by decide)) (hR _ (by decide))⟩
  · rw [hR 31 (by decide)]; exact h5
  · refine (pk_us).trans (congrArg nI ?_)
    show _ = ((a.2.2.2.1 :: dA a.2.2.2).take 40).length
    rw [List.length_take, List.length_cons]
  · show ((a.2.2.2.1 :: dA a.2.2.2).take 40).length ≤ 40
    rw [List.length_take]; omega
  · intro j e hj
    have hj' : ((a.2.2.2.1 :: dA a.2.2.2).take 40)[j]? = some e := hj
    rw [List.getElem?_take] at hj'
    by_cases j40 : j < 40
    case neg => rw [if_neg j40] at hj'; exact absurd hj' (by simp)
    rw [if_pos j40] at hj'
    rw [hR 31 (by decide), updR_s]
    match j, hj' with
    | 0, hj' =>
      simp only [List.getElem?_cons_zero, Option.some.injEq] at hj'
      subst hj'
      rw [show ((nx + 1) % 40 + 39 - 0) % 40 = nx by omega]
      exact ⟨hg, h5⟩
    | j + 1, hj' =>
      simp only [List.getElem?_cons_succ] at hj'
      obtain ⟨c1, c2⟩ := hA j e hj'
      have oke := (ok.2.2.1 e (List.mem_of_getElem? hj')).1
      have q30 := oke.c30
      have q4 := oke.t
      rw [show ((nx + 1) % 40 + 39 - (j + 1)) % 40 = (nx + 39 - j) % 40 by omega]
      refine ⟨c1.cong (by omega) (by omega) (fun i hi1 hi2 => hf i ?_), c2⟩
      have : (nx + 39 - j) % 40 ≠ nx := by omega
      omega
theorem ca_undo (h : CA K dr a σ) (ok : NoLd a.2.2.2 ∨ LdOK a.2.2.2) : Ok (fX9_undo σ (K.1 0)) (fun r t => r = (undoA a).1 ∧ CA K dr (undoA a).2 t) := by
  unfold fX9_undo
  refine Ok.r (ca_past h) (Ok.r (ca_now h) ?_)
  refine Ok.v (ca_O5 h) (P1 := fun r t => r = (undoA a).1 ∧ CA K dr (undoA a).2 t) ?_ (fun r t hq => Ok.p hq)
  obtain ⟨I, R, hv, hr⟩ := h
  have hr0 := hr
  obtain ⟨h1, h2, h3, ⟨h4, h5⟩, h6, ⟨nx, hnx, e1, e2, hl, hA⟩, h8, h9, h10⟩ := hr
  unfold fX5_takeBack undoA
  cases q : dA a.2.2.2 with
  | nil =>
    rw [q] at e2
    exact Ok.r ((kr_29_2 hv).trans (congrArg some e2)) (Ok.bT (by decide) (Ok.p ⟨rfl, I, R, hv, hr0⟩))
  | cons e l =>
    have ok : LdOK a.2.2.2 := by
      rcases ok with n | ok
      · have := n.2.2.2.2.2.1
        rw [q] at this; exact absurd this (by simp)
      · exact ok
    have okn : ScOK (dN a.2.2.2) := ok.1.1
    have o30 := okn.c30
    have o4 := okn.t
    rw [q] at e2 hl hA
    rw [List.length_cons] at e2 hl
    refine Ok.r ((kr_29_2 hv).trans (congrArg some e2)) (Ok.bF (nI_ne0 (by omega) (by omega)) (Ok.r ((kr_29_1 hv).trans (congrArg some e1)) (Ok.bF (by decide) ?_)))
    rw [show (nI nx + 40) - 1 = nI (nx + 39) from by rw [show nI nx + 40 = nI (nx + 39 + 1) from nI_add nx 40]; exact nI_pred (nx + 39), show nI (nx + 39) - nI (nx + 39) / 40 * 40 = nI ((nx + 39) % 40) from pk_rem (d := 40) (by omega) (by omega) (by omega)]
    refine Ok.w (hv.putI 29 1 _ rfl (by decide) (fun _ => rfl) (Nat.le_of_ble_eq_true rfl) (fun _ => rfl)) ?_
    intro t1 v1
    have e2' : upd I (20 * 29 + 1) (nI ((nx + 39) % 40)) 582 = nI (l.length + 1) := (pk_un (by decide)).trans e2
    refine Ok.r ((kr_29_2 v1).trans (congrArg some e2')) ?_
    rw [nI_pred]
    refine Ok.w (v1.putI 29 2 _ rfl (by decide) (fun _ => rfl) (Nat.le_of_ble_eq_true rfl) (fun _ => rfl)) ?_
    intro t2 v2
    have e1' : upd (upd I (20 * 29 + 1) (nI ((nx + 39) % 40))) (20 * 29 + 2) (nI l.length) 581 = nI ((nx + 39) % 40) := (pk_un (by decide)).trans pk_us
    refine Ok.r (kr_29_0 v2) (Ok.r ((kr_29_1 v2).trans (congrArg some e1')) ?_)
    have hI : ∀ k, k ≠ 581 → k ≠ 582 → upd (upd I (20 * 29 + 1) (nI ((nx + 39) % 40))) (20 * 29 + 2) (nI l.length) k = I k := fun k q1 q2 => (pk_un (by omega)).trans (pk_un (by omega))
    obtain ⟨c1, c2⟩ := hA 0 e rfl
    have oke := ok.2.2.1 e (by rw [q]; exact List.mem_cons_self)
    rw [show nI ((nx + 39) % 40) * 43 = nI (((nx + 39) % 40) * 43) from pk_mul _ 43]
    refine Ok.v (kO_11 v2) (v_load v2 (h4.fr (fun f hf => hI _ (by omega) (by omega)) (fun _ _ _ => rfl)) (by omega) (by omega) oke.2.1 30 (((nx + 39) % 40) * 43) (z1 := 1720) rfl rfl (fun _ _ => rfl) (fun j h1 h2 => by omega) (by omega) (by decide) c1) ?_
    rintro w t3 ⟨I', R', v3, hs, fB, fR⟩
    have hI' : ∀ k, k ≠ 581 → k ≠ 582 → (k < 220 ∨ 229 ≤ k) → I' k = I k := fun k q1 q2 q3 => (fB k (by omega)).trans (hI k q1 q2)
    have i581 : I' 581 = nI ((nx + 39) % 40) := (fB 581 (by decide)).trans e1'
    have i582 : I' 582 = nI l.length := (fB 582 (by decide)).trans pk_us
    refine Ok.r ((kr_29_2 v3).trans (congrArg some i582)) (Ok.p ⟨rfl, _, _, v3, ?_⟩)
    refine ⟨h1.fr (hI' _ (by decide) (by decide) (by decide)) (fR _ (by decide)), h2.fr (hI' _ (by decide) (by decide) (by decide)) (hI' _ (by decide) (by decide) (by decide)), h3.fr (hI' _ (by decide) (by decide) (by decide)) (fR _ (by decide)), ⟨hs, ?_⟩, h6.fr (fun f hf => hI' _ (by omega) (by omega) (by omega)) (fun j h1 h2 => fR _ (by omega)), ⟨(nx + 39) % 40, by omega, i581, i582, by show l.length ≤ 40; omega, ?_⟩, h8.fr (hI' _ (by decide) (by decide) (by decide)) (fR _ (by decide)) (fR _ (by decide)), h9.fr (hI' _ (by decide) (by decide) (by decide)) (fR _ (by decide)) (fR _ (by decide)) (fR _ (by decide)), h10.fr (hI' _ (by decide) (by decide) (by decide)) (fR _ (by decide)) (fR _ (by decide))⟩
    · rw [fR 31 (by decide)]; exact c2
    · intro j e' hj
      have hj1 : l[j]? = some e' := hj
      have hjl : j < l.length := (List.getElem?_eq_some_iff.mp hj1).1
      have := hA (j + 1) e' (by simpa using hj1)
      rw [fR 30 (by decide), fR 31 (by decide), show ((nx + 39) % 40 + 39 - j) % 40 = (nx + 39 - (j + 1)) % 40 by omega]
      exact this
theorem hidC (s : Scn) (L : Option LawF) (ok : ScOK s) : fa_cnt (hidB s L) (qC s) ≤ 30 := Nat.le_trans (fa_cnt_le _ _) ok.c30.1
set_option maxHeartbeats 1000000 in
theorem ca_pass (h : CA K dr a σ) (ok : LdOK a.2.2.2) (ht : ∃ e l, dA a.2.2.2 = e :: l ∧ qU e.1 = qU (dN a.2.2.2)) (hU : qU (dN a.2.2.2) < 9999) : Ok (fX9_passHour σ (K.1 0)) (fun _ t => CA K dr (setD a (passD (rul a.2.1) a.2.2.2)) t) := by
  have okn : ScOK (dN a.2.2.2) := ok.1.1
  have o30 := okn.c30
  have o4 := okn.t
  have oF := okn.f
  have oK : qK (dN a.2.2.2) ≤ 999 := okn.2.2.2.2.2.1
  have oB : qB (dN a.2.2.2) < 16 := okn.2.2.2.2.2.2.2.1
  have oc := hidC (dN a.2.2.2) (rul a.2.1) okn
  unfold fX9_passHour
  refine Ok.r (ca_past h) (Ok.r (ca_now h) (Ok.r (ca_now h) (Ok.v (ca_O h) (ca_ruling h) ?_)))
  rintro q t0 ⟨rfl, hq⟩
  obtain ⟨I, R, hr, sv⟩ := ca_SV h okn
  refine Ok.v (v_O sv) (v_hidden sv hq) ?_
  rintro r1 t1 ⟨rfl, sv1⟩
  refine Ok.cE ((f_bitC _ _).trans (congrArg (fun z => some (z, t1)) (bitC_msk _ (by omega)))) ?_
  have hv := sv1.1
  obtain ⟨h1, h2, h3, ⟨h4, h5⟩, h6, ⟨nx, hnx, e1, e2, hl, hA⟩, h8, h9, h10⟩ := hr
  have f4 : I 224 = nI (qF (dN a.2.2.2)) := h4.1 4 (by decide)
  have f5 : I 225 = nI (qK (dN a.2.2.2)) := h4.1 5 (by decide)
  have f6 : I 226 = nI (qU (dN a.2.2.2)) := h4.1 6 (by decide)
  have f7 : I 227 = nI (qB (dN a.2.2.2)) := h4.1 7 (by decide)
  have f8 : I 228 = nI (qU (dN a.2.2.2)) := (h4.1 8 (by decide)).trans (congrArg nI ok.1.2.2.1)
  obtain ⟨d1, -⟩ := enc_d _ (show fa_cnt (hidB (dN a.2.2.2) (rul a.2.1)) (qC (dN a.2.2.2)) < 31 by omega) _ oB _ (show qF (dN a.2.2.2) < 10 by omega)
  refine Ok.v (kO_29 hv) (P1 := fun _ t => CV K (upd I 228 (nI (qU (dN a.2.2.2) + 1))) (updR R 31 (upd (R 31) (qU (dN a.2.2.2) % 128) (encE (fa_cnt (hidB (dN a.2.2.2) (rul a.2.1)) (qC (dN a.2.2.2)), qB (dN a.2.2.2), qF (dN a.2.2.2))))) dr t) ?_ ?_
  · unfold fX5_write
    refine Ok.r (kr_29_3 hv) (Ok.r ((kr_11_8 hv).trans (congrArg some f8)) (Ok.bF (by decide) (Ok.r ((kr_11_7 hv).trans (congrArg some f7)) (Ok.r ((kr_11_4 hv).trans (congrArg some f4)) ?_))))
    rw [d1, show nI (qU (dN a.2.2.2)) - nI (qU (dN a.2.2.2)) / 128 * 128 = nI (qU (dN a.2.2.2) % 128) from pk_rem (d := 128) (by omega) (by omega) (by omega)]
    refine Ok.w (hv.putN 31 _ _ rfl rfl (fun _ => rfl) (show qU (dN a.2.2.2) % 128 < 128 by omega) (by decide)) ?_
    intro t2 v2
    refine Ok.r ((kr_11_8 v2).trans (congrArg some f8)) ?_
    rw [nI_1]
    refine Ok.w (v2.putI 11 8 _ rfl (by decide) (fun _ => rfl) (Nat.le_of_ble_eq_true rfl) (fun _ => rfl)) ?_
    intro t3 v3
    exact Ok.p v3
  intro w t2 v2
  generalize hR1 : updR R 31 (upd (R 31) (qU (dN a.2.2.2) % 128) (encE (fa_cnt (hidB (dN a.2.2.2) (rul a.2.1)) (qC (dN a.2.2.2)), qB (dN a.2.2.2), qF (dN a.2.2.2)))) = R1 at v2
  have g4 : upd I 228 (nI (qU (dN a.2.2.2) + 1)) 224 = nI (qF (dN a.2.2.2)) := (pk_un (by decide)).trans f4
  refine Ok.r (kr_0_8 v2) (Ok.r ((kr_11_4 v2).trans (congrArg some g4)) (Ok.j1 ?_))
  have fin : ∀ I5 t5, CV K I5 R1 dr t5 → I5 224 = nI (qF (dN a.2.2.2) - 1) → I5 225 = nI (min 999 (qK (dN a.2.2.2) + 1)) → (∀ k, k ≠ 224 → k ≠ 225 → I5 k = upd I 228 (nI (qU (dN a.2.2.2) + 1)) k) → Ok ((gR 9 8 t5 (K.1 0)).bind fun a20 => (gI 7 6 t5 a20).bind fun x21 => (pV 7 6 t5 a20 (.int (x21 + 1))).bind (fun t22 => some ((), t22))) (fun _ t => CA K dr (setD a (passD (rul a.2.1) a.2.2.2)) t) := by
    intro I5 t5 v5 k4 k5 kk
    have k6 : I5 226 = nI (qU (dN a.2.2.2)) := (kk 226 (by decide) (by decide)).trans ((pk_un (by decide)).trans f6)
    refine Ok.r (kr_0_8 v5) (Ok.r ((kr_11_6 v5).trans (congrArg some k6)) ?_)
    rw [nI_1]
    refine Ok.w (v5.putI 11 6 _ rfl (by decide) (fun _ => rfl) (Nat.le_of_ble_eq_true rfl) (fun _ => rfl)) ?_
    intro t6 v6
    refine Ok.p ⟨_, _, v6, ?_⟩
    have hI : ∀ k, (k < 224 ∨ k = 227 ∨ 229 ≤ k) → upd I5 (20 * 11 + 6) (nI (qU (dN a.2.2.2) + 1)) k = I k := fun k hk => (pk_un (by omega)).trans ((kk k (by omega) (by omega)).trans (pk_un (by omega)))
    have hR : ∀ k, k ≠ 31 → R1 k = R k := fun k hk => by rw [← hR1]; exact updR_n _ _ hk
    have hR31 : R1 31 = upd (R 31) (qU (dN a.2.2.2) % 128) (encE (fa_cnt (hidB (dN a.2.2.2) (rul a.2.1)) (qC (dN a.2.2.2)), qB (dN a.2.2.2), qF (dN a.2.2.2))) := by rw [← hR1]; exact updR_s _ _ _
    refine ⟨h1.fr (hI _ (by decide)) (hR _ (by decide)), h2.fr (hI _ (by decide)) (hI _ (by decide)), h3.fr (hI _ (by decide)) (hR _ (by decide)), ⟨⟨fun f hf => ?_, fun i hi => ?_, fun t ht => ?_⟩, ?_⟩, h6.fr (fun f hf => hI _ (by omega)) (fun j h1 h2 => hR _ (by omega)), ⟨nx, hnx, (hI _ (by decide)).trans e1, (hI _ (by decide)).trans e2, hl, ?_⟩, h8.fr (hI _ (by decide)) (hR _ (by decide)) (hR _ (by decide)), h9.fr (hI _ (by decide)) (hR _ (by decide)) (hR _ (by decide)) (hR _ (by decide)), h10.fr (hI _ (by decide)) (hR _ (by decide)) (hR _ (by decide))⟩
    · match f, hf with
      | 0, _ => exact (hI 220 (by decide)).trans (h4.1 0 (by decide))
      | 1, _ => exact (hI 221 (by decide)).trans (h4.1 1 (by decide))
      | 2, _ => exact (hI 222 (by decide)).trans (h4.1 2 (by decide))
      | 3, _ => exact (hI 223 (by decide)).trans (h4.1 3 (by decide))
      | 4, _ => exact (pk_un (by decide)).trans k4
      | 5, _ => exact (pk_un (by decide)).trans k5
      | 6, _ => exact pk_us
      | 7, _ => exact (hI 227 (by decide)).trans (h4.1 7 (by decide))
      | 8, _ => exact (pk_un (by decide)).trans ((kk 228 (by decide) (by decide)).trans pk_us)
      | f + 9, hf => omega
    · rw [hR 12 (by decide)]; exact h4.2.1 i hi
    · rw [hR 13 (by decide), hR 14 (by decide), hR 15 (by decide)]; exact h4.2.2 t ht
    · rw [hR31]
      intro i e hi
      have hi' : (((fa_cnt (hidB (dN a.2.2.2) (rul a.2.1)) (qC (dN a.2.2.2)), qB (dN a.2.2.2), qF (dN a.2.2.2)) :: dG a.2.2.2).take 60)[i]? = some e := hi
      rw [List.getElem?_take] at hi'
      by_cases i60 : i < 60
      case neg => rw [if_neg i60] at hi'; exact absurd hi' (by simp)
      rw [if_pos i60] at hi'
      show upd (R 31) (qU (dN a.2.2.2) % 128) _ ((qU (dN a.2.2.2) + 1 - 1 - i) % 128) = _
      match i, hi' with
      | 0, hi' =>
        simp only [List.getElem?_cons_zero, Option.some.injEq] at hi'
        subst hi'
        exact pk_us
      | i + 1, hi' =>
        simp only [List.getElem?_cons_succ] at hi'
        have hil : i < (dG a.2.2.2).length := (List.getElem?_eq_some_iff.mp hi').1
        have hlg : (dG a.2.2.2).length = min 60 (qU (dN a.2.2.2)) := ok.1.2.2.2.1
        rw [pk_un (by omega), show qU (dN a.2.2.2) + 1 - 1 - (i + 1) = qU (dN a.2.2.2) - 1 - i by omega]
        exact h5 i e hi'
    · intro j e hj
      obtain ⟨c1, c2⟩ := hA j e hj
      rw [hR 30 (by decide), hR31]
      have oke := ok.2.2.1 e (List.mem_of_getElem? hj)
      have hjl : j < (dA a.2.2.2).length := (List.getElem?_eq_some_iff.mp hj).1
      obtain ⟨b1, b2⟩ := chn_at ok.2.2.2.1 hj
      exact ⟨c1, c2.put oke.2.2.2.1 b1 (by omega)⟩
  have mid : ∀ I4 t4, CV K I4 R1 dr t4 → I4 224 = nI (qF (dN a.2.2.2) - 1) → (∀ k, k ≠ 224 → I4 k = upd I 228 (nI (qU (dN a.2.2.2) + 1)) k) → Ok ((gR 9 8 t4 (K.1 0)).bind fun a16 => (gI 7 5 t4 a16).bind fun x17 => jo1 (fun (t18 : St) => (gR 9 8 t18 (K.1 0)).bind fun a20 => (gI 7 6 t18 a20).bind fun x21 => (pV 7 6 t18 a20 (.int (x21 + 1))).bind (fun t22 => some ((), t22))) (fun j19 => if 999 ≤ x17 then j19 t4 else (gR 9 8 t4 (K.1 0)).bind fun a23 => (gI 7 5 t4 a23).bind fun x24 => (pV 7 5 t4 a23 (.int (x24 + 1))).bind (fun t25 => j19 t25))) (fun _ t => CA K dr (setD a (passD (rul a.2.1) a.2.2.2)) t) := by
    intro I4 t4 v4 k4 kk
    have k5 : I4 225 = nI (qK (dN a.2.2.2)) := (kk 225 (by decide)).trans ((pk_un (by decide)).trans f5)
    refine Ok.r (kr_0_8 v4) (Ok.r ((kr_11_5 v4).trans (congrArg some k5)) (Ok.j1 (Ok.bI (nI_leI (a := 999) (by omega) (by omega)) (fun e => ?_) (fun e => ?_))))
    · refine fin I4 t4 v4 k4 ?_ (fun k q1 q2 => kk k q1)
      rw [k5, show min 999 (qK (dN a.2.2.2) + 1) = qK (dN a.2.2.2) by omega]
    · refine Ok.r (kr_0_8 v4) (Ok.r ((kr_11_5 v4).trans (congrArg some k5)) ?_)
      rw [nI_1]
      refine Ok.w (v4.putI 11 5 _ rfl (by decide) (fun _ => rfl) (Nat.le_of_ble_eq_true rfl) (fun _ => rfl)) ?_
      intro t5 v5
      refine fin _ t5 v5 ((pk_un (by decide)).trans k4) (pk_us.trans (congrArg nI (by omega))) (fun k q1 q2 => (pk_un (by omega)).trans (kk k q1))
  refine Ok.bI (nI_leI (b := 0) (by omega) (by omega)) (fun e => ?_) (fun e => ?_)
  · refine mid _ t2 v2 ?_ (fun k _ => rfl)
    rw [g4, show qF (dN a.2.2.2) - 1 = qF (dN a.2.2.2) by omega]
  · refine Ok.r (kr_0_8 v2) (Ok.r ((kr_11_4 v2).trans (congrArg some g4)) ?_)
    rw [show (1 : Int32) = nI 1 from rfl, pk_sub (by omega)]
    refine Ok.w (v2.putI 11 4 _ rfl (by decide) (fun _ => rfl) (Nat.le_of_ble_eq_true rfl) (fun _ => rfl)) ?_
    intro t3 v3
    exact mid _ t3 v3 pk_us (fun k hk => pk_un (by omega))
theorem ca_log (h : CA K dr a σ) (ok : NoLd a.2.2.2 ∨ LdOK a.2.2.2) (v w : Int32) : fX9_log σ (K.1 0) v w = some (logA (dG a.2.2.2) v w, σ) := by
  have hlen : (dG a.2.2.2).length = min 60 (qU (dN a.2.2.2)) ∧ qU (dN a.2.2.2) ≤ 19999 ∧ qL (dN a.2.2.2) = qU (dN a.2.2.2) := by
    rcases ok with n | ok
    · rw [n.2.2.2.2.1, n.2.2.1, n.2.2.2.1]; decide
    · exact ⟨ok.1.2.2.2.1, ok.1.1.u, ok.1.2.2.1⟩
  obtain ⟨l1, l2, l3⟩ := hlen
  refine Ok.toE ?_
  unfold fX9_log
  refine Ok.r (ca_past h) (Ok.r (ca_now h) (Ok.v (ca_O5 h) (P1 := fun r t => r = logA (dG a.2.2.2) v w ∧ t = σ) ?_ (fun r t hq => Ok.p hq)))
  have h0 := h
  obtain ⟨I, R, hv, hr⟩ := h
  unfold fX5_read
  have e8 : gI 7 8 σ (K.1 11) = some (nI (qU (dN a.2.2.2))) := (ca_f h0 8 (by decide)).trans (congrArg (fun z => some (nI z)) l3)
  have eL : fX5_logLength σ (K.1 11) = some (nI (dG a.2.2.2).length, σ) := by
    unfold fX5_logLength
    rw [e8, Option.bind_some, f_min, bd_some, show (60 : Int32) = nI 60 from rfl, min_i (by omega) (by omega), l1]
  rcases ixc v (n := (dG a.2.2.2).length) (by omega) with ⟨e, hn⟩ | ⟨i, hi, rfl, e⟩
  · have el : logA (dG a.2.2.2) v w = -1 := by simp [logA, e]
    rw [el]
    refine Ok.b (fun q => Ok.p ⟨rfl, rfl⟩) (fun q => Ok.cE eL (Ok.bF (fun z => hn ⟨q, z⟩) (Ok.p ⟨rfl, rfl⟩)))
  · refine Ok.bF (nI_pos (by omega)) (Ok.cE eL (Ok.bT (nI_lt hi (by omega)) (Ok.r (kr_29_3 hv) (Ok.r e8 (Ok.bF (by decide) ?_)))))
    rw [show nI (qU (dN a.2.2.2)) - 1 = nI (qU (dN a.2.2.2) - 1) from pk_sub (b := 1) (by omega), show nI (qU (dN a.2.2.2) - 1) - nI i = nI (qU (dN a.2.2.2) - 1 - i) from pk_sub (by omega), show nI (qU (dN a.2.2.2) - 1 - i) - nI (qU (dN a.2.2.2) - 1 - i) / 128 * 128 = nI ((qU (dN a.2.2.2) - 1 - i) % 128) from pk_rem (d := 128) (by omega) (by omega) (by omega)]
    obtain ⟨en, hen⟩ : ∃ en, (dG a.2.2.2)[i]? = some en := ⟨_, List.getElem?_eq_getElem hi⟩
    refine Ok.r ((ka_31 hv (by omega)).trans (congrArg some (hr.2.2.2.1.2 i en hen))) ?_
    have oke : EntOK en := by
      rcases ok with n | ok
      · rw [n.2.2.2.2.1] at hen; exact absurd hen (by simp)
      · exact ok.1.2.2.2.2 en (List.mem_of_getElem? hen)
    obtain ⟨-, d1, d2, d3⟩ := enc_d _ (show en.1 < 31 by have := oke.1; omega) _ oke.2.1 _ (show en.2.2 < 10 by have := oke.2.2; omega)
    unfold encE
    rw [d1, d2, d3]
    rcases ixc w (n := 3) (by decide) with ⟨e3, hn3⟩ | ⟨j, hj, rfl, e3⟩
    · exact Ok.e (tbs_no 3 rfl (by decide) hn3) (Ok.p ⟨by simp [logA, e, e3], rfl⟩)
    · match j, hj with
      | 0, _ => exact Ok.e (tbs_yes 0 (by decide) rfl) (Ok.p ⟨by simp [logA, e, e3, hen, entW], rfl⟩)
      | 1, _ => exact Ok.e (tbs_yes 1 (by decide) rfl) (Ok.p ⟨by simp [logA, e, e3, hen, entW], rfl⟩)
      | 2, _ => exact Ok.e (tbs_yes 2 (by decide) rfl) (Ok.p ⟨by simp [logA, e, e3, hen, entW], rfl⟩)
      | j + 3, h => omega
theorem ca_image (h : CA K dr a σ) (ok : NoLd a.2.2.2 ∨ LdOK a.2.2.2) : Ok (fX9_image σ (K.1 0)) (fun r t => r = (if qC (dN a.2.2.2) = 0 then (-1, a) else (nI (qU (dN a.2.2.2)), setD a (imageD a.2.2.2))).1 ∧ CA K dr (if qC (dN a.2.2.2) = 0 then ((-1 : Int32), a) else (nI (qU (dN a.2.2.2)), setD a (imageD a.2.2.2))).2 t) := by
  have hC : qC (dN a.2.2.2) ≤ 30 := by
    rcases ok with n | ok
    · rw [n.1]; omega
    · exact ok.1.1.c30.1
  unfold fX9_image
  refine Ok.vE (ca_O h) (ca_noLand h (by omega)) ?_
  by_cases e : qC (dN a.2.2.2) = 0
  · rw [decide_eq_true e, if_pos e]
    exact Ok.bF (by decide) (Ok.p ⟨rfl, h⟩)
  rw [decide_eq_false e, if_neg e]
  have ok : LdOK a.2.2.2 := ok.resolve_left (fun n => e n.1)
  have o4 := (show ScOK (dN a.2.2.2) from ok.1.1).t
  refine Ok.bT rfl (Ok.r (ca_past h) (Ok.r (ca_now h) (Ok.v (ca_O5 h) (P1 := fun _ t => CA K dr (setD a (imageD a.2.2.2)) t) ?_ ?_)))
  · obtain ⟨I, R, hv, hr⟩ := h
    obtain ⟨h1, h2, h3, ⟨h4, h5⟩, h6, h7, h8, h9, h10⟩ := hr
    unfold fX5_draw
    refine Ok.r (kr_29_5 hv) (Ok.v (kO_11 hv) (v_save hv (Or.inl rfl) h4 hC (by omega) 33 0 (z1 := 43) rfl rfl (fun _ => rfl) (fun j h1 h2 => by omega) (by decide) (by decide)) ?_)
    rintro w t1 ⟨g, v1, hg, hf⟩
    refine Ok.r (kr_29_3 v1) (Ok.r (kr_29_4 v1) (Ok.w (v1.cpy 31 32 0 0 128 rfl rfl (fun _ => rfl) rfl rfl (fun _ => rfl) (by decide) (by decide) (by decide) (by decide)) ?_))
    intro t2 v2
    refine Ok.bT (by decide) (Ok.w (v2.putI 29 6 _ rfl (by decide) (fun _ => rfl) (Nat.le_of_ble_eq_true rfl) (fun _ => rfl)) ?_)
    intro t3 v3
    refine Ok.p ⟨_, _, v3, ?_⟩
    have hI : ∀ k, k ≠ 586 → upd I (20 * 29 + 6) 1 k = I k := fun k hk => pk_un (by omega)
    have hR : ∀ k, k ≠ 32 → k ≠ 33 → updR (updR R 33 g) 32 (va_cpy (updR R 33 g 31) (updR R 33 g 32) 0 0 128) k = R k := fun k q1 q2 => (updR_n _ _ q1).trans (updR_n _ _ q2)
    refine ⟨h1.fr (hI _ (by decide)) (hR _ (by decide) (by decide)), h2.fr (hI _ (by decide)) (hI _ (by decide)), h3.fr (hI _ (by decide)) (hR _ (by decide) (by decide)), ⟨h4.fr (fun f hf => hI _ (by omega)) (fun j h1 h2 => hR _ (by omega) (by omega)), ?_⟩, h6.fr (fun f hf => hI _ (by omega)) (fun j h1 h2 => hR _ (by omega) (by omega)), h7.fr (hI _ (by decide)) (hI _ (by decide)) (hR _ (by decide) (by decide)) (hR _ (by decide) (by decide)), Or.inr ⟨_, rfl, pk_us, ?_, ?_⟩, h9.fr (hI _ (by decide)) (hR _ (by decide) (by decide)) (hR _ (by decide) (by decide)) (hR _ (by decide) (by decide)), h10.fr (hI _ (by decide)) (hR _ (by decide) (by decide)) (hR _ (by decide) (by decide))⟩
    · rw [hR 31 (by decide) (by decide)]; exact h5
    · rw [updR_n _ _ (by decide), updR_s]; exact hg
    · rw [updR_s]
      intro i e hi
      rw [pk_cpy_in (by omega) (by omega), updR_n _ _ (by decide)]
      simp only [Nat.zero_add, Nat.sub_zero]
      exact h5 i e hi
  · intro w t1 v1
    refine Ok.r (ca_now v1) (Ok.r (ca_f v1 6 (by decide)) (Ok.p ⟨rfl, v1⟩))
theorem ca_back (h : CA K dr a σ) (ok : NoLd a.2.2.2 ∨ LdOK a.2.2.2) : Ok (fX9_back σ (K.1 0)) (fun r t => r = (backA a).1 ∧ CA K dr (backA a).2 t) := by
  unfold fX9_back
  refine Ok.r (ca_past h) (Ok.r (ca_now h) ?_)
  have hO := ca_O5 h
  have h0 := h
  obtain ⟨I, R, hv, hr⟩ := h
  obtain ⟨h1, h2, h3, ⟨h4, h5⟩, h6, ⟨nx, hnx, e1, e2, hl, hA⟩, h8, h9, h10⟩ := hr
  unfold backA
  rcases h8 with ⟨q, i6⟩ | ⟨e, q, i6, c1, c2⟩
  · rw [q]
    refine Ok.v hO (P1 := fun r t => r = 0 ∧ t = σ) ?_ ?_
    · unfold fX5_bringBack
      exact Ok.r ((kr_29_6 hv).trans (congrArg some i6)) (Ok.bT rfl (Ok.p ⟨rfl, rfl⟩))
    · rintro r t ⟨rfl, rfl⟩
      exact Ok.bT rfl (Ok.p ⟨rfl, h0⟩)
  · rw [q]
    have ok : LdOK a.2.2.2 := by
      rcases ok with n | ok
      · rw [n.2.2.2.2.2.2.1] at q; exact absurd q (by simp)
      · exact ok
    have o30 := (show ScOK (dN a.2.2.2) from ok.1.1).c30
    have o4 := (show ScOK (dN a.2.2.2) from ok.1.1).t
    have oke := ok.2.2.2.2.1 e q
    refine Ok.v hO (P1 := fun r t => r = 1 ∧ CA K dr (setD a (e, a.2.2.2.2.1, [], a.2.2.2.2.2.2)) t) ?_ ?_
    · unfold fX5_bringBack
      refine Ok.r ((kr_29_6 hv).trans (congrArg some i6)) (Ok.bF (by decide) (Ok.r (kr_29_5 hv) (Ok.v (kO_11 hv) (v_load hv h4 (by omega) (by omega) oke.2.1 33 0 (z1 := 43) rfl rfl (fun _ _ => rfl) (fun j h1 h2 => by omega) (by decide) (by decide) c1) ?_)))
      rintro w t1 ⟨I', R', v1, hs, fB, fR⟩
      refine Ok.r (kr_29_4 v1) (Ok.r (kr_29_3 v1) (Ok.w (v1.cpy 32 31 0 0 128 rfl rfl (fun _ => rfl) rfl rfl (fun _ => rfl) (by decide) (by decide) (by decide) (by decide)) ?_))
      intro t2 v2
      refine Ok.w (v2.putI 29 2 _ rfl (by decide) (fun _ => rfl) (Nat.le_of_ble_eq_true rfl) (fun _ => rfl)) ?_
      intro t3 v3
      refine Ok.p ⟨rfl, _, _, v3, ?_⟩
      have hI : ∀ k, k ≠ 582 → (k < 220 ∨ 229 ≤ k) → upd I' (20 * 29 + 2) 0 k = I k := fun k q1 q2 => (pk_un (by omega)).trans (fB k (by omega))
      have hR : ∀ k, k ≠ 31 → (k < 12 ∨ 16 ≤ k) → updR R' 31 (va_cpy (R' 32) (R' 31) 0 0 128) k = R k := fun k q1 q2 => (updR_n _ _ q1).trans (fR k (by omega))
      refine ⟨h1.fr (hI _ (by decide) (by decide)) (hR _ (by decide) (by decide)), h2.fr (hI _ (by decide) (by decide)) (hI _ (by decide) (by decide)), h3.fr (hI _ (by decide) (by decide)) (hR _ (by decide) (by decide)), ⟨hs.fr (fun f hf => pk_un (by omega)) (fun j h1 h2 => updR_n _ _ (by omega)), ?_⟩, h6.fr (fun f hf => hI _ (by omega) (by omega)) (fun j h1 h2 => hR _ (by omega) (by omega)), ⟨nx, hnx, (hI _ (by decide) (by decide)).trans e1, pk_us, (show ([] : List Snp).length ≤ 40 from by decide), fun j e' hj => by have q9 : ([] : List Snp)[j]? = some e' := hj; simp at q9⟩, Or.inr ⟨e, q, (hI _ (by decide) (by decide)).trans i6, ?_, ?_⟩, h9.fr (hI _ (by decide) (by decide)) (hR _ (by decide) (by decide)) (hR _ (by decide) (by decide)) (hR _ (by decide) (by decide)), h10.fr (hI _ (by decide) (by decide)) (hR _ (by decide) (by decide)) (hR _ (by decide) (by decide))⟩
      · rw [updR_s]
        intro i e' hi
        rw [pk_cpy_in (by omega) (by omega), fR 32 (by decide)]
        simp only [Nat.zero_add, Nat.sub_zero]
        exact c2 i e' hi
      · rw [hR 33 (by decide) (by decide)]; exact c1
      · rw [hR 32 (by decide) (by decide)]; exact c2
    · rintro r t ⟨rfl, v1⟩
      exact Ok.bF (by decide) (Ok.r (ca_now v1) (Ok.r (ca_f v1 6 (by decide)) (Ok.p ⟨rfl, v1⟩)))
end
