/-! what is seen: the class's calls -/
theorem anyB_cong {p q : Nat → Bool} : ∀ {n : Nat}, (∀ i, i < n → p i = q i) → anyB p n = anyB q n
  | 0, _ => rfl
  | n + 1, h => by
    unfold anyB
    rw [anyB_cong (fun i hi => h i (by omega)), h n (by omega)]
def flsM (f : Nat → Bool) (t : Nat → Nat) : Nat → Int32
  | 0 => 0
  | k + 1 => if f k then flsM f t k else flsM f t k ||| bitm (t k)
def seesA (a : Abs) (v w : Int32) : Int32 := match ix v (qT (dN a.2.2.2)), ix w (qC (dN a.2.2.2)) with
  | some t, some c => bI (sees (dN a.2.2.2) (rul a.2.1) t c)
  | _, _ => -1
def mapA (a : Abs) (v w : Int32) : Int32 := match ix v (qT (dN a.2.2.2)), ix w 3 with
  | some t, some 0 => msk (fun c => !sees (dN a.2.2.2) (rul a.2.1) t c) (qC (dN a.2.2.2))
  | some t, some 1 => if bt (nI (qB (dN a.2.2.2))) t then msk (sees (dN a.2.2.2) (rul a.2.1) t) (qC (dN a.2.2.2)) else msk (fun c => !sees (dN a.2.2.2) (rul a.2.1) t c) (qC (dN a.2.2.2))
  | some t, some _ => msk (aloB (dN a.2.2.2) (rul a.2.1) t) (qC (dN a.2.2.2))
  | _, _ => -1
def watchA (a : Abs) (v : Int32) : Int32 := if qC (dN a.2.2.2) = 0 then -1 else if v < 1 then -1 else if 4 < v then -1 else msk (fun c => decide (v.toNatClampNeg ≤ fa_cnt (fun t => sees (dN a.2.2.2) (rul a.2.1) t c) (qT (dN a.2.2.2)))) (qC (dN a.2.2.2))
def cntS (s : Scn) (L : Option LawF) (t : Nat) : Nat := fa_cnt (sees s L t) (qC s)
def sharesA (a : Abs) (v w : Int32) : Int32 := match ix v (qT (dN a.2.2.2)), ix w 1000 with
  | some t, some c => if fb_sm (cntS (dN a.2.2.2) (rul a.2.1)) (qT (dN a.2.2.2)) = 0 then 0 else nI (c * cntS (dN a.2.2.2) (rul a.2.1) t / fb_sm (cntS (dN a.2.2.2) (rul a.2.1)) (qT (dN a.2.2.2)))
  | _, _ => -1
def mostK (a : Abs) : Nat → Int32
  | 0 => nI (bestI (fun i => 1 * nI (qG (dN a.2.2.2) i)) (qC (dN a.2.2.2)))
  | 1 => nI (bestI (fun i => (-1) * nI (qG (dN a.2.2.2) i)) (qC (dN a.2.2.2)))
  | 2 => nI (bestI (fun t => 1 * bitC (msk (sees (dN a.2.2.2) (rul a.2.1) t) (qC (dN a.2.2.2)))) (qT (dN a.2.2.2)))
  | 3 => nI (bestI (fun t => (-1) * bitC (msk (sees (dN a.2.2.2) (rul a.2.1) t) (qC (dN a.2.2.2)))) (qT (dN a.2.2.2)))
  | 4 => nI (qB (dN a.2.2.2))
  | 5 => nI (fa_cnt (likeB (dN a.2.2.2)) (qC (dN a.2.2.2)))
  | 6 => msk (fun c => decide (qG (dN a.2.2.2) c < qF (dN a.2.2.2))) (qC (dN a.2.2.2))
  | 7 => nI (mutC (prB (dN a.2.2.2) (rul a.2.1)) (qT (dN a.2.2.2)))
  | 8 => msk (hidB (dN a.2.2.2) (rul a.2.1)) (qC (dN a.2.2.2))
  | _ => flsM (fun k => decide ((dH a.2.2.2).2.2 k = msk (fun c => !sees (dN a.2.2.2) (rul a.2.1) ((dH a.2.2.2).2.1 k) c) (qC (dN a.2.2.2)))) (dH a.2.2.2).2.1 (dH a.2.2.2).1
def mostA (a : Abs) (v : Int32) : Int32 := if qC (dN a.2.2.2) = 0 then -1 else match ix v 10 with
  | none => -1
  | some k => mostK a k
def setV (d : Lnd) (g : Gvn) : Lnd := (d.1, d.2.1, d.2.2.1, d.2.2.2.1, g, d.2.2.2.2.2)
def setQ (d : Lnd) (g : Hrd) : Lnd := (d.1, d.2.1, d.2.2.1, d.2.2.2.1, d.2.2.2.2.1, g)
def updB (f : Nat → Bool) (i : Nat) (v : Bool) : Nat → Bool := fun k => if k = i then v else f k
def givenA (a : Abs) (v w : Int32) (b : Bool) : Int32 × Abs := match ix v (qT (dN a.2.2.2)), ix w (qC (dN a.2.2.2)) with
  | some t, some c => if (dV a.2.2.2).1 = 10 then (-1, a) else (nI ((dV a.2.2.2).1 + 1), setD a (setV a.2.2.2 ((dV a.2.2.2).1 + 1, updN (dV a.2.2.2).2.1 (dV a.2.2.2).1 t, updN (dV a.2.2.2).2.2.1 (dV a.2.2.2).1 c, updB (dV a.2.2.2).2.2.2 (dV a.2.2.2).1 b)))
  | _, _ => (-1, a)
def heardA (a : Abs) (v w : Int32) : Int32 × Abs := match ix v (qT (dN a.2.2.2)) with
  | some t => if w &&& (msk (fun _ => true) (qC (dN a.2.2.2)) ^^^ (-1)) = 0 then (if (dH a.2.2.2).1 = 10 then (-1, a) else (nI ((dH a.2.2.2).1 + 1), setD a (setQ a.2.2.2 ((dH a.2.2.2).1 + 1, updN (dH a.2.2.2).2.1 (dH a.2.2.2).1 t, upd (dH a.2.2.2).2.2 (dH a.2.2.2).1 w)))) else (-1, a)
  | none => (-1, a)
theorem givenA_ok {a : Abs} (h : AOK a) (v w : Int32) (b : Bool) : AOK (givenA a v w b).2 := by
  obtain ⟨h30, h4, _, _, _, hl⟩ := okC h.2
  unfold givenA
  rcases ixc v (n := qT (dN a.2.2.2)) (by omega) with ⟨e, hn⟩ | ⟨t, ht, rfl, e⟩
  · rw [e]; exact h
  rcases ixc w (n := qC (dN a.2.2.2)) (by omega) with ⟨e2, hn⟩ | ⟨c, hc, rfl, e2⟩
  · rw [e, e2]; exact h
  rw [e, e2]
  show AOK (ite (α := Int32 × Abs) _ _ _).2
  split
  · exact h
  · obtain ⟨k1, k2, k3, k4, k5, k6, k7⟩ := hl (by omega)
    refine h.setD ⟨k1, k2, k3, k4, k5, fun k hk => ?_, k7⟩
    have hk' : k < (dV a.2.2.2).1 + 1 := hk
    show updN _ _ t k < qT (dN a.2.2.2) ∧ updN _ _ c k < qC (dN a.2.2.2)
    unfold updN
    by_cases q : k = (dV a.2.2.2).1
    · rw [if_pos q, if_pos q]; exact ⟨ht, hc⟩
    · rw [if_neg q, if_neg q]; exact k6 k (by omega)
theorem heardA_ok {a : Abs} (h : AOK a) (v w : Int32) : AOK (heardA a v w).2 := by
  obtain ⟨h30, h4, _, _, _, hl⟩ := okC h.2
  unfold heardA
  rcases ixc v (n := qT (dN a.2.2.2)) (by omega) with ⟨e, hn⟩ | ⟨t, ht, rfl, e⟩
  · rw [e]; exact h
  rw [e]
  show AOK (ite (α := Int32 × Abs) _ _ _).2
  split
  · split
    · exact h
    · obtain ⟨k1, k2, k3, k4, k5, k6, k7⟩ := hl (by omega)
      refine h.setD ⟨k1, k2, k3, k4, k5, k6, fun k hk => ?_⟩
      have hk' : k < (dH a.2.2.2).1 + 1 := hk
      show updN _ _ t k < qT (dN a.2.2.2)
      unfold updN
      by_cases q : k = (dH a.2.2.2).1
      · rw [if_pos q]; exact ht
      · rw [if_neg q]; exact k7 k (by omega)
  · exact h
theorem msk_true_N : ∀ n, n < 31 → msk (fun _ => true) n = nI (2 ^ n - 1) ∧ 2 ^ n - 1 < 2 ^ 31 := by decide +kernel
theorem nI_bv (w : Int32) : w = nI w.toBitVec.toNat := by
  apply Int32.toBitVec_inj.mp
  show _ = BitVec.ofNat 32 _
  rw [BitVec.ofNat_toNat]
  simp
theorem sub_q (w : Int32) {n : Nat} (hn : n ≤ 30) : (w &&& (msk (fun _ => true) n ^^^ (-1)) = 0) ↔ (¬ w < 0 ∧ ¬ msk (fun _ => true) n < w) := by
  obtain ⟨e1, e2⟩ := msk_true_N n (by omega)
  have bits : (w &&& (msk (fun _ => true) n ^^^ (-1)) = 0) ↔ ∀ i, i < 32 → n ≤ i → bt w i = false := by
    constructor
    · intro h i hi hni
      have := congrArg (fun z => bt z i) h
      simp only [b_and, b_xor, bt_msk _ n (by omega) i hi, b_m1 i hi, b_0] at this
      rw [decide_eq_false (by omega)] at this
      simpa using this
    · intro h
      apply b_ext
      intro i hi
      rw [b_and, b_xor, bt_msk _ n (by omega) i hi, b_m1 i hi, b_0]
      by_cases q : i < n
      · rw [decide_eq_true q]; simp
      · rw [h i hi (by omega)]; rfl
  rw [bits, e1]
  constructor
  · intro h
    have hA : w.toBitVec.toNat < 2 ^ n := by
      have z : w.toBitVec.toNat / 2 ^ n = 0 := by
        apply Nat.eq_of_testBit_eq
        intro i
        rw [Nat.testBit_div_two_pow, Nat.zero_testBit]
        rcases Nat.lt_or_ge (i + n) 32 with q | q
        · have := h (i + n) q (by omega)
          rw [nI_bv w, bt_nI _ q] at this
          first
            | exact this
            | (rw [Nat.add_comm]; exact this)
        · have l : w.toBitVec.toNat < 2 ^ (i + n) := Nat.lt_of_lt_of_le w.toBitVec.isLt (Nat.pow_le_pow_right (by decide) q)
          first
            | exact Nat.testBit_lt_two_pow l
            | (rw [Nat.add_comm]; exact Nat.testBit_lt_two_pow l)
      rcases Nat.lt_or_ge w.toBitVec.toNat (2 ^ n) with q | q
      · exact q
      · have := Nat.div_pos q (Nat.two_pow_pos n)
        omega
    have p31 : 2 ^ n ≤ 2 ^ 30 := Nat.pow_le_pow_right (by decide) hn
    rw [nI_bv w]
    exact ⟨nI_pos (by omega), nI_nlt (by omega) (by omega)⟩
  · rintro ⟨h0, h1⟩ i hi hni
    obtain ⟨j, hj, rfl⟩ := nI_of h0
    have : ¬ 2 ^ n - 1 < j := fun z => h1 (nI_lt z hj)
    have p0 := Nat.two_pow_pos n
    rw [bt_nI _ hi]
    exact Nat.testBit_lt_two_pow (Nat.lt_of_lt_of_le (show j < 2 ^ n by omega) (Nat.pow_le_pow_right (by decide) hni))
section
variable {K : Cfg} {dr : Int64} {a : Abs} {σ : St}
theorem c_sees (h : CA K dr a σ) (ok : NoLd a.2.2.2 ∨ LdOK a.2.2.2) (v w : Int32) : Ok (fX9_sees σ (K.1 0) v w) (fun r t => r = seesA a v w ∧ CA K dr a t) := by
  obtain ⟨h30, h4, _, _, _, hl⟩ := okC ok
  unfold fX9_sees
  refine Ok.r (ca_now h) (Ok.vE (ca_O7 h) (ca_hasTower h v) ?_)
  rcases ixc v (n := qT (dN a.2.2.2)) (by omega) with ⟨e, hn⟩ | ⟨t, ht, rfl, e⟩
  · rw [decide_eq_false hn]
    exact Ok.bT rfl (Ok.p ⟨by simp only [seesA, e], h⟩)
  rw [decide_eq_true (ix_in ht (by omega))]
  refine Ok.bF (by decide) (Ok.r (ca_now h) (Ok.vE (ca_O7 h) (ca_hasCell h w) ?_))
  rcases ixc w (n := qC (dN a.2.2.2)) (by omega) with ⟨e2, hn⟩ | ⟨c, hc, rfl, e2⟩
  · rw [decide_eq_false hn]
    exact Ok.bT rfl (Ok.p ⟨by simp only [seesA, e, e2], h⟩)
  rw [decide_eq_true (ix_in hc (by omega))]
  refine Ok.bF (by decide) (Ok.r (ca_now h) (Ok.v (ca_O h) (ca_ruling h) ?_))
  rintro q t0 ⟨rfl, hq⟩
  have ok := hl (by omega)
  obtain ⟨I, R, hr, sv⟩ := ca_SV h ok.1.1
  refine Ok.v (v_O sv) (v_beholds sv ht hc hq) ?_
  rintro r1 t1 ⟨rfl, sv1⟩
  have h1 : CA K dr a t1 := ⟨I, R, sv1.1, hr⟩
  refine Ok.bI bI_0 (fun z => ?_) (fun z => ?_)
  · exact Ok.p ⟨by simp only [seesA, e, e2, z]; rfl, h1⟩
  · exact Ok.p ⟨by simp only [seesA, e, e2]; simp at z; rw [z]; rfl, h1⟩
theorem c_map (h : CA K dr a σ) (ok : NoLd a.2.2.2 ∨ LdOK a.2.2.2) (v w : Int32) : Ok (fX9_map σ (K.1 0) v w) (fun r t => r = mapA a v w ∧ CA K dr a t) := by
  obtain ⟨h30, h4, _, _, _, hl⟩ := okC ok
  unfold fX9_map
  refine Ok.r (ca_now h) (Ok.vE (ca_O7 h) (ca_hasTower h v) ?_)
  rcases ixc v (n := qT (dN a.2.2.2)) (by omega) with ⟨e, hn⟩ | ⟨t, ht, rfl, e⟩
  · rw [decide_eq_false hn]
    exact Ok.bT rfl (Ok.p ⟨by simp only [mapA, e], h⟩)
  rw [decide_eq_true (ix_in ht (by omega))]
  refine Ok.bF (by decide) (Ok.r (ca_now h) (Ok.v (ca_O h) (ca_ruling h) ?_))
  rintro q t0 ⟨rfl, hq⟩
  have ok := hl (by omega)
  obtain ⟨I, R, hr, sv⟩ := ca_SV h ok.1.1
  refine Ok.v (v_O sv) (v_sight sv ht hq) ?_
  rintro r1 t1 ⟨rfl, sv1⟩
  have h1 : CA K dr a t1 := ⟨I, R, sv1.1, hr⟩
  refine Ok.r (ca_now h1) (Ok.vE (v_O sv1) (v_allCells sv1) (Ok.nE (e' := msk (fun c => !sees (dN a.2.2.2) (rul a.2.1) t c) (qC (dN a.2.2.2))) ?_ ?_))
  · rw [msk_sub _ _ (by omega)]
    exact msk_cong (fun i _ => by simp)
  rcases ixc w (n := 3) (by omega) with ⟨e2, hn⟩ | ⟨k, hk, rfl, e2⟩
  · exact Ok.e (tbs_no 3 rfl (by decide) hn) (Ok.p ⟨by simp only [mapA, e, e2], h1⟩)
  match k, hk with
  | 0, _ => exact Ok.e (tbs_yes 0 (by decide) rfl) (Ok.p ⟨by simp only [mapA, e, e2], h1⟩)
  | 1, _ =>
    refine Ok.e (tbs_yes 1 (by decide) rfl) (Ok.r (ca_now h1) (Ok.r (ca_f h1 7 (by decide)) ?_))
    rw [bit_at _ (by omega)]
    refine Ok.bI bI_1 (fun z => ?_) (fun z => ?_)
    · have z' : bt (nI (qB (dN a.2.2.2))) t = true := z
      exact Ok.p ⟨by simp only [mapA, e, e2, if_pos z'], h1⟩
    · have z' : ¬ bt (nI (qB (dN a.2.2.2))) t = true := z
      exact Ok.p ⟨by simp only [mapA, e, e2, if_neg z'], h1⟩
  | 2, _ =>
    refine Ok.e (tbs_yes 2 (by decide) rfl) (Ok.r (ca_now h1) (Ok.r (ca_now h1) (Ok.vE (v_O sv1) (v_allTowers sv1) (Ok.v (ca_O h1) (ca_ruling h1) ?_))))
    rintro q2 t2 ⟨rfl, hq2⟩
    refine Ok.v (v_O sv1) (v_union sv1 _ hq2) ?_
    rintro r3 t3 ⟨rfl, sv3⟩
    refine Ok.p ⟨?_, I, R, sv3.1, hr⟩
    simp only [mapA, e, e2]
    rw [msk_sub _ _ (by omega)]
    refine msk_cong (fun i _ => ?_)
    unfold aloB
    congr 2
    refine anyB_cong (fun o ho => ?_)
    congr 1
    rw [b_and, b_xor, bt_msk _ _ (by omega) o (by omega), b_m1 o (by omega)]
    show (_ && (bt (bitm t) o ^^ true)) = _
    rw [bt_bitm t (by omega) o (by omega), decide_eq_true ho]
    simp
  | k + 3, hk => omega
theorem c_watched (h : CA K dr a σ) (ok : NoLd a.2.2.2 ∨ LdOK a.2.2.2) (v : Int32) : Ok (fX9_watched σ (K.1 0) v) (fun r t => r = watchA a v ∧ CA K dr a t) := by
  obtain ⟨h30, h4, _, _, hl, _⟩ := okC ok
  unfold fX9_watched
  refine Ok.vE (ca_O h) (ca_noLand h (by omega)) ?_
  by_cases e : qC (dN a.2.2.2) = 0
  · rw [decide_eq_true e]
    exact Ok.bF (by decide) (Ok.p ⟨by simp only [watchA, if_pos e], h⟩)
  rw [decide_eq_false e]
  refine Ok.bT rfl (Ok.b (fun q1 => ?_) (fun q1 => Ok.b (fun q2 => ?_) (fun q2 => ?_)))
  · exact Ok.p ⟨by simp only [watchA, if_neg e, if_pos q1], h⟩
  · have q2' : ¬ 4 < v := Int32.not_lt.mpr q2
    have ee : watchA a v = msk (fun c => decide (v.toNatClampNeg ≤ fa_cnt (fun t => sees (dN a.2.2.2) (rul a.2.1) t c) (qT (dN a.2.2.2)))) (qC (dN a.2.2.2)) := by simp only [watchA, if_neg e, if_neg q1, if_neg q2']
    rw [ee]
    obtain ⟨j, j1, j2, rfl⟩ := rngI 1 4 (by decide) (by decide) q1 q2'
    rw [nI_clamp (by omega)]
    refine Ok.r (ca_now h) (Ok.v (ca_O h) (ca_ruling h) ?_)
    rintro q t0 ⟨rfl, hq⟩
    have ok := hl (by omega)
    obtain ⟨I, R, hr, sv⟩ := ca_SV h ok.1.1
    refine Ok.v (v_O sv) (v_seenBy sv j1 j2 hq) ?_
    rintro r1 t1 ⟨rfl, sv1⟩
    exact Ok.p ⟨rfl, I, R, sv1.1, hr⟩
  · exact Ok.p ⟨by simp only [watchA, if_neg e, if_neg q1, if_pos (Int32.not_le.mp q2)], h⟩
theorem cntS_le {s : Scn} (ok : ScOK s) (L : Option LawF) (t : Nat) : cntS s L t ≤ 30 := Nat.le_trans (fa_cnt_le _ _) ok.c30.1
theorem sm_le (f : Nat → Nat) (m : Nat) (h : ∀ i, f i ≤ m) : ∀ n, fb_sm f n ≤ m * n
  | 0 => Nat.zero_le _
  | n + 1 => by
    rw [fb_sm_succ, Nat.mul_succ]
    exact Nat.add_le_add (sm_le f m h n) (h n)
theorem c_shares (h : CA K dr a σ) (ok : NoLd a.2.2.2 ∨ LdOK a.2.2.2) (v w : Int32) : Ok (fX9_shares σ (K.1 0) v w) (fun r t => r = sharesA a v w ∧ CA K dr a t) := by
  obtain ⟨h30, h4, _, _, _, hl⟩ := okC ok
  unfold fX9_shares
  refine Ok.r (ca_now h) (Ok.vE (ca_O7 h) (ca_hasTower h v) ?_)
  rcases ixc v (n := qT (dN a.2.2.2)) (by omega) with ⟨e, hn⟩ | ⟨t, ht, rfl, e⟩
  · rw [decide_eq_false hn]
    exact Ok.bT rfl (Ok.p ⟨by simp only [sharesA, e], h⟩)
  rw [decide_eq_true (ix_in ht (by omega))]
  refine Ok.bF (by decide) ?_
  rcases ixc w (n := 1000) (by omega) with ⟨e2, hn⟩ | ⟨c, hc, rfl, e2⟩
  · refine Ok.b (fun _ => Ok.p ⟨by simp only [sharesA, e, e2], h⟩) (fun z => Ok.bF (fun z2 => hn ⟨z, ?_⟩) (Ok.p ⟨by simp only [sharesA, e, e2], h⟩))
    rw [Int32.le_iff_toInt_le] at z2
    rw [Int32.lt_iff_toInt_lt, show (nI 1000).toInt = 1000 from rfl]
    have : (999 : Int32).toInt = 999 := rfl
    omega
  refine Ok.bF (nI_pos (by omega)) (Ok.bT (show nI c ≤ nI 999 from nI_le (by omega) (by decide)) (Ok.r (ca_now h) (Ok.v (ca_O h) (ca_ruling h) ?_)))
  rintro q t0 ⟨rfl, hq⟩
  have ok := hl (by omega)
  have okn : ScOK (dN a.2.2.2) := ok.1.1
  have c1 := cntS_le okn (rul a.2.1) t
  obtain ⟨I, R, hr, sv⟩ := ca_SV h okn
  refine Ok.v (v_O sv) (v_sight sv ht hq) ?_
  rintro r1 t1 ⟨rfl, sv1⟩
  refine Ok.cE ((f_bitC _ _).trans (congrArg (fun z => some (z, t1)) (bitC_msk _ (by omega)))) ?_
  refine Ok.f3 (qT (dN a.2.2.2)) 0 (fun k x y τ => x = nI (fb_sm (cntS (dN a.2.2.2) (rul a.2.1)) k) ∧ y = nI k ∧ SV K I R dr 11 (dN a.2.2.2) τ) (by omega) (by omega) ⟨rfl, rfl, sv1⟩ ?_ ?_
  · rintro j k x y τ hk ⟨rfl, rfl, s2⟩ hj
    have h2 : CA K dr a τ := ⟨I, R, s2.1, hr⟩
    refine Ok.r (ca_now h2) (Ok.r (v_towers s2) (Ok.bF (nI_ge hk (by omega)) (Ok.r (ca_now h2) (Ok.v (ca_O h2) (ca_ruling h2) ?_))))
    rintro q3 t3 ⟨rfl, hq3⟩
    refine Ok.v (v_O s2) (v_sight s2 hk hq3) ?_
    rintro r4 t4 ⟨rfl, s4⟩
    refine Ok.cE ((f_bitC _ _).trans (congrArg (fun z => some (z, t4)) (bitC_msk _ (by omega)))) (Ok.n ?_)
    rw [nI_add, nI_1]
    exact hj _ _ _ ⟨by rw [fb_sm_succ]; rfl, rfl, s4⟩
  · rintro j x y τ ⟨rfl, rfl, s2⟩
    have h2 : CA K dr a τ := ⟨I, R, s2.1, hr⟩
    have b2 := sm_le (cntS (dN a.2.2.2) (rul a.2.1)) 30 (fun i => cntS_le okn _ i) (qT (dN a.2.2.2))
    refine Ok.r (ca_now h2) (Ok.r (v_towers s2) (Ok.bT (nI_le (Nat.le_refl _) (by omega)) (Ok.bI (nI_eq (b := 0) (by omega) (by omega)) (fun z => ?_) (fun z => ?_))))
    · exact Ok.p ⟨by simp only [sharesA, e, e2, if_pos z], h2⟩
    · refine Ok.bF (nI_ne0 (by omega) (by omega)) (Ok.p ⟨?_, h2⟩)
      simp only [sharesA, e, e2, if_neg z]
      have b3 : c * fa_cnt (sees (dN a.2.2.2) (rul a.2.1) t) (qC (dN a.2.2.2)) ≤ 999 * 30 := Nat.mul_le_mul (by omega) c1
      rw [pk_mul, pk_div (by omega) (by omega) (by omega)]
      rfl
theorem c_false (h : CA K dr a σ) (ok : LdOK a.2.2.2) {q : Option Nat} (hq : Rul K q (rul a.2.1)) : Ok (fX1_falseTowers σ (K.1 34) (K.1 11) q) (fun r t => r = mostK a 9 ∧ CA K dr a t) := by
  have okn : ScOK (dN a.2.2.2) := ok.1.1
  have h30 := okn.c30
  have h4 := okn.t
  obtain ⟨I, R, hr, sv⟩ := ca_SV h okn
  obtain ⟨i6, l10, hc⟩ := hr.2.2.2.2.2.2.2.2
  unfold fX1_falseTowers
  refine Ok.f3 (dH a.2.2.2).1 0 (fun k x y τ => x = flsM (fun k => decide ((dH a.2.2.2).2.2 k = msk (fun c => !sees (dN a.2.2.2) (rul a.2.1) ((dH a.2.2.2).2.1 k) c) (qC (dN a.2.2.2)))) (dH a.2.2.2).2.1 k ∧ y = nI k ∧ SV K I R dr 11 (dN a.2.2.2) τ) (by omega) (by omega) ⟨rfl, rfl, sv⟩ ?_ ?_
  · rintro j k x y τ hk ⟨rfl, rfl, s2⟩ hj
    obtain ⟨c1, c2⟩ := hc k hk
    have ht := ok.2.2.2.2.2.2 k hk
    refine Ok.r ((kr_34_6 s2.1).trans (congrArg some i6)) (Ok.bF (nI_ge hk (by omega)) (Ok.r (kr_34_4 s2.1) (Ok.r ((ka_38 s2.1 (by omega)).trans (congrArg some c1)) (Ok.r (kr_34_5 s2.1) (Ok.r ((ka_39 s2.1 (by omega)).trans (congrArg some c2)) (Ok.vE (v_O s2) (v_allCells s2) (Ok.v (v_O s2) (v_sight s2 ht hq) ?_)))))))
    rintro r4 t4 ⟨rfl, s4⟩
    refine Ok.j1 ?_
    rw [nI_1, msk_sub _ _ (by omega), msk_cong (q := fun c => !sees (dN a.2.2.2) (rul a.2.1) ((dH a.2.2.2).2.1 k) c) (fun i _ => by simp)]
    refine Ok.b (fun z => ?_) (fun z => ?_)
    · exact hj _ _ _ ⟨by simp only [flsM, decide_eq_true z, if_true], rfl, s4⟩
    · refine Ok.n (hj _ _ _ ⟨?_, rfl, s4⟩)
      simp only [flsM, decide_eq_false z]
      rfl
  · rintro j x y τ ⟨rfl, rfl, s2⟩
    exact Ok.r ((kr_34_6 s2.1).trans (congrArg some i6)) (Ok.bT (nI_le (Nat.le_refl _) (by omega)) (Ok.p ⟨rfl, I, R, s2.1, hr⟩))
theorem c_most (h : CA K dr a σ) (ok : NoLd a.2.2.2 ∨ LdOK a.2.2.2) (v : Int32) : Ok (fX9_most σ (K.1 0) v) (fun r t => r = mostA a v ∧ CA K dr a t) := by
  obtain ⟨h30, h4, _, _, hl, _⟩ := okC ok
  unfold fX9_most
  refine Ok.vE (ca_O h) (ca_noLand h (by omega)) ?_
  by_cases e : qC (dN a.2.2.2) = 0
  · rw [decide_eq_true e]
    exact Ok.bF (by decide) (Ok.p ⟨by simp only [mostA, if_pos e], h⟩)
  rw [decide_eq_false e]
  refine Ok.bT rfl ?_
  rcases ixc v (n := 10) (by omega) with ⟨e2, hn⟩ | ⟨k, hk, rfl, e2⟩
  · exact Ok.e (tbs_no 10 rfl (by decide) hn) (Ok.p ⟨by simp only [mostA, if_neg e, e2], h⟩)
  have ee : mostA a (nI k) = mostK a k := by simp only [mostA, if_neg e, e2]
  rw [ee]
  have ok := hl (by omega)
  have okn : ScOK (dN a.2.2.2) := ok.1.1
  obtain ⟨I, R, hr, sv⟩ := ca_SV h okn
  have fin : ∀ {r : Int32} {t : St} {x : Int32}, (r = x ∧ SV K I R dr 11 (dN a.2.2.2) t) → Ok (some (r, t)) (fun r t => r = x ∧ CA K dr a t) := fun q => Ok.p ⟨q.1, I, R, q.2.1, hr⟩
  match k, hk with
  | 0, _ => exact Ok.e (tbs_yes 0 (by decide) rfl) (Ok.r (ca_now h) (Ok.vE (v_O sv) (v_highest sv 1) (Ok.p ⟨rfl, h⟩)))
  | 1, _ => exact Ok.e (tbs_yes 1 (by decide) rfl) (Ok.r (ca_now h) (Ok.vE (v_O sv) (v_highest sv (-1)) (Ok.p ⟨rfl, h⟩)))
  | 2, _ =>
    refine Ok.e (tbs_yes 2 (by decide) rfl) (Ok.r (ca_now h) (Ok.v (ca_O h) (ca_ruling h) ?_))
    rintro q t0 ⟨rfl, hq⟩
    exact Ok.v (v_O sv) (v_sharpest sv 1 hq) (fun r t z => fin z)
  | 3, _ =>
    refine Ok.e (tbs_yes 3 (by decide) rfl) (Ok.r (ca_now h) (Ok.v (ca_O h) (ca_ruling h) ?_))
    rintro q t0 ⟨rfl, hq⟩
    exact Ok.v (v_O sv) (v_sharpest sv (-1) hq) (fun r t z => fin z)
  | 4, _ => exact Ok.e (tbs_yes 4 (by decide) rfl) (Ok.r (ca_now h) (Ok.r (ca_f h 7 (by decide)) (Ok.p ⟨rfl, h⟩)))
  | 5, _ => exact Ok.e (tbs_yes 5 (by decide) rfl) (Ok.r (ca_now h) (Ok.vE (v_O sv) (v_flat sv) (Ok.p ⟨rfl, h⟩)))
  | 6, _ => exact Ok.e (tbs_yes 6 (by decide) rfl) (Ok.r (ca_now h) (Ok.vE (v_O sv) (v_lost sv) (Ok.p ⟨rfl, h⟩)))
  | 7, _ =>
    refine Ok.e (tbs_yes 7 (by decide) rfl) (Ok.r (ca_now h) (Ok.v (ca_O h) (ca_ruling h) ?_))
    rintro q t0 ⟨rfl, hq⟩
    exact Ok.v (v_O sv) (v_mutual sv hq) (fun r t z => fin z)
  | 8, _ =>
    refine Ok.e (tbs_yes 8 (by decide) rfl) (Ok.r (ca_now h) (Ok.v (ca_O h) (ca_ruling h) ?_))
    rintro q t0 ⟨rfl, hq⟩
    exact Ok.v (v_O sv) (v_hidden sv hq) (fun r t z => fin z)
  | 9, _ =>
    refine Ok.e (tbs_yes 9 (by decide) rfl) (Ok.r (kr_0_12 sv.1) (Ok.r (ca_now h) (Ok.v (ca_O h) (ca_ruling h) ?_)))
    rintro q t0 ⟨rfl, hq⟩
    exact Ok.v (kO_34 sv.1) (c_false h ok hq) (fun r t z => Ok.p z)
  | k + 10, hk => omega
theorem zB_b (b : Bool) : zB (bI b) = true := by cases b <;> decide
theorem c_given (h : CA K dr a σ) (ok : NoLd a.2.2.2 ∨ LdOK a.2.2.2) (v w : Int32) (b : Bool) : Ok (fX9_given σ (K.1 0) v w (bI b)) (fun r t => r = (givenA a v w b).1 ∧ CA K dr (givenA a v w b).2 t) := by
  obtain ⟨h30, h4, _, _, _, hl⟩ := okC ok
  unfold fX9_given
  refine Ok.r (ca_now h) (Ok.vE (ca_O7 h) (ca_hasTower h v) ?_)
  rcases ixc v (n := qT (dN a.2.2.2)) (by omega) with ⟨e, hn⟩ | ⟨t, ht, rfl, e⟩
  · have ee : givenA a v w b = (-1, a) := by simp only [givenA, e]
    rw [decide_eq_false hn, ee]
    exact Ok.bT rfl (Ok.p ⟨rfl, h⟩)
  rw [decide_eq_true (ix_in ht (by omega))]
  refine Ok.bF (by decide) (Ok.r (ca_now h) (Ok.vE (ca_O7 h) (ca_hasCell h w) ?_))
  rcases ixc w (n := qC (dN a.2.2.2)) (by omega) with ⟨e2, hn⟩ | ⟨c, hc, rfl, e2⟩
  · have ee : givenA a (nI t) w b = (-1, a) := by simp only [givenA, e, e2]
    rw [decide_eq_false hn, ee]
    exact Ok.bT rfl (Ok.p ⟨rfl, h⟩)
  rw [decide_eq_true (ix_in hc (by omega))]
  have h0 := h
  obtain ⟨I, R, hv, hr⟩ := h
  refine Ok.bF (by decide) (Ok.r (kr_0_12 hv) (Ok.v (kO_34 hv) (P1 := fun r t' => r = (givenA a (nI t) (nI c) b).1 ∧ CA K dr (givenA a (nI t) (nI c) b).2 t') ?_ (fun r t z => Ok.p z)))
  obtain ⟨h1, h2, h3, ⟨h4, h5⟩, h6, h7, h8, ⟨i3, l10, hg⟩, h10⟩ := hr
  unfold fX1_addGiven
  refine Ok.r ((kr_34_3 hv).trans (congrArg some i3)) (Ok.bI (nI_ltI (b := 10) (by omega) (by omega)) (fun q => ?_) (fun q => ?_))
  · have ee : givenA a (nI t) (nI c) b = (nI ((dV a.2.2.2).1 + 1), setD a (setV a.2.2.2 ((dV a.2.2.2).1 + 1, updN (dV a.2.2.2).2.1 (dV a.2.2.2).1 t, updN (dV a.2.2.2).2.2.1 (dV a.2.2.2).1 c, updB (dV a.2.2.2).2.2.2 (dV a.2.2.2).1 b))) := by simp only [givenA, e, e2, if_neg (show ¬ (dV a.2.2.2).1 = 10 by omega)]
    rw [ee]
    refine Ok.r (kr_34_0 hv) (Ok.r ((kr_34_3 hv).trans (congrArg some i3)) (Ok.w (hv.putN 35 _ _ rfl rfl (fun _ => rfl) q (by decide)) ?_))
    intro t1 v1
    refine Ok.r (kr_34_1 v1) (Ok.r ((kr_34_3 v1).trans (congrArg some i3)) (Ok.w (v1.putN 36 _ _ rfl rfl (fun _ => rfl) q (by decide)) ?_))
    intro t2 v2
    refine Ok.r (kr_34_2 v2) (Ok.r ((kr_34_3 v2).trans (congrArg some i3)) (Ok.bT (zB_b b) (Ok.w (v2.putN 37 _ _ rfl rfl (fun _ => rfl) q (by decide)) ?_)))
    intro t3 v3
    refine Ok.r ((kr_34_3 v3).trans (congrArg some i3)) ?_
    rw [nI_1]
    refine Ok.w (v3.putI 34 3 _ rfl (by decide) (fun _ => rfl) (Nat.le_of_ble_eq_true rfl) (fun _ => rfl)) ?_
    intro t4 v4
    refine Ok.r ((kr_34_3 v4).trans (congrArg some (pk_us : upd I (20 * 34 + 3) (nI ((dV a.2.2.2).1 + 1)) 683 = nI ((dV a.2.2.2).1 + 1)))) (Ok.p ⟨rfl, _, _, v4, ?_⟩)
    have hI : ∀ k, k ≠ 683 → upd I (20 * 34 + 3) (nI ((dV a.2.2.2).1 + 1)) k = I k := fun k hk => pk_un (by omega)
    generalize hR' : updR (updR (updR R 35 (upd (R 35) (dV a.2.2.2).1 (nI t))) 36 (upd (updR R 35 (upd (R 35) (dV a.2.2.2).1 (nI t)) 36) (dV a.2.2.2).1 (nI c))) 37 (upd (updR (updR R 35 (upd (R 35) (dV a.2.2.2).1 (nI t))) 36 (upd (updR R 35 (upd (R 35) (dV a.2.2.2).1 (nI t)) 36) (dV a.2.2.2).1 (nI c)) 37) (dV a.2.2.2).1 (bI b)) = R'
    have hR : ∀ k, (k < 35 ∨ 37 < k) → R' k = R k := fun k hk => by rw [← hR', updR_n _ _ (by omega), updR_n _ _ (by omega), updR_n _ _ (by omega)]
    have r35 : R' 35 = upd (R 35) (dV a.2.2.2).1 (nI t) := by rw [← hR', updR_n _ _ (by decide), updR_n _ _ (by decide), updR_s]
    have r36 : R' 36 = upd (R 36) (dV a.2.2.2).1 (nI c) := by rw [← hR', updR_n _ _ (by decide), updR_s, updR_n _ _ (by decide)]
    have r37 : R' 37 = upd (R 37) (dV a.2.2.2).1 (bI b) := by rw [← hR', updR_s, updR_n _ _ (by decide), updR_n _ _ (by decide)]
    refine ⟨h1.fr (hI _ (by decide)) (hR _ (by decide)), h2.fr (hI _ (by decide)) (hI _ (by decide)), h3.fr (hI _ (by decide)) (hR _ (by decide)), ⟨h4.fr (fun f hf => hI _ (by omega)) (fun j h1 h2 => hR _ (by omega)), ?_⟩, h6.fr (fun f hf => hI _ (by omega)) (fun j h1 h2 => hR _ (by omega)), h7.fr (hI _ (by decide)) (hI _ (by decide)) (hR _ (by decide)) (hR _ (by decide)), h8.fr (hI _ (by decide)) (hR _ (by decide)) (hR _ (by decide)), ⟨pk_us, (show (dV a.2.2.2).1 + 1 ≤ 10 by omega), fun k hk => ?_⟩, h10.fr (hI _ (by decide)) (hR _ (by decide)) (hR _ (by decide))⟩
    · rw [hR 31 (by decide)]; exact h5
    · have hk' : k < (dV a.2.2.2).1 + 1 := hk
      rw [r35, r36, r37]
      show upd _ _ _ k = nI (updN _ _ t k) ∧ upd _ _ _ k = nI (updN _ _ c k) ∧ upd _ _ _ k = bI (updB _ _ b k)
      unfold updN updB upd
      by_cases z : k = (dV a.2.2.2).1
      · simp only [if_pos z]; exact ⟨trivial, trivial, trivial⟩
      · simp only [if_neg z]; exact hg k (by omega)
  · have ee : givenA a (nI t) (nI c) b = (-1, a) := by simp only [givenA, e, e2, if_pos (show (dV a.2.2.2).1 = 10 by have : (dV a.2.2.2).1 ≤ 10 := l10; omega)]
    rw [ee]
    exact Ok.p ⟨rfl, h0⟩
theorem c_heard (h : CA K dr a σ) (ok : NoLd a.2.2.2 ∨ LdOK a.2.2.2) (v w : Int32) : Ok (fX9_heard σ (K.1 0) v w) (fun r t => r = (heardA a v w).1 ∧ CA K dr (heardA a v w).2 t) := by
  obtain ⟨h30, h4, _, _, _, hl⟩ := okC ok
  unfold fX9_heard
  refine Ok.r (ca_now h) (Ok.vE (ca_O7 h) (ca_hasTower h v) ?_)
  rcases ixc v (n := qT (dN a.2.2.2)) (by omega) with ⟨e, hn⟩ | ⟨t, ht, rfl, e⟩
  · have ee : heardA a v w = (-1, a) := by simp only [heardA, e]
    rw [decide_eq_false hn, ee]
    exact Ok.bT rfl (Ok.p ⟨rfl, h⟩)
  rw [decide_eq_true (ix_in ht (by omega))]
  have ok := hl (by omega)
  have h0 := h
  obtain ⟨I0, R0, hr0, sv⟩ := ca_SV h ok.1.1
  refine Ok.bF (by decide) (Ok.r (ca_now h) (Ok.vE (v_O sv) (v_allCells sv) (Ok.b (fun q0 => ?_) (fun q0 => ?_))))
  · obtain ⟨I, R, hv, hr⟩ := h
    refine Ok.r (kr_0_12 hv) (Ok.v (kO_34 hv) (P1 := fun r t' => r = (heardA a (nI t) w).1 ∧ CA K dr (heardA a (nI t) w).2 t') ?_ (fun r t z => Ok.p z))
    obtain ⟨h1, h2, h3, ⟨h4, h5⟩, h6, h7, h8, h9, ⟨i3, l10, hg⟩⟩ := hr
    unfold fX1_addHeard
    refine Ok.r ((kr_34_6 hv).trans (congrArg some i3)) (Ok.bI (nI_ltI (b := 10) (by omega) (by omega)) (fun q => ?_) (fun q => ?_))
    · have ee : heardA a (nI t) w = (nI ((dH a.2.2.2).1 + 1), setD a (setQ a.2.2.2 ((dH a.2.2.2).1 + 1, updN (dH a.2.2.2).2.1 (dH a.2.2.2).1 t, upd (dH a.2.2.2).2.2 (dH a.2.2.2).1 w))) := by simp only [heardA, e, if_pos q0, if_neg (show ¬ (dH a.2.2.2).1 = 10 by omega)]
      rw [ee]
      refine Ok.r (kr_34_4 hv) (Ok.r ((kr_34_6 hv).trans (congrArg some i3)) (Ok.w (hv.putN 38 _ _ rfl rfl (fun _ => rfl) q (by decide)) ?_))
      intro t1 v1
      refine Ok.r (kr_34_5 v1) (Ok.r ((kr_34_6 v1).trans (congrArg some i3)) (Ok.w (v1.putN 39 _ _ rfl rfl (fun _ => rfl) q (by decide)) ?_))
      intro t2 v2
      refine Ok.r ((kr_34_6 v2).trans (congrArg some i3)) ?_
      rw [nI_1]
      refine Ok.w (v2.putI 34 6 _ rfl (by decide) (fun _ => rfl) (Nat.le_of_ble_eq_true rfl) (fun _ => rfl)) ?_
      intro t4 v4
      refine Ok.r ((kr_34_6 v4).trans (congrArg some (pk_us : upd I (20 * 34 + 6) (nI ((dH a.2.2.2).1 + 1)) 686 = nI ((dH a.2.2.2).1 + 1)))) (Ok.p ⟨rfl, _, _, v4, ?_⟩)
      have hI : ∀ k, k ≠ 686 → upd I (20 * 34 + 6) (nI ((dH a.2.2.2).1 + 1)) k = I k := fun k hk => pk_un (by omega)
      generalize hR' : updR (updR R 38 (upd (R 38) (dH a.2.2.2).1 (nI t))) 39 (upd (updR R 38 (upd (R 38) (dH a.2.2.2).1 (nI t)) 39) (dH a.2.2.2).1 w) = R'
      have hR : ∀ k, (k < 38 ∨ 39 < k) → R' k = R k := fun k hk => by rw [← hR', updR_n _ _ (by omega), updR_n _ _ (by omega)]
      have r38 : R' 38 = upd (R 38) (dH a.2.2.2).1 (nI t) := by rw [← hR', updR_n _ _ (by decide), updR_s]
      have r39 : R' 39 = upd (R 39) (dH a.2.2.2).1 w := by rw [← hR', updR_s, updR_n _ _ (by decide)]
      refine ⟨h1.fr (hI _ (by decide)) (hR _ (by decide)), h2.fr (hI _ (by decide)) (hI _ (by decide)), h3.fr (hI _ (by decide)) (hR _ (by decide)), ⟨h4.fr (fun f hf => hI _ (by omega)) (fun j h1 h2 => hR _ (by omega)), ?_⟩, h6.fr (fun f hf => hI _ (by omega)) (fun j h1 h2 => hR _ (by omega)), h7.fr (hI _ (by decide)) (hI _ (by decide)) (hR _ (by decide)) (hR _ (by decide)), h8.fr (hI _ (by decide)) (hR _ (by decide)) (hR _ (by decide)), h9.fr (hI _ (by decide)) (hR _ (by decide)) (hR _ (by decide)) (hR _ (by decide)), ⟨pk_us, (show (dH a.2.2.2).1 + 1 ≤ 10 by omega), fun k hk => ?_⟩⟩
      · rw [hR 31 (by decide)]; exact h5
      · have hk' : k < (dH a.2.2.2).1 + 1 := hk
        rw [r38, r39]
        show upd _ _ _ k = nI (updN _ _ t k) ∧ upd _ _ _ k = upd _ _ w k
        unfold updN upd
        by_cases z : k = (dH a.2.2.2).1
        · simp only [if_pos z]; exact ⟨trivial, trivial⟩
        · simp only [if_neg z]; exact hg k (by omega)
    · have ee : heardA a (nI t) w = (-1, a) := by simp only [heardA, e, if_pos q0, if_pos (show (dH a.2.2.2).1 = 10 by have : (dH a.2.2.2).1 ≤ 10 := l10; omega)]
      rw [ee]
      exact Ok.p ⟨rfl, h0⟩
  · have ee : heardA a (nI t) w = (-1, a) := by simp only [heardA, e, if_neg q0]
    rw [ee]
    exact Ok.p ⟨rfl, h⟩
end
