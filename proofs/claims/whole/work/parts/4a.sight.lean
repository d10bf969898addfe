/-! masks of cells -/
def bitm (i : Nat) : Int32 := 1 <<< (nI i &&& 31)
def msk (p : Nat → Bool) : Nat → Int32
  | 0 => 0
  | n + 1 => if p n then msk p n ||| bitm n else msk p n
theorem bt_bitm : ∀ n, n < 32 → ∀ i, i < 32 → bt (bitm n) i = decide (i = n) := by decide +kernel
theorem bt_msk (p : Nat → Bool) : ∀ n, n ≤ 32 → ∀ i, i < 32 → bt (msk p n) i = (decide (i < n) && p i) := by
  intro n
  induction n with
  | zero => intro _ i _; simp [msk, b_0]
  | succ n ih =>
    intro hn i hi
    have h1 := ih (by omega) i hi
    unfold msk
    by_cases q : i = n
    · subst q
      by_cases hp : p i = true
      · rw [if_pos hp, b_or, bt_bitm i (by omega) i hi]; simp [hp]
      · rw [if_neg hp, h1]; simp [hp]
    · have q2 : decide (i < n + 1) = decide (i < n) := by
        by_cases z : i < n
        · simp [z, Nat.lt_succ_of_lt z]
        · simp [z]; omega
      split
      · rw [b_or, bt_bitm n (by omega) i hi, h1, q2]; simp [q]
      · rw [h1, q2]
theorem msk_cong {p q : Nat → Bool} : ∀ {n : Nat}, (∀ i, i < n → p i = q i) → msk p n = msk q n
  | 0, _ => rfl
  | n + 1, h => by
    unfold msk
    rw [msk_cong (fun i hi => h i (by omega)), h n (by omega)]
theorem msk_all : ∀ n, n < 31 → (1 <<< (nI n &&& 31)) - 1 = msk (fun _ => true) n := by decide +kernel
theorem msk_ext {x : Int32} {p : Nat → Bool} {n : Nat} (hn : n ≤ 32) (h : ∀ i, i < 32 → bt x i = (decide (i < n) && p i)) : x = msk p n := b_ext (fun i hi => (h i hi).trans (bt_msk p n hn i hi).symm)
theorem msk_or (p q : Nat → Bool) {n : Nat} (hn : n ≤ 32) : msk p n ||| msk q n = msk (fun i => p i || q i) n := by
  refine msk_ext hn (fun i hi => ?_)
  rw [b_or, bt_msk p n hn i hi, bt_msk q n hn i hi]
  cases decide (i < n) <;> simp
theorem msk_and (p q : Nat → Bool) {n : Nat} (hn : n ≤ 32) : msk p n &&& msk q n = msk (fun i => p i && q i) n := by
  refine msk_ext hn (fun i hi => ?_)
  rw [b_and, bt_msk p n hn i hi, bt_msk q n hn i hi]
  cases decide (i < n) <;> simp
theorem msk_sub (p q : Nat → Bool) {n : Nat} (hn : n ≤ 32) : msk p n &&& (msk q n ^^^ (-1)) = msk (fun i => p i && !q i) n := by
  refine msk_ext hn (fun i hi => ?_)
  rw [b_and, b_xor, bt_msk p n hn i hi, bt_msk q n hn i hi, b_m1 i hi]
  cases decide (i < n) <;> simp
theorem b_1 (i : Nat) : bt 1 i = decide (i = 0) := by
  rcases Nat.lt_or_ge i 32 with h | h
  · exact (by decide +kernel : ∀ i, i < 32 → bt 1 i = decide (i = 0)) i h
  · rw [b_big h, decide_eq_false (by omega)]
/-- the k-th bit, asked by shift and mask -/
theorem bit_at (x : Int32) {k : Nat} (hk : k < 32) : (x >>> (nI k &&& 31)) &&& 1 = bI (bt x k) := by
  apply b_ext
  intro i hi
  rw [b_and, b_sshr k hk x hi, b_1]
  by_cases h0 : i = 0
  · subst h0
    rw [if_pos (by omega), Nat.add_zero]
    cases bt x k <;> rfl
  · rw [decide_eq_false h0, Bool.and_false]
    cases bt x k
    · exact (b_0 i).symm
    · show false = bt 1 i
      rw [b_1, decide_eq_false h0]
theorem bit_msk (p : Nat → Bool) {n k : Nat} (hn : n ≤ 32) (hk : k < n) : (msk p n >>> (nI k &&& 31)) &&& 1 = bI (p k) := by
  rw [bit_at _ (by omega), bt_msk p n hn k (by omega), decide_eq_true hk, Bool.true_and]
def anyB (p : Nat → Bool) : Nat → Bool
  | 0 => false
  | n + 1 => anyB p n || p n
theorem anyB_iff {p : Nat → Bool} {n : Nat} : anyB p n = true ↔ ∃ i, i < n ∧ p i = true := by
  induction n with
  | zero => simp [anyB]
  | succ n ih =>
    simp only [anyB, Bool.or_eq_true, ih]
    constructor
    · rintro (⟨i, hi, hp⟩ | hp)
      · exact ⟨i, by omega, hp⟩
      · exact ⟨n, by omega, hp⟩
    · rintro ⟨i, hi, hp⟩
      by_cases q : i = n
      · subst q; exact Or.inr hp
      · exact Or.inl ⟨i, by omega, hp⟩
/-! how far a lamp reaches, and what is seen -/
def clI (x : Int32) : Int32 := if 0 < (if x < 9 then x else 9) then (if x < 9 then x else 9) else 0
def clN (x : Int32) : Nat := (clI x).toNatClampNeg
theorem clN_ok (x : Int32) : clI x = nI (clN x) ∧ clN x ≤ 9 := by
  have key : clI x = 0 ∨ clI x = 1 ∨ clI x = 2 ∨ clI x = 3 ∨ clI x = 4 ∨ clI x = 5 ∨ clI x = 6 ∨ clI x = 7 ∨ clI x = 8 ∨ clI x = 9 := by
    unfold clI
    by_cases h9 : x < 9
    · rw [if_pos h9]
      by_cases h0 : 0 < x
      · rw [if_pos h0]
        obtain ⟨j, hj, rfl⟩ := nI_of2 (x := x) (M := 8) (n := 8) (by decide) (fun q => by rw [Int32.lt_iff_toInt_lt] at h0 q; omega) (by
          rw [Int32.lt_iff_toInt_lt, show (9 : Int32).toInt = 9 from by decide] at h9
          rw [Int32.le_iff_toInt_le, show (8 : Int32).toInt = 8 from by decide]; omega)
        match j, hj with
        | 0, _ => simp [nI]
        | 1, _ => simp [nI]
        | 2, _ => simp [nI]
        | 3, _ => simp [nI]
        | 4, _ => simp [nI]
        | 5, _ => simp [nI]
        | 6, _ => simp [nI]
        | 7, _ => simp [nI]
        | 8, _ => simp [nI]
        | j + 9, h => omega
      · rw [if_neg h0]; simp
    · rw [if_neg h9]; simp
  unfold clN
  rcases key with h | h | h | h | h | h | h | h | h | h <;> rw [h] <;> decide
theorem f_within (σ : St) (x : Int32) : fX9_within σ x 0 9 = some (clI x, σ) := by
  unfold fX9_within
  rw [f_min, bd_some, f_max, bd_some]
  rfl
def lets (s : Scn) (t : Nat) : Nat → Int32 := fun j => match j with
  | 0 => nI (qA s t)
  | 1 => nI (qF s)
  | 2 => nI (qU s % 24)
  | 3 => nI (qG s (qP s t))
  | 4 => nI (qM s t)
  | _ => nI (qT s)
abbrev LawF : Type := (Nat → Int32) → Int32
def rch (s : Scn) (L : Option LawF) (t : Nat) : Nat := match L with
  | none => qA s t
  | some f => clN (f (lets s t))
theorem rch_le {s : Scn} (ok : ScOK s) (L : Option LawF) {t : Nat} (ht : t < qT s) : rch s L t ≤ 9 := by
  cases L with
  | none => exact ok.a ht
  | some f => exact (clN_ok _).2
def sees (s : Scn) (L : Option LawF) (t c : Nat) : Bool := clr s (qP s t) (qG s (qP s t) + qM s t) (rch s L t) c
def hidB (s : Scn) (L : Option LawF) (c : Nat) : Bool := !anyB (fun t => sees s L t c) (qT s)
theorem evS_congr {sg v : Int32} {g g' : Nat → Int32} (hg : ∀ j, j < 6 → g j = g' j) (st : List Int32) : evS sg v g st = evS sg v g' st := by
  unfold evS
  split
  · rfl
  · split
    · split
      · rfl
      · split
        · rfl
        · rename_i h0
          split
          · rfl
          · rename_i h6
            rw [hg]
            have := inb_of h0 (n := 6) (Int32.not_le.mp h6) (by decide)
            have h1 : v.toNatClampNeg = v.toInt.toNat := rfl
            obtain ⟨q1, q2⟩ := this
            omega
    · rfl
theorem evL_congr {c g g' : Nat → Int32} (hg : ∀ j, j < 6 → g j = g' j) : ∀ d k sk st, evL c g d k sk st = evL c g' d k sk st := by
  intro d
  induction d with
  | zero => intro k sk st; rfl
  | succ d ih =>
    intro k sk st
    cases sk with
    | true => exact ih _ _ _
    | false =>
      show (if c k &&& 255 = 59 then st.headD 0 else if c k &&& 255 = 63 then evL c g d (k + 1) (sk0 st) [] else evL c g d (k + 1) false (evS (c k &&& 255) (c k >>> (8 &&& 31)) g st)) = (if c k &&& 255 = 59 then st.headD 0 else if c k &&& 255 = 63 then evL c g' d (k + 1) (sk0 st) [] else evL c g' d (k + 1) false (evS (c k &&& 255) (c k >>> (8 &&& 31)) g' st))
      rw [ih, ih, evS_congr hg]
def Rul (K : Cfg) (q : Option Nat) (L : Option LawF) : Prop := (q = none ∧ L = none) ∨ ∃ i, i < K.2.2.1 ∧ q = some (K.2.1 (3 * i)) ∧ K.2.2.2.1 i < 19999 ∧ L = some (evC (K.2.2.2.1 i) (K.2.2.2.2.1 i))
section
variable {K : Cfg} {I : Nat → Int32} {R : Nat → Nat → Int32} {dr : Int64} {b : Nat} {s : Scn} {σ : St} {q : Option Nat} {L : Option LawF}
theorem cellC_let (A : Nat → Nat) (I : Nat → Int32) (dr : Int64) (lw : Nat → Option Nat) (hb : scB b) : domC (b + 5) = true ∧ scrC (b + 5) = true ∧ ∀ R, cellC A I R dr lw (b + 5) = .inl (0, 6, .inl (R (b + 5))) := by
  rcases hb with rfl | rfl | rfl <;> exact ⟨rfl, rfl, fun _ => rfl⟩
theorem CV.let (h : CV K I R dr σ) (hb : scB b) : ∃ f, σ.2.2 (K.1 (b + 5)) = some (.inl (0, 6, .inl f)) := by
  obtain ⟨R', _, hw, _⟩ := h
  obtain ⟨c1, _, c2⟩ := cellC_let K.1 I dr (lwOf K.2.1 K.2.2.1) hb
  exact ⟨R' (b + 5), (hw.2 _ c1).trans (congrArg some (c2 R'))⟩
theorem CV.putL (h : CV K I R dr σ) (hb : scB b) {f : Nat → Int32} (hf : σ.2.2 (K.1 (b + 5)) = some (.inl (0, 6, .inl f))) (i : Nat) (hi : i < 6) (v : Int32) : ∃ u, sI 0 σ (K.1 (b + 5)) (nI i) v = some u ∧ (CV K I R dr u ∧ u.2.2 (K.1 (b + 5)) = some (.inl (0, 6, .inl (upd f i v)))) := by
  obtain ⟨R', hR, hw, hl', hs⟩ := h
  obtain ⟨c1, c3, c2⟩ := cellC_let K.1 I dr (lwOf K.2.1 K.2.2.1) hb
  obtain ⟨u, e, g1, g2⟩ := hw.putA (b + 5) (nI i) v c1 c2 (inb_nI hi (by decide))
  have e2 := sI_n hf hi (by decide) v
  rw [e] at e2
  refine ⟨u, e, ⟨_, fun j hj => ?_, g1, hl'.sm g2, hs.tr (g2.mono (fun a q => Or.inl q))⟩, ?_⟩
  · rw [updR_n _ _ (fun q => by rw [q, c3] at hj; exact absurd hj (by decide)), hR j hj]
  · rw [Option.some.inj e2]; exact up_s _ _ _
theorem CV.worth (h : CV K I R dr σ) (hb : scB b) {f : Nat → Int32} (hf : σ.2.2 (K.1 (b + 5)) = some (.inl (0, 6, .inl f))) {i : Nat} (hi : i < K.2.2.1) (hn : K.2.2.2.1 i < 19999) : isO 3 σ (K.2.1 (3 * i)) = true ∧ Ok (fX3_worth σ (K.2.1 (3 * i)) (K.1 (b + 5))) (fun r u => r = evC (K.2.2.2.1 i) (K.2.2.2.2.1 i) f ∧ CV K I R dr u) := by
  obtain ⟨R', hR, hw, hl', hs⟩ := h
  obtain ⟨c1, c3, c2⟩ := cellC_let K.1 I dr (lwOf K.2.1 K.2.2.1) hb
  obtain ⟨l1, l2, st, l3⟩ := hl'.2.2 i hi
  have nA : ∀ k, domC k = true → K.1 k ≠ K.2.1 (3 * i + 2) := fun k hk e => hl'.2.1 (3 * i + 2) (by omega) ⟨k, hk, e.symm⟩
  have nL : ∀ j, j < 3 * K.2.2.1 → j ≠ 3 * i + 2 → K.2.1 j ≠ K.2.1 (3 * i + 2) := fun j hj hne e => hne (hl'.1 j (3 * i + 2) hj (by omega) e)
  refine ⟨isO_of l1, (w_worth l1 l2 l3 hf (nL _ (by omega) (by omega)) (nL _ (by omega) (by omega)) (nA _ c1) hn).imp ?_⟩
  rintro r t ⟨rfl, hsm, f', hf'⟩
  refine ⟨rfl, R', hR, hw.sm hsm (fun k hk => nA k hk), ⟨hl'.1, hl'.2.1, fun j hj => ?_⟩, hs.tr (hsm.mono (fun a q => Or.inr ⟨3 * i + 2, by omega, q⟩))⟩
  obtain ⟨m1, m2, st2, m3⟩ := hl'.2.2 j hj
  refine ⟨(hsm.2 _ (nL _ (by omega) (by omega))).trans m1, (hsm.2 _ (nL _ (by omega) (by omega))).trans m2, ?_⟩
  by_cases e : j = i
  · subst e; exact ⟨f', hf'⟩
  · exact ⟨st2, (hsm.2 _ (nL _ (by omega) (by omega))).trans m3⟩
theorem v_eye (h : SV K I R dr b s σ) {t : Nat} (ht : t < qT s) : fX7_eye σ (K.1 b) (nI t) = some (nI (qG s (qP s t) + qM s t), σ) := by
  have hp := h.2.2.2.p ht
  unfold fX7_eye
  simp only [v_ground h, v_places h, v_P h ht, v_G h hp, v_masts h, v_M h ht, Option.bind_some, nI_add]
theorem v_reach (h : SV K I R dr b s σ) {t : Nat} (ht : t < qT s) (hq : Rul K q L) : Ok (fX7_reach σ (K.1 b) (nI t) q) (fun r u => r = nI (rch s L t) ∧ SV K I R dr b s u) := by
  have ok := h.2.2.2
  have hp := ok.p ht
  have hu := ok.u
  rcases hq with ⟨rfl, rfl⟩ | ⟨i, hi, rfl, hn, rfl⟩
  · exact Ok.r (v_lamps h) (Ok.r (v_A h ht) (Ok.p ⟨rfl, h⟩))
  · obtain ⟨f0, hf0⟩ := h.1.let h.2.1
    have wr : ∀ {τ : St} {f : Nat → Int32} (hτ : SV K I R dr b s τ) (_ : τ.2.2 (K.1 (b + 5)) = some (.inl (0, 6, .inl f))) (j : Nat) (_ : j < 6) (v : Int32), ∃ u, sI 0 τ (K.1 (b + 5)) (nI j) v = some u ∧ (SV K I R dr b s u ∧ u.2.2 (K.1 (b + 5)) = some (.inl (0, 6, .inl (upd f j v)))) := by
      intro τ f hτ hf j hj v
      obtain ⟨u, e, g1, g2⟩ := hτ.1.putL hτ.2.1 hf j hj v
      exact ⟨u, e, ⟨g1, hτ.2⟩, g2⟩
    refine Ok.r (v_letters h) (Ok.r (v_lamps h) (Ok.r (v_A h ht) (Ok.w (wr h hf0 0 (by decide) _) ?_)))
    rintro t1 ⟨h1, f1⟩
    refine Ok.r (v_letters h1) (Ok.r (v_fog h1) (Ok.w (wr h1 f1 1 (by decide) _) ?_))
    rintro t2 ⟨h2, f2⟩
    refine Ok.r (v_letters h2) (Ok.r (v_hour h2) (Ok.bF (by decide) ?_))
    rw [show nI (qU s) - nI (qU s) / 24 * 24 = nI (qU s % 24) from pk_rem (d := 24) (by omega) (by omega) (by omega)]
    refine Ok.w (wr h2 f2 2 (by decide) _) ?_
    rintro t3 ⟨h3, f3⟩
    refine Ok.r (v_letters h3) (Ok.r (v_ground h3) (Ok.r (v_places h3) (Ok.r (v_P h3 ht) (Ok.r (v_G h3 hp) (Ok.w (wr h3 f3 3 (by decide) _) ?_)))))
    rintro t4 ⟨h4, f4⟩
    refine Ok.r (v_letters h4) (Ok.r (v_masts h4) (Ok.r (v_M h4 ht) (Ok.w (wr h4 f4 4 (by decide) _) ?_)))
    rintro t5 ⟨h5, f5⟩
    refine Ok.r (v_letters h5) (Ok.r (v_towers h5) (Ok.w (wr h5 f5 5 (by decide) _) ?_))
    rintro t6 ⟨h6, f6⟩
    obtain ⟨o6, w6⟩ := h6.1.worth h6.2.1 f6 hi hn
    refine Ok.r (v_letters h6) (Ok.v o6 w6 ?_)
    rintro r7 t7 ⟨rfl, h7⟩
    refine Ok.cE (f_within _ _) (Ok.p ⟨?_, h7, h6.2⟩)
    have e : evC (K.2.2.2.1 i) (K.2.2.2.2.1 i) (upd (upd (upd (upd (upd (upd f0 0 (nI (qA s t))) 1 (nI (qF s))) 2 (nI (qU s % 24))) 3 (nI (qG s (qP s t)))) 4 (nI (qM s t))) 5 (nI (qT s))) = evC (K.2.2.2.1 i) (K.2.2.2.2.1 i) (lets s t) := by
      refine evL_congr (fun j hj => ?_) _ _ _ _
      match j, hj with
      | 0, _ => rfl
      | 1, _ => rfl
      | 2, _ => rfl
      | 3, _ => rfl
      | 4, _ => rfl
      | 5, _ => rfl
      | j + 6, h => omega
    rw [e]
    exact (clN_ok _).1
theorem v_beholds (h : SV K I R dr b s σ) {t c : Nat} (ht : t < qT s) (hc : c < qC s) (hq : Rul K q L) : Ok (fX7_beholds σ (K.1 b) (nI t) (nI c) q) (fun r u => r = bI (sees s L t c) ∧ SV K I R dr b s u) := by
  have ok := h.2.2.2
  have hp := ok.p ht
  have hm := ok.m ht
  have hg := ok.g hp
  refine Ok.r (v_places h) (Ok.r (v_P h ht) (Ok.vE (v_O h) (v_eye h ht) (Ok.v (v_O h) (v_reach h ht hq) ?_)))
  rintro r1 t1 ⟨rfl, h1⟩
  refine Ok.vE (v_O h1) (v_isClear h1 hp hc (by omega) (rch_le ok L ht)) (Ok.bT (bI_01 _) (Ok.p ⟨rfl, h1⟩))
theorem v_sightFrom (h : SV K I R dr b s σ) {a e r : Nat} (ha : a < qC s) (he : e ≤ 18) (hr : r ≤ 9) : fX7_sightFrom σ (K.1 b) (nI a) (nI e) (nI r) = some (msk (fun c => clr s a e r c) (qC s), σ) := by
  have h30 := h.2.2.2.c30
  refine Ok.toE ?_
  unfold fX7_sightFrom
  refine Ok.f3 (qC s) 0 (fun k x y t => x = msk (fun c => clr s a e r c) k ∧ y = nI k ∧ t = σ) (by omega) (by omega) ⟨rfl, rfl, rfl⟩ ?_ ?_
  · rintro j k x y t hk ⟨rfl, rfl, rfl⟩ hj
    refine Ok.r (v_cells h) (Ok.bF (nI_ge hk (by omega)) (Ok.vE (v_O h) (v_isClear h ha hk he hr) (Ok.j1 ?_)))
    rw [nI_1]
    refine Ok.bI bI_0 (fun hc => ?_) (fun hc => ?_)
    · exact hj _ _ _ ⟨by simp [msk, hc], rfl, rfl⟩
    · exact hj _ _ _ ⟨by simp [msk, hc, bitm], rfl, rfl⟩
  · rintro j x y t ⟨rfl, rfl, rfl⟩
    exact Ok.r (v_cells h) (Ok.bT (nI_le (Nat.le_refl _) (by omega)) (Ok.p ⟨rfl, rfl⟩))
theorem v_sight (h : SV K I R dr b s σ) {t : Nat} (ht : t < qT s) (hq : Rul K q L) : Ok (fX7_sight σ (K.1 b) (nI t) q) (fun r u => r = msk (sees s L t) (qC s) ∧ SV K I R dr b s u) := by
  have ok := h.2.2.2
  have hp := ok.p ht
  have hm := ok.m ht
  have hg := ok.g hp
  refine Ok.r (v_places h) (Ok.r (v_P h ht) (Ok.vE (v_O h) (v_eye h ht) (Ok.v (v_O h) (v_reach h ht hq) ?_)))
  rintro r1 t1 ⟨rfl, h1⟩
  exact Ok.vE (v_O h1) (v_sightFrom h1 hp (by omega) (rch_le ok L ht)) (Ok.p ⟨rfl, h1⟩)
theorem v_allCells (h : SV K I R dr b s σ) : fX7_allCells σ (K.1 b) = some (msk (fun _ => true) (qC s), σ) := by
  have h30 := h.2.2.2.c30
  unfold fX7_allCells
  rw [v_cells h, Option.bind_some, msk_all _ (by omega)]
theorem v_allTowers (h : SV K I R dr b s σ) : fX7_allTowers σ (K.1 b) = some (msk (fun _ => true) (qT s), σ) := by
  have h30 := h.2.2.2.t
  unfold fX7_allTowers
  rw [v_towers h, Option.bind_some, msk_all _ (by omega)]
theorem v_hidden (h : SV K I R dr b s σ) (hq : Rul K q L) : Ok (fX7_hidden σ (K.1 b) q) (fun r u => r = msk (hidB s L) (qC s) ∧ SV K I R dr b s u) := by
  have h30 := h.2.2.2.c30
  have h4 := h.2.2.2.t
  refine Ok.vE (v_O h) (v_allCells h) (Ok.f3 (qT s) 0 (fun k x y t => x = msk (fun c => !anyB (fun t => sees s L t c) k) (qC s) ∧ y = nI k ∧ SV K I R dr b s t) (by omega) (by omega) ⟨rfl, rfl, h⟩ ?_ ?_)
  · rintro j k x y t hk ⟨rfl, rfl, h1⟩ hj
    refine Ok.r (v_towers h1) (Ok.bF (nI_ge hk (by omega)) (Ok.v (v_O h1) (v_sight h1 hk hq) ?_))
    rintro r2 t2 ⟨rfl, h2⟩
    refine Ok.n ?_
    rw [nI_1]
    refine hj _ _ _ ⟨?_, rfl, h2⟩
    rw [msk_sub _ _ (by omega)]
    refine msk_cong (fun i hi => ?_)
    simp only [anyB, Bool.not_or]
  · rintro j x y t ⟨rfl, rfl, h1⟩
    exact Ok.r (v_towers h1) (Ok.bT (nI_le (Nat.le_refl _) (by omega)) (Ok.p ⟨rfl, h1⟩))
theorem v_isSeen (h : SV K I R dr b s σ) {c : Nat} (hc : c < qC s) (hq : Rul K q L) : Ok (fX7_isSeen σ (K.1 b) (nI c) q) (fun r u => r = bI (!hidB s L c) ∧ SV K I R dr b s u) := by
  have h4 := h.2.2.2.t
  unfold fX7_isSeen
  refine Ok.f2 (qT s) 0 (fun k x t => x = nI k ∧ anyB (fun t => sees s L t c) k = false ∧ SV K I R dr b s t) (by omega) (by omega) ⟨rfl, rfl, h⟩ ?_ ?_
  · rintro j k x t hk ⟨rfl, hn, h1⟩ hj
    refine Ok.r (v_towers h1) (Ok.bF (nI_ge hk (by omega)) (Ok.v (v_O h1) (v_beholds h1 hk hc hq) ?_))
    rintro r2 t2 ⟨rfl, h2⟩
    rw [nI_1]
    refine Ok.bI bI_0 (fun hs => ?_) (fun hs => ?_)
    · exact hj _ _ ⟨rfl, by simp [anyB, hn, hs], h2⟩
    · refine Ok.p ⟨?_, h2⟩
      have : anyB (fun t => sees s L t c) (qT s) = true := anyB_iff.mpr ⟨k, hk, by simpa using hs⟩
      simp [hidB, this, bI]
  · rintro j x t ⟨rfl, hn, h1⟩
    refine Ok.r (v_towers h1) (Ok.bT (nI_le (Nat.le_refl _) (by omega)) (Ok.p ⟨?_, h1⟩))
    simp [hidB, hn, bI]
theorem v_union (h : SV K I R dr b s σ) (m : Int32) (hq : Rul K q L) : Ok (fX7_unionOfSights σ (K.1 b) m q) (fun r u => r = msk (fun c => anyB (fun t => bt m t && sees s L t c) (qT s)) (qC s) ∧ SV K I R dr b s u) := by
  have h30 := h.2.2.2.c30
  have h4 := h.2.2.2.t
  unfold fX7_unionOfSights
  refine Ok.f3 (qT s) 0 (fun k x y t => x = msk (fun c => anyB (fun t => bt m t && sees s L t c) k) (qC s) ∧ y = nI k ∧ SV K I R dr b s t) (by omega) (by omega) ⟨?_, rfl, h⟩ ?_ ?_
  · refine (msk_ext (p := fun _ => false) (n := qC s) (by omega) (fun i _ => ?_))
    rw [b_0, Bool.and_false]
  · rintro j k x y t hk ⟨rfl, rfl, h1⟩ hj
    refine Ok.r (v_towers h1) (Ok.bF (nI_ge hk (by omega)) (Ok.j2 ?_))
    rw [bit_at m (by omega), nI_1]
    refine Ok.bI bI_1 (fun hb => ?_) (fun hb => ?_)
    · refine Ok.v (v_O h1) (v_sight h1 hk hq) ?_
      rintro r2 t2 ⟨rfl, h2⟩
      refine Ok.n (hj _ _ _ ⟨?_, rfl, h2⟩)
      rw [msk_or _ _ (by omega)]
      exact msk_cong (fun i hi => by simp [anyB, hb])
    · exact hj _ _ _ ⟨msk_cong (fun i hi => by simp [anyB, hb]), rfl, h1⟩
  · rintro j x y t ⟨rfl, rfl, h1⟩
    exact Ok.r (v_towers h1) (Ok.bT (nI_le (Nat.le_refl _) (by omega)) (Ok.p ⟨rfl, h1⟩))
end
