/-! The tape's reader -/
def skF (T : Tap) : Nat → Nat → Nat
  | 0, p => p
  | d + 1, p => if p < T.1 ∧ T.2 p = 32 then skF T d (p + 1) else p
/-- the first byte from p on that is no blank -/
def skT (T : Tap) (p : Nat) : Nat := skF T (T.1 - p) p
def atT (T : Tap) (p : Nat) : Int32 := if p < T.1 then T.2 p else -1
theorem sk_s (T : Tap) {p : Nat} (h : p < T.1) (e : T.2 p = 32) : skT T p = skT T (p + 1) := by
  unfold skT
  obtain ⟨d, hd⟩ : ∃ d, T.1 - p = d + 1 := ⟨T.1 - p - 1, by omega⟩
  rw [hd, show T.1 - (p + 1) = d by omega, skF, if_pos ⟨h, e⟩]
theorem sk_n (T : Tap) {p : Nat} (h : ¬ (p < T.1 ∧ T.2 p = 32)) : skT T p = p := by
  unfold skT
  cases T.1 - p with
  | zero => rfl
  | succ d => rw [skF, if_neg h]
theorem sk_all (T : Tap) : ∀ d p, T.1 - p = d → p ≤ skT T p ∧ (p ≤ T.1 → skT T p ≤ T.1) ∧ ¬ (skT T p < T.1 ∧ T.2 (skT T p) = 32)
  | 0, p, hd => by
    have h : ¬ (p < T.1 ∧ T.2 p = 32) := fun q => by omega
    rw [sk_n T h]
    exact ⟨Nat.le_refl _, fun q => q, h⟩
  | d + 1, p, hd => by
    by_cases h : p < T.1 ∧ T.2 p = 32
    · rw [sk_s T h.1 h.2]
      obtain ⟨h1, h2, h3⟩ := sk_all T d (p + 1) (by omega)
      exact ⟨by omega, fun q => h2 (by omega), h3⟩
    · rw [sk_n T h]
      exact ⟨Nat.le_refl _, fun q => q, h⟩
theorem sk_le (T : Tap) {p : Nat} (h : p ≤ T.1) : skT T p ≤ T.1 := (sk_all T _ p rfl).2.1 h
theorem sk_ge (T : Tap) (p : Nat) : p ≤ skT T p := (sk_all T _ p rfl).1
theorem sk_sk (T : Tap) (p : Nat) : skT T (skT T p) = skT T p := sk_n T (sk_all T _ p rfl).2.2
def dgB (x : Int32) : Bool := decide (¬ x < 48 ∧ ¬ 57 < x)
theorem f8_dg (σ : St) (x : Int32) : fX8_isDigit σ x = some (bI (dgB x), σ) := by
  unfold fX8_isDigit dgB
  by_cases h : x < 48
  · rw [if_pos h, decide_eq_false (fun q => q.1 h)]; rfl
  · rw [if_neg h]
    by_cases h2 : 57 < x
    · rw [if_pos h2, decide_eq_false (fun q => q.2 h2)]; rfl
    · rw [if_neg h2, decide_eq_true ⟨h, h2⟩]; rfl
theorem f10_dg (σ : St) (x : Int32) : fX10_isDigit σ x = some (bI (dgB x), σ) := f8_dg σ x
theorem dg_lt (T : Tap) {p : Nat} (h : dgB (atT T p) = true) : p < T.1 := by
  unfold atT at h
  by_cases q : p < T.1
  · exact q
  · rw [if_neg q] at h; exact absurd h (by decide)
/-- up to d digits from p on, after the number v -/
def nuF (T : Tap) : Nat → Int32 → Nat → Int32 × Nat
  | 0, v, p => (v, p)
  | d + 1, v, p => if dgB (atT T p) = true then nuF T d (v * 10 + T.2 p - 48) (p + 1) else (v, p)
theorem nuF_y (T : Tap) (d : Nat) (v : Int32) (p : Nat) (h : dgB (atT T p) = true) : nuF T (d + 1) v p = nuF T d (v * 10 + T.2 p - 48) (p + 1) := by rw [nuF, if_pos h]
theorem nuF_n (T : Tap) (d : Nat) (v : Int32) (p : Nat) (h : ¬ dgB (atT T p) = true) : nuF T d v p = (v, p) := by
  cases d with
  | zero => rfl
  | succ d => rw [nuF, if_neg h]
theorem nuF_le (T : Tap) : ∀ d v p, p ≤ T.1 → (nuF T d v p).2 ≤ T.1 ∧ p ≤ (nuF T d v p).2
  | 0, v, p, h => ⟨h, Nat.le_refl _⟩
  | d + 1, v, p, h => by
    by_cases q : dgB (atT T p) = true
    · rw [nuF_y T d v p q]
      obtain ⟨h1, h2⟩ := nuF_le T d (v * 10 + T.2 p - 48) (p + 1) (dg_lt T q)
      exact ⟨h1, by omega⟩
    · rw [nuF_n T _ v p q]; exact ⟨h, Nat.le_refl _⟩
/-- a number of at most m digits: its worth, the place behind it, the fault -/
def numT (T : Tap) (m p : Nat) : Int32 × Nat × Option Nat := if dgB (atT T (skT T p)) = true then ((nuF T m 0 (skT T p)).1, (nuF T m 0 (skT T p)).2, if dgB (atT T (nuF T m 0 (skT T p)).2) = true then some (nuF T m 0 (skT T p)).2 else none) else (0, skT T p, some (skT T p))
def bndT (T : Tap) (lo hi : Int32) (p : Nat) : Int32 × Nat × Option Nat := match (numT T 2 p).2.2 with
  | none => if (numT T 2 p).1 < lo ∨ hi < (numT T 2 p).1 then ((numT T 2 p).1, (numT T 2 p).2.1, some ((numT T 2 p).2.1 - 1)) else numT T 2 p
  | some _ => numT T 2 p
/-- what the reader says on something that doesn't speak of the tape's place and fault -/
def Ind (X : (Nat → Int32) → (Nat → Nat → Int32) → Prop) : Prop := ∀ I R v, X I R → X (upd I 22 v) R ∧ X (upd I 23 v) R
def TR (K : Cfg) (dr : Int64) (a : Abs) (X : (Nat → Int32) → (Nat → Nat → Int32) → Prop) (p : Nat) (f : Option Nat) (σ : St) : Prop := ∃ I R, CV K I R dr σ ∧ CR K I R a ∧ X I R ∧ I 23 = nI p ∧ I 22 = oI f ∧ p ≤ a.1.1 ∧ ∀ q, f = some q → q < 1000
section
variable {K : Cfg} {dr : Int64} {a : Abs} {σ : St} {X : (Nat → Int32) → (Nat → Nat → Int32) → Prop} {p : Nat} {f : Option Nat}
theorem TR.ca (h : TR K dr a X p f σ) : CA K dr a σ := by
  obtain ⟨I, R, h1, h2, _⟩ := h
  exact ⟨I, R, h1, h2⟩
theorem TR.O (h : TR K dr a X p f σ) : isO 8 σ (K.1 1) = true := by
  obtain ⟨I, R, h1, _⟩ := h
  exact kO_1 h1
theorem TR.l240 (h : TR K dr a X p f σ) : a.1.1 ≤ 240 ∧ p ≤ a.1.1 := by
  obtain ⟨I, R, h1, h2, _, _, _, h3, _⟩ := h
  exact ⟨h2.1.2.1, h3⟩
theorem TR.rd (h : TR K dr a X p f σ) : gR 8 0 σ (K.1 1) = some (K.1 2) ∧ gI 8 1 σ (K.1 1) = some (nI a.1.1) ∧ gI 8 2 σ (K.1 1) = some (oI f) ∧ gI 8 3 σ (K.1 1) = some (nI p) := by
  obtain ⟨I, R, h1, h2, _, h3, h4, _⟩ := h
  exact ⟨kr_1_0 h1, (kr_1_1 h1).trans (congrArg some h2.1.1), (kr_1_2 h1).trans (congrArg some h4), (kr_1_3 h1).trans (congrArg some h3)⟩
theorem TR.by (h : TR K dr a X p f σ) {i : Nat} (hi : i < a.1.1) : aI 0 σ (K.1 2) (nI i) = some (a.1.2 i) := by
  obtain ⟨I, R, h1, h2, _⟩ := h
  exact (ka_2 h1 (by have := h2.1.2.1; omega)).trans (congrArg some (h2.1.2.2 i hi))
theorem TR.putP (h : TR K dr a X p f σ) (hX : Ind X) {q : Nat} (hq : q ≤ a.1.1) : ∃ t, pV 8 3 σ (K.1 1) (.int (nI q)) = some t ∧ TR K dr a X q f t := by
  obtain ⟨I, R, h1, h2, h3, h4, h5, h6, h7⟩ := h
  obtain ⟨t, e, g⟩ := h1.putI 1 3 (nI q) rfl (by decide) (fun _ => rfl) (Nat.le_of_ble_eq_true rfl) (fun _ => rfl)
  refine ⟨t, e, upd I 23 (nI q), R, g, h2.scr (fun k hk => pk_un (fun z => hk (by unfold scI; omega))) (fun _ _ => rfl), (hX I R _ h3).2, pk_us, ?_, hq, h7⟩
  rw [pk_un (by decide)]; exact h5
theorem TR.putF (h : TR K dr a X p f σ) (hX : Ind X) {g : Option Nat} (hg : ∀ q, g = some q → q < 1000) : ∃ t, pV 8 2 σ (K.1 1) (.int (oI g)) = some t ∧ TR K dr a X p g t := by
  obtain ⟨I, R, h1, h2, h3, h4, h5, h6, h7⟩ := h
  obtain ⟨t, e, w⟩ := h1.putI 1 2 (oI g) rfl (by decide) (fun _ => rfl) (Nat.le_of_ble_eq_true rfl) (fun _ => rfl)
  refine ⟨t, e, upd I 22 (oI g), R, w, h2.scr (fun k hk => pk_un (fun z => hk (by unfold scI; omega))) (fun _ _ => rfl), (hX I R _ h3).1, ?_, pk_us, h6, hg⟩
  rw [pk_un (by decide)]; exact h4
theorem oI_m1 {f : Option Nat} (h : ∀ q, f = some q → q < 1000) : oI f = -1 ↔ f = none := by
  cases f with
  | none => exact ⟨fun _ => rfl, fun _ => rfl⟩
  | some q =>
    refine ⟨fun e => ?_, fun e => by cases e⟩
    have := h q rfl
    have e2 := congrArg Int32.toInt e
    rw [show oI (some q) = nI q from rfl, nI_toInt (by omega)] at e2
    have : (-1 : Int32).toInt = -1 := by decide
    omega
theorem TR.f1 (h : TR K dr a X p f σ) : ∀ q, f = some q → q < 1000 := by
  obtain ⟨I, R, h1, h2, h3, h4, h5, h6, h7⟩ := h
  exact h7
theorem t_peek (h : TR K dr a X p none σ) (hX : Ind X) : Ok (fX8_peek σ (K.1 1)) (fun r t => r = atT a.1 (skT a.1 p) ∧ TR K dr a X (skT a.1 p) none t) := by
  obtain ⟨r1, r2, r3, r4⟩ := h.rd
  obtain ⟨l1, l2⟩ := h.l240
  unfold fX8_peek
  refine Ok.r r3 (Ok.bT rfl (Ok.r r4 ?_))
  refine Ok.f2 a.1.1 p (fun k x t => x = nI k ∧ TR K dr a X k none t ∧ skT a.1 p = skT a.1 k) l2 (by omega) ⟨rfl, h, rfl⟩ ?_ ?_
  · rintro j k x t hk ⟨rfl, g, e⟩ hj
    obtain ⟨g1, g2, g3, g4⟩ := g.rd
    refine Ok.r g2 (Ok.j1 (Ok.bF (nI_ge hk (by omega)) (Ok.r g1 (Ok.r (g.by hk) (Ok.b (fun z => ?_) (fun z => ?_))))))
    · rw [nI_1]
      refine Ok.w (g.putP hX (q := k + 1) (by omega)) ?_
      intro t2 g2
      exact hj _ _ ⟨rfl, g2, by rw [e, sk_s a.1 hk z]⟩
    · have ek : skT a.1 k = k := sk_n a.1 (fun q => z q.2)
      refine Ok.r g4 (Ok.r g2 (Ok.bF (nI_ge hk (by omega)) (Ok.r g1 (Ok.r g4 (Ok.r (g.by hk) (Ok.p ?_))))))
      rw [e, ek]
      exact ⟨by unfold atT; rw [if_pos hk], g⟩
  · rintro j x t ⟨rfl, g, e⟩
    obtain ⟨g1, g2, g3, g4⟩ := g.rd
    have ek : skT a.1 a.1.1 = a.1.1 := sk_n a.1 (fun q => by omega)
    refine Ok.r g2 (Ok.j1 (Ok.bT (nI_le (Nat.le_refl _) (by omega)) (Ok.r g4 (Ok.r g2 (Ok.bT (nI_le (Nat.le_refl _) (by omega)) (Ok.p ?_))))))
    rw [e, ek]
    exact ⟨by unfold atT; rw [if_neg (by omega)], g⟩
theorem t_peekF {q : Nat} (h : TR K dr a X p (some q) σ) : fX8_peek σ (K.1 1) = some (-1, σ) := by
  obtain ⟨r1, r2, r3, r4⟩ := h.rd
  unfold fX8_peek
  rw [r3, Option.bind_some, if_neg (fun e => by cases (oI_m1 h.f1).mp e)]
theorem t_step (h : TR K dr a X p f σ) (hX : Ind X) : Ok (fX8_step σ (K.1 1)) (fun _ t => TR K dr a X (if p < a.1.1 then p + 1 else p) f t) := by
  obtain ⟨r1, r2, r3, r4⟩ := h.rd
  obtain ⟨l1, l2⟩ := h.l240
  unfold fX8_step
  refine Ok.r r4 (Ok.r r2 (Ok.bI (nI_leI (by omega) (by omega)) (fun z => ?_) (fun z => ?_)))
  · exact Ok.p (by rw [if_neg (by omega)]; exact h)
  · refine Ok.r r4 ?_
    rw [nI_1]
    refine Ok.w (h.putP hX (q := p + 1) (by omega)) ?_
    intro t g
    exact Ok.p (by rw [if_pos (by omega)]; exact g)
theorem t_fail (h : TR K dr a X p none σ) (hX : Ind X) : Ok (fX8_fail σ (K.1 1)) (fun _ t => TR K dr a X p (some p) t) := by
  obtain ⟨r1, r2, r3, r4⟩ := h.rd
  obtain ⟨l1, l2⟩ := h.l240
  unfold fX8_fail
  refine Ok.r r3 (Ok.bT rfl (Ok.r r4 (Ok.w (h.putF hX (g := some p) (fun q e => by cases e; omega)) ?_)))
  intro t g
  exact Ok.p g
theorem t_failF {q : Nat} (h : TR K dr a X p (some q) σ) : fX8_fail σ (K.1 1) = some ((), σ) := by
  obtain ⟨r1, r2, r3, r4⟩ := h.rd
  unfold fX8_fail
  rw [r3, Option.bind_some, if_neg (fun e => by cases (oI_m1 h.f1).mp e)]
theorem t_rewind (h : TR K dr a X p f σ) (hX : Ind X) : Ok (fX8_rewind σ (K.1 1)) (fun _ t => TR K dr a X 0 none t) := by
  unfold fX8_rewind
  refine Ok.w (h.putP hX (q := 0) (by omega)) ?_
  intro t g
  refine Ok.w (g.putF hX (g := none) (fun q e => by cases e)) ?_
  intro t2 g2
  exact Ok.p g2
theorem t_number (h : TR K dr a X p none σ) (hX : Ind X) {m : Nat} (hm : m < 9) : Ok (fX8_number σ (K.1 1) (nI m)) (fun r t => r = (numT a.1 m p).1 ∧ TR K dr a X (numT a.1 m p).2.1 (numT a.1 m p).2.2 t) := by
  unfold fX8_number
  refine Ok.v h.O (t_peek h hX) ?_
  rintro r1 t1 ⟨rfl, g1⟩
  refine Ok.cE (f8_dg t1 _) (Ok.bI bI_0 (fun z => ?_) (fun z => ?_))
  · refine Ok.v g1.O (t_fail g1 hX) ?_
    intro w t2 g2
    have e : numT a.1 m p = (0, skT a.1 p, some (skT a.1 p)) := by unfold numT; rw [z]; rfl
    exact Ok.p (by rw [e]; exact ⟨rfl, g2⟩)
  · have e : numT a.1 m p = ((nuF a.1 m 0 (skT a.1 p)).1, (nuF a.1 m 0 (skT a.1 p)).2, if dgB (atT a.1 (nuF a.1 m 0 (skT a.1 p)).2) = true then some (nuF a.1 m 0 (skT a.1 p)).2 else none) := by unfold numT; rw [if_pos (by simpa using z)]
    obtain ⟨l1, l2⟩ := g1.l240
    rw [e]
    generalize hr : nuF a.1 m 0 (skT a.1 p) = rr
    refine Ok.f3 m 0 (fun k x y t => y = nI k ∧ ∃ q, TR K dr a X q none t ∧ nuF a.1 (m - k) x q = rr) (by omega) (by omega) ⟨rfl, _, g1, hr⟩ ?_ ?_
    · rintro j k x y t hk ⟨rfl, q, g, e2⟩ hj
      obtain ⟨g1, g2, g3, g4⟩ := g.rd
      obtain ⟨d, hd⟩ : ∃ d, m - k = d + 1 := ⟨m - k - 1, by omega⟩
      have hd' : m - (k + 1) = d := by omega
      obtain ⟨b1, b2⟩ := g.l240
      refine Ok.j1 (Ok.bF (nI_ge hk (by omega)) (Ok.r g4 (Ok.r g2 (Ok.bI (nI_leI (by omega) (by omega)) (fun z1 => ?_) (fun z1 => ?_)))))
      · have nd : ¬ dgB (atT a.1 q) = true := fun w => by have := dg_lt a.1 w; omega
        rw [nuF_n _ _ _ _ nd] at e2
        refine Ok.r g4 (Ok.r g2 (Ok.bT (nI_le z1 (by omega)) (Ok.p ?_)))
        rw [← e2]
        exact ⟨rfl, by rw [if_neg nd]; exact g⟩
      · have hq : q < a.1.1 := by omega
        have ea : atT a.1 q = a.1.2 q := by unfold atT; rw [if_pos hq]
        refine Ok.r g1 (Ok.r g4 (Ok.r (g.by hq) (Ok.cE (f8_dg t _) (Ok.bI bI_0 (fun z2 => ?_) (fun z2 => ?_)))))
        · have nd : ¬ dgB (atT a.1 q) = true := by rw [ea, z2]; decide
          rw [nuF_n _ _ _ _ nd] at e2
          refine Ok.r g4 (Ok.r g2 (Ok.bF (nI_ge hq (by omega)) (Ok.r g1 (Ok.r g4 (Ok.r (g.by hq) (Ok.cE (f8_dg t _) (Ok.bT (by rw [z2]; rfl) (Ok.p ?_))))))))
          rw [← e2]
          exact ⟨rfl, by rw [if_neg nd]; exact g⟩
        · have yd : dgB (atT a.1 q) = true := by rw [ea]; simpa using z2
          rw [hd, nuF_y _ _ _ _ yd] at e2
          refine Ok.r g1 (Ok.r g4 (Ok.r (g.by hq) (Ok.n (Ok.r g4 ?_))))
          rw [nI_1]
          refine Ok.w (g.putP hX (q := q + 1) (by omega)) ?_
          intro t2 g5
          rw [nI_1]
          exact hj _ _ _ ⟨rfl, q + 1, g5, by rw [hd']; exact e2⟩
    · rintro j x y t ⟨rfl, q, g, e2⟩
      obtain ⟨g1, g2, g3, g4⟩ := g.rd
      obtain ⟨b1, b2⟩ := g.l240
      rw [Nat.sub_self] at e2
      have e3 : rr = (x, q) := e2.symm
      rw [e3]
      refine Ok.j1 (Ok.bT (nI_le (Nat.le_refl _) (by omega)) (Ok.r g4 (Ok.r g2 (Ok.bI (nI_leI (by omega) (by omega)) (fun z1 => ?_) (fun z1 => ?_)))))
      · have nd : ¬ dgB (atT a.1 q) = true := fun w => by have := dg_lt a.1 w; omega
        exact Ok.p ⟨rfl, by rw [if_neg nd]; exact g⟩
      · have hq : q < a.1.1 := by omega
        have ea : atT a.1 q = a.1.2 q := by unfold atT; rw [if_pos hq]
        refine Ok.r g1 (Ok.r g4 (Ok.r (g.by hq) (Ok.cE (f8_dg t _) (Ok.bI bI_0 (fun z2 => ?_) (fun z2 => ?_)))))
        · have nd : ¬ dgB (atT a.1 q) = true := by rw [ea, z2]; decide
          exact Ok.p ⟨rfl, by rw [if_neg nd]; exact g⟩
        · have yd : dgB (atT a.1 q) = true := by rw [ea]; simpa using z2
          refine Ok.v g.O (t_fail g hX) ?_
          intro w t2 g5
          exact Ok.p ⟨rfl, by rw [if_pos yd]; exact g5⟩
theorem t_bounded (h : TR K dr a X p none σ) (hX : Ind X) (lo hi : Int32) : Ok (fX8_bounded σ (K.1 1) lo hi) (fun r t => r = (bndT a.1 lo hi p).1 ∧ TR K dr a X (bndT a.1 lo hi p).2.1 (bndT a.1 lo hi p).2.2 t) := by
  unfold fX8_bounded
  refine Ok.v h.O (t_number h hX (m := 2) (by decide)) ?_
  rintro r1 t1 ⟨rfl, g1⟩
  obtain ⟨r1, r2, r3, r4⟩ := g1.rd
  obtain ⟨b1, b2⟩ := g1.l240
  refine Ok.r r3 (Ok.bI (oI_m1 g1.f1) (fun z => ?_) (fun z => ?_))
  · have hp : 1 ≤ (numT a.1 2 p).2.1 := by
      have z' := z
      unfold numT at z' ⊢
      by_cases q : dgB (atT a.1 (skT a.1 p)) = true
      · rw [if_pos q]
        show 1 ≤ (nuF a.1 2 0 (skT a.1 p)).2
        rw [nuF_y _ _ _ _ q]
        have := (nuF_le a.1 1 (0 * 10 + a.1.2 (skT a.1 p) - 48) (skT a.1 p + 1) (dg_lt a.1 q)).2
        omega
      · rw [if_neg q] at z'; cases z'
    have out : ((numT a.1 2 p).1 < lo ∨ hi < (numT a.1 2 p).1) → Ok ((gI 8 3 t1 (K.1 1)).bind fun x5 => (pV 8 2 t1 (K.1 1) (.int (x5 - 1))).bind (fun t6 => some ((numT a.1 2 p).1, t6))) (fun r t => r = (bndT a.1 lo hi p).1 ∧ TR K dr a X (bndT a.1 lo hi p).2.1 (bndT a.1 lo hi p).2.2 t) := by
      intro q
      have e : bndT a.1 lo hi p = ((numT a.1 2 p).1, (numT a.1 2 p).2.1, some ((numT a.1 2 p).2.1 - 1)) := by unfold bndT; rw [z]; simp only []; rw [if_pos q]
      refine Ok.r r4 ?_
      rw [show nI (numT a.1 2 p).2.1 - 1 = oI (some ((numT a.1 2 p).2.1 - 1)) from pk_sub (b := 1) hp]
      refine Ok.w (g1.putF hX (g := some ((numT a.1 2 p).2.1 - 1)) (fun q e => by cases e; omega)) ?_
      intro t2 g2
      exact Ok.p (by rw [e]; exact ⟨rfl, g2⟩)
    refine Ok.j1 (Ok.b (fun q => out (Or.inl q)) (fun q => Ok.b (fun q2 => ?_) (fun q2 => out (Or.inr (Int32.not_le.mp q2)))))
    have e : bndT a.1 lo hi p = numT a.1 2 p := by
      unfold bndT; rw [z]; simp only []; rw [if_neg (fun w => w.elim q (fun w => Int32.not_le.mpr w q2))]
    exact Ok.p (by rw [e]; exact ⟨rfl, g1⟩)
  · obtain ⟨q, hq⟩ : ∃ q, (numT a.1 2 p).2.2 = some q := by
      cases e : (numT a.1 2 p).2.2 with
      | none => exact absurd e z
      | some q => exact ⟨q, rfl⟩
    have e : bndT a.1 lo hi p = numT a.1 2 p := by unfold bndT; rw [hq]
    exact Ok.p (by rw [e]; exact ⟨rfl, g1⟩)
end
