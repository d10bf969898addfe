/-! least tolls, by numbers alone -/
def mnA (adj : Nat → Nat → Bool) (T : Nat → Nat) (c : Nat) : Nat → Nat
  | 0 => 1000
  | k + 1 => if adj c k = true then min (mnA adj T c k) (T k) else mnA adj T c k
theorem mnA_le {adj : Nat → Nat → Bool} {T : Nat → Nat} {c : Nat} : ∀ {n o : Nat}, o < n → adj c o = true → mnA adj T c n ≤ T o
  | 0, o, h, _ => by omega
  | n + 1, o, h, ha => by
    unfold mnA
    by_cases e : o = n
    · subst e; rw [if_pos ha]; omega
    · have := mnA_le (T := T) (show o < n by omega) ha
      split <;> omega
theorem mnA_at {adj : Nat → Nat → Bool} {T : Nat → Nat} {c : Nat} : ∀ n, mnA adj T c n = 1000 ∨ ∃ o, o < n ∧ adj c o = true ∧ mnA adj T c n = T o
  | 0 => Or.inl rfl
  | n + 1 => by
    unfold mnA
    by_cases ha : adj c n = true
    · rw [if_pos ha]
      by_cases q : T n ≤ mnA adj T c n
      · exact Or.inr ⟨n, by omega, ha, by omega⟩
      · rcases mnA_at (adj := adj) (T := T) (c := c) n with h | ⟨o, h1, h2, h3⟩
        · left; omega
        · exact Or.inr ⟨o, by omega, h2, by omega⟩
    · rw [if_neg ha]
      rcases mnA_at (adj := adj) (T := T) (c := c) n with h | ⟨o, h1, h2, h3⟩
      · exact Or.inl h
      · exact Or.inr ⟨o, by omega, h2, h3⟩
theorem mnA_1000 {adj : Nat → Nat → Bool} {T : Nat → Nat} {c : Nat} : ∀ n, mnA adj T c n ≤ 1000
  | 0 => Nat.le_refl _
  | n + 1 => by
    have := mnA_1000 (adj := adj) (T := T) (c := c) n
    unfold mnA
    split <;> omega
def jac (adj : Nat → Nat → Bool) (w : Nat → Nat) (n g : Nat) : Nat → Nat → Nat
  | 0, c => if c = g then w g else 1000
  | k + 1, c => min (jac adj w n g k c) (w c + mnA adj (jac adj w n g k) c n)
theorem jac_s (adj : Nat → Nat → Bool) (w : Nat → Nat) (n g k c : Nat) : jac adj w n g (k + 1) c = min (jac adj w n g k c) (w c + mnA adj (jac adj w n g k) c n) := rfl
def Cls (adj : Nat → Nat → Bool) (w : Nat → Nat) (n g : Nat) (T : Nat → Nat) : Prop := (∀ c, c < n → T c ≤ if c = g then w g else 1000) ∧ ∀ c, c < n → ∀ o, o < n → adj c o = true → T c ≤ w c + T o
theorem cnt_lt {p q : Nat → Bool} : ∀ {n : Nat}, (∀ i, i < n → p i = true → q i = true) → (∃ i, i < n ∧ p i = false ∧ q i = true) → fa_cnt p n < fa_cnt q n
  | 0, _, h => by obtain ⟨i, h, _⟩ := h; omega
  | n + 1, h, he => by
    have mono : ∀ m, m ≤ n → fa_cnt p m ≤ fa_cnt q m := by
      intro m
      induction m with
      | zero => intro _; exact Nat.le_refl _
      | succ m ih =>
        intro hm
        have := ih (by omega)
        cases hp : p m with
        | true => rw [fa_cnt_yes hp, fa_cnt_yes (h m (by omega) hp)]; omega
        | false =>
          rw [fa_cnt_no hp]
          cases hq : q m with
          | true => rw [fa_cnt_yes hq]; omega
          | false => rw [fa_cnt_no hq]; omega
    obtain ⟨i, hi, h1, h2⟩ := he
    by_cases e : i = n
    · subst e
      rw [fa_cnt_no h1, fa_cnt_yes h2]
      have := mono i (Nat.le_refl _)
      omega
    · have ih := cnt_lt (p := p) (q := q) (n := n) (fun j hj => h j (by omega)) ⟨i, by omega, h1, h2⟩
      cases hp : p n with
      | true => rw [fa_cnt_yes hp, fa_cnt_yes (h n (by omega) hp)]; omega
      | false =>
        rw [fa_cnt_no hp]
        cases hq : q n with
        | true => rw [fa_cnt_yes hq]; omega
        | false => rw [fa_cnt_no hq]; omega
theorem cnt_all {p : Nat → Bool} : ∀ {n : Nat}, n ≤ fa_cnt p n → ∀ i, i < n → p i = true
  | 0, _, i, hi => by omega
  | n + 1, h, i, hi => by
    have hle := fa_cnt_le p n
    cases hp : p n with
    | true =>
      rw [fa_cnt_yes hp] at h
      by_cases e : i = n
      · subst e; exact hp
      · exact cnt_all (n := n) (by omega) i (by omega)
    | false =>
      rw [fa_cnt_no hp] at h
      omega
theorem sm_mono {f g : Nat → Nat} : ∀ {n : Nat}, (∀ i, i < n → f i ≤ g i) → fb_sm f n ≤ fb_sm g n
  | 0, _ => Nat.le_refl _
  | n + 1, h => by
    rw [fb_sm_succ, fb_sm_succ]
    have := sm_mono (n := n) (fun i hi => h i (by omega))
    have := h n (by omega)
    omega
theorem sm_lt {f g : Nat → Nat} : ∀ {n : Nat}, (∀ i, i < n → f i ≤ g i) → (∃ i, i < n ∧ f i < g i) → fb_sm f n < fb_sm g n
  | 0, _, h => by obtain ⟨i, h, _⟩ := h; omega
  | n + 1, h, he => by
    rw [fb_sm_succ, fb_sm_succ]
    obtain ⟨i, hi, h1⟩ := he
    by_cases e : i = n
    · subst e
      have := sm_mono (f := f) (g := g) (n := i) (fun j hj => h j (by omega))
      omega
    · have := sm_lt (f := f) (g := g) (n := n) (fun j hj => h j (by omega)) ⟨i, by omega, h1⟩
      have := h n (by omega)
      omega
section
variable {adj : Nat → Nat → Bool} {w : Nat → Nat} {n g : Nat}
theorem jac_le (hw : ∀ c, w c ≤ 1000) : ∀ k c, jac adj w n g k c ≤ if c = g then w g else 1000
  | 0, c => Nat.le_refl _
  | k + 1, c => by
    have := jac_le hw k c
    unfold jac
    omega
theorem jac_1000 (hw : ∀ c, w c ≤ 1000) (k c : Nat) : jac adj w n g k c ≤ 1000 := by
  have h1 := jac_le (adj := adj) (n := n) (g := g) hw k c
  have h2 := hw g
  split at h1 <;> omega
theorem jac_mono : ∀ (j k c : Nat), jac adj w n g (k + j) c ≤ jac adj w n g k c
  | 0, k, c => Nat.le_refl _
  | j + 1, k, c => by
    have := jac_mono j k c
    rw [← Nat.add_assoc, jac_s]
    omega
theorem jac_ge {T : Nat → Nat} (hw : ∀ c, w c ≤ 1000) (hT : Cls adj w n g T) : ∀ k c, c < n → T c ≤ jac adj w n g k c
  | 0, c, hc => hT.1 c hc
  | k + 1, c, hc => by
    have h1 := jac_ge hw hT k c hc
    have h2 : T c ≤ w c + mnA adj (jac adj w n g k) c n := by
      rcases mnA_at (adj := adj) (T := jac adj w n g k) (c := c) n with h | ⟨o, o1, o2, o3⟩
      · have := hT.1 c hc
        have := hw g
        split at * <;> omega
      · have := hT.2 c hc o o1 o2
        have := jac_ge hw hT k o o1
        omega
    unfold jac
    omega
theorem jac_cls (hw : ∀ c, w c ≤ 1000) {k : Nat} (hs : ∀ c, c < n → jac adj w n g (k + 1) c = jac adj w n g k c) : Cls adj w n g (jac adj w n g k) := by
  refine ⟨fun c _ => jac_le hw k c, fun c hc o ho ha => ?_⟩
  have h1 := hs c hc
  rw [jac_s] at h1
  have h2 := mnA_le (T := jac adj w n g k) ho ha
  omega
theorem jac_stb (hw : ∀ c, w c ≤ 1000) : ∀ (m k : Nat), fb_sm (jac adj w n g k) n ≤ m → ∃ K, k ≤ K ∧ ∀ c, c < n → jac adj w n g (K + 1) c = jac adj w n g K c := by
  intro m
  induction m with
  | zero =>
    intro k h
    refine ⟨k, Nat.le_refl _, fun c hc => ?_⟩
    have h1 := jac_mono (adj := adj) (w := w) (n := n) (g := g) 1 k c
    by_cases q : jac adj w n g (k + 1) c < jac adj w n g k c
    · have := sm_lt (f := jac adj w n g (k + 1)) (g := jac adj w n g k) (n := n) (fun i _ => jac_mono 1 k i) ⟨c, hc, q⟩
      omega
    · omega
  | succ m ih =>
    intro k h
    by_cases q : ∀ c, c < n → jac adj w n g (k + 1) c = jac adj w n g k c
    · exact ⟨k, Nat.le_refl _, q⟩
    · have : ∃ c, c < n ∧ jac adj w n g (k + 1) c < jac adj w n g k c := by
        apply Classical.byContradiction
        intro hn
        apply q
        intro c hc
        have h1 := jac_mono (adj := adj) (w := w) (n := n) (g := g) 1 k c
        by_cases z : jac adj w n g (k + 1) c < jac adj w n g k c
        · exact absurd ⟨c, hc, z⟩ hn
        · omega
      have h2 := sm_lt (f := jac adj w n g (k + 1)) (g := jac adj w n g k) (n := n) (fun i _ => jac_mono 1 k i) this
      obtain ⟨K, k1, k2⟩ := ih (k + 1) (by omega)
      exact ⟨K, by omega, k2⟩
/-- as many rounds as there are cells are enough -/
theorem jac_fin (hw : ∀ c, w c ≤ 1000) (hg : g < n) : Cls adj w n g (jac adj w n g n) := by
  obtain ⟨K, _, hK⟩ := jac_stb (adj := adj) (w := w) (n := n) (g := g) hw _ 0 (Nat.le_refl _)
  have hd := jac_cls hw hK
  have hge := fun k c hc => jac_ge (adj := adj) (w := w) (n := n) (g := g) hw hd k c hc
  have grow : ∀ k, (∃ c, c < n ∧ jac adj w n g k c ≠ jac adj w n g K c) → ∃ c, c < n ∧ jac adj w n g k c ≠ jac adj w n g K c ∧ jac adj w n g (k + 1) c = jac adj w n g K c := by
    intro k hex
    obtain ⟨m, ⟨c, hc, c1, c2⟩, hmin⟩ := pk_least (fun j => ∃ c, c < n ∧ jac adj w n g k c ≠ jac adj w n g K c ∧ jac adj w n g j c = jac adj w n g K c) (by
      obtain ⟨c, hc, h1⟩ := hex
      exact ⟨K, c, hc, h1, rfl⟩)
    have hmk : k < m := by
      apply Classical.byContradiction
      intro q
      have h1 := jac_mono (adj := adj) (w := w) (n := n) (g := g) (k - m) m c
      rw [show m + (k - m) = k by omega] at h1
      have h2 := hge k c hc
      omega
    obtain ⟨m, rfl⟩ : ∃ j, m = j + 1 := ⟨m - 1, by omega⟩
    have hno : ∀ c', c' < n → jac adj w n g k c' ≠ jac adj w n g K c' → jac adj w n g m c' ≠ jac adj w n g K c' := fun c' h1 h2 h3 => hmin m (by omega) ⟨c', h1, h2, h3⟩
    have n1 := hno c hc c1
    have n2 := hge m c hc
    have n3 := jac_1000 (adj := adj) (n := n) (g := g) hw m c
    have e1 : jac adj w n g (m + 1) c = min (jac adj w n g m c) (w c + mnA adj (jac adj w n g m) c n) := rfl
    rcases mnA_at (adj := adj) (T := jac adj w n g m) (c := c) n with h | ⟨o, o1, o2, o3⟩
    · omega
    · have q1 := hd.2 c hc o o1 o2
      have q2 := hge m o o1
      have q3 : jac adj w n g k o = jac adj w n g K o := by
        apply Classical.byContradiction
        intro z
        exact hno o o1 z (by omega)
      have q4 := mnA_le (T := jac adj w n g k) o1 o2
      have q5 := hge (k + 1) c hc
      have e2 : jac adj w n g (k + 1) c = min (jac adj w n g k c) (w c + mnA adj (jac adj w n g k) c n) := rfl
      exact ⟨c, hc, c1, by omega⟩
  have cnt : ∀ k, k + 1 ≤ n → k + 1 ≤ fa_cnt (fun c => decide (jac adj w n g k c = jac adj w n g K c)) n := by
    intro k
    induction k with
    | zero =>
      intro _
      have hgg : ∀ k, jac adj w n g k g = w g := by
        intro k
        induction k with
        | zero => unfold jac; rw [if_pos rfl]
        | succ k ih => unfold jac; rw [ih]; omega
      have := cnt_lt (p := fun _ => false) (q := fun c => decide (jac adj w n g 0 c = jac adj w n g K c)) (n := n) (fun i _ q => by simp at q) ⟨g, hg, rfl, by simp [hgg]⟩
      omega
    | succ k ih =>
      intro hk
      have h1 := ih (by omega)
      by_cases hex : ∃ c, c < n ∧ jac adj w n g k c ≠ jac adj w n g K c
      · obtain ⟨c, hc, c1, c2⟩ := grow k hex
        have := cnt_lt (p := fun c => decide (jac adj w n g k c = jac adj w n g K c)) (q := fun c => decide (jac adj w n g (k + 1) c = jac adj w n g K c)) (n := n) (fun i hi q => by
          have q' : jac adj w n g k i = jac adj w n g K i := of_decide_eq_true q
          have a1 := jac_mono (adj := adj) (w := w) (n := n) (g := g) 1 k i
          have a2 := hge (k + 1) i hi
          exact decide_eq_true (by omega)) ⟨c, hc, decide_eq_false c1, decide_eq_true c2⟩
        omega
      · have : ∀ i, i < n → (fun c => decide (jac adj w n g (k + 1) c = jac adj w n g K c)) i = (fun _ => true) i := by
          intro i hi
          have z : jac adj w n g k i = jac adj w n g K i := Classical.byContradiction (fun z => hex ⟨i, hi, z⟩)
          have a1 := jac_mono (adj := adj) (w := w) (n := n) (g := g) 1 k i
          have a2 := hge (k + 1) i hi
          exact decide_eq_true (by omega)
        rw [fa_cnt_cong this]
        have all : ∀ m, fa_cnt (fun _ => true) m = m := by
          intro m
          induction m with
          | zero => rfl
          | succ m ih => rw [fa_cnt_yes (p := fun _ => true) rfl, ih]
        rw [all]; omega
  have hn0 : n - 1 + 1 = n := by omega
  have h1 := cnt (n - 1) (by omega)
  have hall := cnt_all (p := fun c => decide (jac adj w n g (n - 1) c = jac adj w n g K c)) (n := n) (by omega)
  have heq : ∀ c, c < n → jac adj w n g n c = jac adj w n g K c := by
    intro c hc
    have a0 : jac adj w n g (n - 1) c = jac adj w n g K c := of_decide_eq_true (hall c hc)
    have a1 := jac_mono (adj := adj) (w := w) (n := n) (g := g) 1 (n - 1) c
    rw [hn0] at a1
    have a2 := hge n c hc
    omega
  refine ⟨fun c hc => ?_, fun c hc o ho ha => ?_⟩
  · exact jac_le hw n c
  · rw [heq c hc, heq o ho]
    exact hd.2 c hc o ho ha
/-- the tolls to a goal -/
def tol (adj : Nat → Nat → Bool) (w : Nat → Nat) (n g c : Nat) : Nat := jac adj w n g n c
theorem tol_max {T : Nat → Nat} (hw : ∀ c, w c ≤ 1000) (hT : Cls adj w n g T) {c : Nat} (hc : c < n) : T c ≤ tol adj w n g c := jac_ge hw hT n c hc
theorem tol_ge (hw : ∀ c, w c ≤ 1000) (hg : g < n) {c : Nat} (hc : c < n) : w g ≤ tol adj w n g c := by
  refine tol_max (T := fun _ => w g) hw ⟨fun c _ => ?_, fun c _ o _ _ => by show w g ≤ w c + w g; omega⟩ hc
  have := hw g
  show w g ≤ _
  split <;> omega
/-- tolls are alike there and back -/
theorem tol_half (hw : ∀ c, w c ≤ 1000) (hsy : ∀ x y, adj x y = adj y x) {c : Nat} (hg : g < n) (hc : c < n) : tol adj w n c g ≤ tol adj w n g c := by
  refine tol_max (T := fun c => tol adj w n c g) hw ⟨fun c hc => ?_, fun c hc o ho ha => ?_⟩ hc
  · show tol adj w n c g ≤ _
    by_cases e : c = g
    · subst e
      rw [if_pos rfl]
      have := (jac_fin (adj := adj) hw hc).1 c hc
      rw [if_pos rfl] at this
      exact this
    · rw [if_neg e]; exact jac_1000 hw n g
  · show tol adj w n c g ≤ w c + tol adj w n o g
    have cc := jac_fin (adj := adj) hw hc
    have key : Cls adj w n o (fun x => tol adj w n c x - w c) := by
      refine ⟨fun x hx => ?_, fun x hx y hy hxy => ?_⟩
      · show tol adj w n c x - w c ≤ _
        by_cases e : x = o
        · subst e
          rw [if_pos rfl]
          have h1 := cc.2 x hx c hc (by rw [hsy]; exact ha)
          have h2 := cc.1 c hc
          rw [if_pos rfl] at h2
          unfold tol
          omega
        · rw [if_neg e]
          have := jac_1000 (adj := adj) (n := n) (g := c) hw n x
          unfold tol
          omega
      · show tol adj w n c x - w c ≤ w x + (tol adj w n c y - w c)
        have h1 := cc.2 x hx y hy hxy
        have h2 := tol_ge (adj := adj) hw hc hy
        unfold tol at h2 ⊢
        omega
    have h3 := tol_max (T := fun x => tol adj w n c x - w c) hw key hg
    have h4 : tol adj w n c g - w c ≤ tol adj w n o g := h3
    omega
theorem tol_sym (hw : ∀ c, w c ≤ 1000) (hsy : ∀ x y, adj x y = adj y x) {c : Nat} (hg : g < n) (hc : c < n) : tol adj w n c g = tol adj w n g c := Nat.le_antisymm (tol_half hw hsy hg hc) (tol_half hw hsy hc hg)
/-- a round of any kind, done in place -/
theorem jac_step {t t' : Nat → Nat} {k : Nat} (hw : ∀ c, w c ≤ 1000) (h0 : ∀ c, c < n → t c ≤ jac adj w n g k c) (h1 : ∀ c, c < n → t' c ≤ t c) (h2 : ∀ c, c < n → ∀ o, o < n → adj c o = true → t' c ≤ w c + t o) : ∀ c, c < n → t' c ≤ jac adj w n g (k + 1) c := by
  intro c hc
  have a1 := h0 c hc
  have a2 := h1 c hc
  have a3 : t' c ≤ w c + mnA adj (jac adj w n g k) c n := by
    rcases mnA_at (adj := adj) (T := jac adj w n g k) (c := c) n with h | ⟨o, o1, o2, o3⟩
    · have := jac_1000 (adj := adj) (n := n) (g := g) hw k c
      omega
    · have := h2 c hc o o1 o2
      have := h0 o o1
      omega
  unfold jac
  omega
end
