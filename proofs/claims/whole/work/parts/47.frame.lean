/-! an expression answers, and its answer is so -/
def Ok {α : Type} (E : Option (α × St)) (P : α → St → Prop) : Prop := ∃ r t, E = some (r, t) ∧ P r t
theorem Ok.p {α : Type} {r : α} {t : St} {P : α → St → Prop} (h : P r t) : Ok (some (r, t)) P := ⟨r, t, rfl, h⟩
theorem Ok.of {α : Type} {E : Option (α × St)} {r : α} {t : St} {P : α → St → Prop} (e : E = some (r, t)) (h : P r t) : Ok E P := ⟨r, t, e, h⟩
theorem Ok.imp {α : Type} {E : Option (α × St)} {P Q : α → St → Prop} (h : Ok E P) (hi : ∀ r t, P r t → Q r t) : Ok E Q := by
  obtain ⟨r, t, e, hp⟩ := h
  exact ⟨r, t, e, hi r t hp⟩
theorem Ok.e {α : Type} {E E' : Option (α × St)} {P : α → St → Prop} (e : E = E') (h : Ok E' P) : Ok E P := by rw [e]; exact h
theorem Ok.r {α β : Type} {E : Option β} {v : β} {f : β → Option (α × St)} {P : α → St → Prop} (e : E = some v) (h : Ok (f v) P) : Ok (E.bind f) P := by
  rw [e]; exact h
theorem Ok.w {α β : Type} {E : Option β} {f : β → Option (α × St)} {C : β → Prop} {P : α → St → Prop} (e : ∃ t, E = some t ∧ C t) (h : ∀ t, C t → Ok (f t) P) : Ok (E.bind f) P := by
  obtain ⟨t, e, c⟩ := e
  rw [e]; exact h t c
theorem Ok.c {α β : Type} {E : Option (β × St)} {f : β → St → Option (α × St)} {P1 : β → St → Prop} {P : α → St → Prop} (e : Ok E P1) (h : ∀ r t, P1 r t → Ok (f r t) P) : Ok (bd E f) P := by
  obtain ⟨r, t, e, c⟩ := e
  rw [e]; exact h r t c
theorem Ok.v {α β : Type} {ci b : Nat} {σ : St} {E : Option (β × St)} {f : β → St → Option (α × St)} {P1 : β → St → Prop} {P : α → St → Prop} (hO : isO ci σ b = true) (e : Ok E P1) (h : ∀ r t, P1 r t → Ok (f r t) P) : Ok (bo ci σ b E f) P := by
  rw [bo_some hO]; exact Ok.c e h
theorem Ok.cE {α β : Type} {E : Option (β × St)} {x : β} {t : St} {f : β → St → Option (α × St)} {P : α → St → Prop} (e : E = some (x, t)) (h : Ok (f x t) P) : Ok (bd E f) P := by
  rw [e]; exact h
theorem Ok.vE {α β : Type} {ci b : Nat} {σ : St} {E : Option (β × St)} {x : β} {t : St} {f : β → St → Option (α × St)} {P : α → St → Prop} (hO : isO ci σ b = true) (e : E = some (x, t)) (h : Ok (f x t) P) : Ok (bo ci σ b E f) P := by
  rw [bo_some hO, e]; exact h
theorem Ok.b {α : Type} {c : Prop} [Decidable c] {E F : Option (α × St)} {P : α → St → Prop} (h1 : c → Ok E P) (h2 : ¬ c → Ok F P) : Ok (if c then E else F) P := by
  by_cases h : c
  · rw [if_pos h]; exact h1 h
  · rw [if_neg h]; exact h2 h
theorem Ok.bT {α : Type} {c : Prop} [Decidable c] {E F : Option (α × St)} {P : α → St → Prop} (h : c) (h1 : Ok E P) : Ok (if c then E else F) P := by
  rw [if_pos h]; exact h1
theorem Ok.bF {α : Type} {c : Prop} [Decidable c] {E F : Option (α × St)} {P : α → St → Prop} (h : ¬ c) (h1 : Ok F P) : Ok (if c then E else F) P := by
  rw [if_neg h]; exact h1
/-- a branch whose question is told in other words -/
theorem Ok.bI {α : Type} {c d : Prop} [Decidable c] {E F : Option (α × St)} {P : α → St → Prop} (e : c ↔ d) (h1 : d → Ok E P) (h2 : ¬ d → Ok F P) : Ok (if c then E else F) P :=
  Ok.b (fun h => h1 (e.mp h)) (fun h => h2 (fun q => h (e.mpr q)))
theorem Ok.n {α β : Type} {e : β} {f : β → Option (α × St)} {P : α → St → Prop} (h : Ok (f e) P) : Ok (nam e f) P := h
theorem Ok.nE {α β : Type} {e e' : β} {f : β → Option (α × St)} {P : α → St → Prop} (q : e = e') (h : Ok (f e') P) : Ok (nam e f) P := by
  rw [q]; exact h
theorem Ok.j1 {α : Type} {T0 : Type} {K : T0 → Option (α × St)} {B : (T0 → Option (α × St)) → Option (α × St)} {P : α → St → Prop} (h : Ok (B K) P) : Ok (jo1 K B) P := h
theorem Ok.j2 {α : Type} {T0 T1 : Type} {K : T0 → T1 → Option (α × St)} {B : (T0 → T1 → Option (α × St)) → Option (α × St)} {P : α → St → Prop} (h : Ok (B K) P) : Ok (jo2 K B) P := h
theorem Ok.j3 {α : Type} {T0 T1 T2 : Type} {K : T0 → T1 → T2 → Option (α × St)} {B : (T0 → T1 → T2 → Option (α × St)) → Option (α × St)} {P : α → St → Prop} (h : Ok (B K) P) : Ok (jo3 K B) P := h
theorem Ok.j4 {α : Type} {T0 T1 T2 T3 : Type} {K : T0 → T1 → T2 → T3 → Option (α × St)} {B : (T0 → T1 → T2 → T3 → Option (α × St)) → Option (α × St)} {P : α → St → Prop} (h : Ok (B K) P) : Ok (jo4 K B) P := h
theorem Ok.m1 {α : Type} {T0 : Type} {B : (T0 → Option (α × St)) → T0 → Option (α × St)} {P : α → St → Prop} (Inv : Nat → T0 → Prop) (hs : ∀ j d (x0 : T0), Inv d x0 → (∀ d' (y0 : T0), d' < d → Inv d' y0 → Ok (j y0) P) → Ok (B j x0) P) : ∀ (m d : Nat) (x0 : T0), d < m → Inv d x0 → Ok (lo1 B m x0) P := by
  intro m
  induction m with
  | zero => intro d x0 hd; omega
  | succ m ih =>
    intro d x0 hd hI
    rw [lo1_s]
    exact hs _ d x0 hI (fun d' y0 hd' hI' => ih d' y0 (by omega) hI')
theorem Ok.f1 {α : Type} {T0 : Type} {B : (T0 → Option (α × St)) → T0 → Option (α × St)} {P : α → St → Prop} (n k0 : Nat) (Inv : Nat → T0 → Prop) {x0 : T0} (hk : k0 ≤ n) (hn : n < 20000) (h0 : Inv k0 x0) (hs : ∀ j k (x0 : T0), k < n → Inv k x0 → (∀ (y0 : T0), Inv (k + 1) y0 → Ok (j y0) P) → Ok (B j x0) P) (hx : ∀ j (x0 : T0), Inv n x0 → Ok (B j x0) P) : Ok (lo1 B FU x0) P := by
  refine Ok.m1 (fun d x0 => ∃ k, k + d = n ∧ Inv k x0) ?_ FU (n - k0) x0 (by unfold FU; omega) ⟨k0, by omega, h0⟩
  rintro j d x0 ⟨k, hkd, hI⟩ hj
  by_cases e : k = n
  · subst e; exact hx j x0 hI
  · exact hs j k x0 (by omega) hI (fun y0 hI' => hj (d - 1) y0 (by omega) ⟨k + 1, by omega, hI'⟩)
theorem Ok.m2 {α : Type} {T0 T1 : Type} {B : (T0 → T1 → Option (α × St)) → T0 → T1 → Option (α × St)} {P : α → St → Prop} (Inv : Nat → T0 → T1 → Prop) (hs : ∀ j d (x0 : T0) (x1 : T1), Inv d x0 x1 → (∀ d' (y0 : T0) (y1 : T1), d' < d → Inv d' y0 y1 → Ok (j y0 y1) P) → Ok (B j x0 x1) P) : ∀ (m d : Nat) (x0 : T0) (x1 : T1), d < m → Inv d x0 x1 → Ok (lo2 B m x0 x1) P := by
  intro m
  induction m with
  | zero => intro d x0 x1 hd; omega
  | succ m ih =>
    intro d x0 x1 hd hI
    rw [lo2_s]
    exact hs _ d x0 x1 hI (fun d' y0 y1 hd' hI' => ih d' y0 y1 (by omega) hI')
theorem Ok.f2 {α : Type} {T0 T1 : Type} {B : (T0 → T1 → Option (α × St)) → T0 → T1 → Option (α × St)} {P : α → St → Prop} (n k0 : Nat) (Inv : Nat → T0 → T1 → Prop) {x0 : T0} {x1 : T1} (hk : k0 ≤ n) (hn : n < 20000) (h0 : Inv k0 x0 x1) (hs : ∀ j k (x0 : T0) (x1 : T1), k < n → Inv k x0 x1 → (∀ (y0 : T0) (y1 : T1), Inv (k + 1) y0 y1 → Ok (j y0 y1) P) → Ok (B j x0 x1) P) (hx : ∀ j (x0 : T0) (x1 : T1), Inv n x0 x1 → Ok (B j x0 x1) P) : Ok (lo2 B FU x0 x1) P := by
  refine Ok.m2 (fun d x0 x1 => ∃ k, k + d = n ∧ Inv k x0 x1) ?_ FU (n - k0) x0 x1 (by unfold FU; omega) ⟨k0, by omega, h0⟩
  rintro j d x0 x1 ⟨k, hkd, hI⟩ hj
  by_cases e : k = n
  · subst e; exact hx j x0 x1 hI
  · exact hs j k x0 x1 (by omega) hI (fun y0 y1 hI' => hj (d - 1) y0 y1 (by omega) ⟨k + 1, by omega, hI'⟩)
theorem Ok.m3 {α : Type} {T0 T1 T2 : Type} {B : (T0 → T1 → T2 → Option (α × St)) → T0 → T1 → T2 → Option (α × St)} {P : α → St → Prop} (Inv : Nat → T0 → T1 → T2 → Prop) (hs : ∀ j d (x0 : T0) (x1 : T1) (x2 : T2), Inv d x0 x1 x2 → (∀ d' (y0 : T0) (y1 : T1) (y2 : T2), d' < d → Inv d' y0 y1 y2 → Ok (j y0 y1 y2) P) → Ok (B j x0 x1 x2) P) : ∀ (m d : Nat) (x0 : T0) (x1 : T1) (x2 : T2), d < m → Inv d x0 x1 x2 → Ok (lo3 B m x0 x1 x2) P := by
  intro m
  induction m with
  | zero => intro d x0 x1 x2 hd; omega
  | succ m ih =>
    intro d x0 x1 x2 hd hI
    rw [lo3_s]
    exact hs _ d x0 x1 x2 hI (fun d' y0 y1 y2 hd' hI' => ih d' y0 y1 y2 (by omega) hI')
theorem Ok.f3 {α : Type} {T0 T1 T2 : Type} {B : (T0 → T1 → T2 → Option (α × St)) → T0 → T1 → T2 → Option (α × St)} {P : α → St → Prop} (n k0 : Nat) (Inv : Nat → T0 → T1 → T2 → Prop) {x0 : T0} {x1 : T1} {x2 : T2} (hk : k0 ≤ n) (hn : n < 20000) (h0 : Inv k0 x0 x1 x2) (hs : ∀ j k (x0 : T0) (x1 : T1) (x2 : T2), k < n → Inv k x0 x1 x2 → (∀ (y0 : T0) (y1 : T1) (y2 : T2), Inv (k + 1) y0 y1 y2 → Ok (j y0 y1 y2) P) → Ok (B j x0 x1 x2) P) (hx : ∀ j (x0 : T0) (x1 : T1) (x2 : T2), Inv n x0 x1 x2 → Ok (B j x0 x1 x2) P) : Ok (lo3 B FU x0 x1 x2) P := by
  refine Ok.m3 (fun d x0 x1 x2 => ∃ k, k + d = n ∧ Inv k x0 x1 x2) ?_ FU (n - k0) x0 x1 x2 (by unfold FU; omega) ⟨k0, by omega, h0⟩
  rintro j d x0 x1 x2 ⟨k, hkd, hI⟩ hj
  by_cases e : k = n
  · subst e; exact hx j x0 x1 x2 hI
  · exact hs j k x0 x1 x2 (by omega) hI (fun y0 y1 y2 hI' => hj (d - 1) y0 y1 y2 (by omega) ⟨k + 1, by omega, hI'⟩)
theorem Ok.m4 {α : Type} {T0 T1 T2 T3 : Type} {B : (T0 → T1 → T2 → T3 → Option (α × St)) → T0 → T1 → T2 → T3 → Option (α × St)} {P : α → St → Prop} (Inv : Nat → T0 → T1 → T2 → T3 → Prop) (hs : ∀ j d (x0 : T0) (x1 : T1) (x2 : T2) (x3 : T3), Inv d x0 x1 x2 x3 → (∀ d' (y0 : T0) (y1 : T1) (y2 : T2) (y3 : T3), d' < d → Inv d' y0 y1 y2 y3 → Ok (j y0 y1 y2 y3) P) → Ok (B j x0 x1 x2 x3) P) : ∀ (m d : Nat) (x0 : T0) (x1 : T1) (x2 : T2) (x3 : T3), d < m → Inv d x0 x1 x2 x3 → Ok (lo4 B m x0 x1 x2 x3) P := by
  intro m
  induction m with
  | zero => intro d x0 x1 x2 x3 hd; omega
  | succ m ih =>
    intro d x0 x1 x2 x3 hd hI
    rw [lo4_s]
    exact hs _ d x0 x1 x2 x3 hI (fun d' y0 y1 y2 y3 hd' hI' => ih d' y0 y1 y2 y3 (by omega) hI')
theorem Ok.f4 {α : Type} {T0 T1 T2 T3 : Type} {B : (T0 → T1 → T2 → T3 → Option (α × St)) → T0 → T1 → T2 → T3 → Option (α × St)} {P : α → St → Prop} (n k0 : Nat) (Inv : Nat → T0 → T1 → T2 → T3 → Prop) {x0 : T0} {x1 : T1} {x2 : T2} {x3 : T3} (hk : k0 ≤ n) (hn : n < 20000) (h0 : Inv k0 x0 x1 x2 x3) (hs : ∀ j k (x0 : T0) (x1 : T1) (x2 : T2) (x3 : T3), k < n → Inv k x0 x1 x2 x3 → (∀ (y0 : T0) (y1 : T1) (y2 : T2) (y3 : T3), Inv (k + 1) y0 y1 y2 y3 → Ok (j y0 y1 y2 y3) P) → Ok (B j x0 x1 x2 x3) P) (hx : ∀ j (x0 : T0) (x1 : T1) (x2 : T2) (x3 : T3), Inv n x0 x1 x2 x3 → Ok (B j x0 x1 x2 x3) P) : Ok (lo4 B FU x0 x1 x2 x3) P := by
  refine Ok.m4 (fun d x0 x1 x2 x3 => ∃ k, k + d = n ∧ Inv k x0 x1 x2 x3) ?_ FU (n - k0) x0 x1 x2 x3 (by unfold FU; omega) ⟨k0, by omega, h0⟩
  rintro j d x0 x1 x2 x3 ⟨k, hkd, hI⟩ hj
  by_cases e : k = n
  · subst e; exact hx j x0 x1 x2 x3 hI
  · exact hs j k x0 x1 x2 x3 (by omega) hI (fun y0 y1 y2 y3 hI' => hj (d - 1) y0 y1 y2 y3 (by omega) ⟨k + 1, by omega, hI'⟩)
theorem Ok.m5 {α : Type} {T0 T1 T2 T3 T4 : Type} {B : (T0 → T1 → T2 → T3 → T4 → Option (α × St)) → T0 → T1 → T2 → T3 → T4 → Option (α × St)} {P : α → St → Prop} (Inv : Nat → T0 → T1 → T2 → T3 → T4 → Prop) (hs : ∀ j d (x0 : T0) (x1 : T1) (x2 : T2) (x3 : T3) (x4 : T4), Inv d x0 x1 x2 x3 x4 → (∀ d' (y0 : T0) (y1 : T1) (y2 : T2) (y3 : T3) (y4 : T4), d' < d → Inv d' y0 y1 y2 y3 y4 → Ok (j y0 y1 y2 y3 y4) P) → Ok (B j x0 x1 x2 x3 x4) P) : ∀ (m d : Nat) (x0 : T0) (x1 : T1) (x2 : T2) (x3 : T3) (x4 : T4), d < m → Inv d x0 x1 x2 x3 x4 → Ok (lo5 B m x0 x1 x2 x3 x4) P := by
  intro m
  induction m with
  | zero => intro d x0 x1 x2 x3 x4 hd; omega
  | succ m ih =>
    intro d x0 x1 x2 x3 x4 hd hI
    rw [lo5_s]
    exact hs _ d x0 x1 x2 x3 x4 hI (fun d' y0 y1 y2 y3 y4 hd' hI' => ih d' y0 y1 y2 y3 y4 (by omega) hI')
theorem Ok.f5 {α : Type} {T0 T1 T2 T3 T4 : Type} {B : (T0 → T1 → T2 → T3 → T4 → Option (α × St)) → T0 → T1 → T2 → T3 → T4 → Option (α × St)} {P : α → St → Prop} (n k0 : Nat) (Inv : Nat → T0 → T1 → T2 → T3 → T4 → Prop) {x0 : T0} {x1 : T1} {x2 : T2} {x3 : T3} {x4 : T4} (hk : k0 ≤ n) (hn : n < 20000) (h0 : Inv k0 x0 x1 x2 x3 x4) (hs : ∀ j k (x0 : T0) (x1 : T1) (x2 : T2) (x3 : T3) (x4 : T4), k < n → Inv k x0 x1 x2 x3 x4 → (∀ (y0 : T0) (y1 : T1) (y2 : T2) (y3 : T3) (y4 : T4), Inv (k + 1) y0 y1 y2 y3 y4 → Ok (j y0 y1 y2 y3 y4) P) → Ok (B j x0 x1 x2 x3 x4) P) (hx : ∀ j (x0 : T0) (x1 : T1) (x2 : T2) (x3 : T3) (x4 : T4), Inv n x0 x1 x2 x3 x4 → Ok (B j x0 x1 x2 x3 x4) P) : Ok (lo5 B FU x0 x1 x2 x3 x4) P := by
  refine Ok.m5 (fun d x0 x1 x2 x3 x4 => ∃ k, k + d = n ∧ Inv k x0 x1 x2 x3 x4) ?_ FU (n - k0) x0 x1 x2 x3 x4 (by unfold FU; omega) ⟨k0, by omega, h0⟩
  rintro j d x0 x1 x2 x3 x4 ⟨k, hkd, hI⟩ hj
  by_cases e : k = n
  · subst e; exact hx j x0 x1 x2 x3 x4 hI
  · exact hs j k x0 x1 x2 x3 x4 (by omega) hI (fun y0 y1 y2 y3 y4 hI' => hj (d - 1) y0 y1 y2 y3 y4 (by omega) ⟨k + 1, by omega, hI'⟩)
theorem Ok.m6 {α : Type} {T0 T1 T2 T3 T4 T5 : Type} {B : (T0 → T1 → T2 → T3 → T4 → T5 → Option (α × St)) → T0 → T1 → T2 → T3 → T4 → T5 → Option (α × St)} {P : α → St → Prop} (Inv : Nat → T0 → T1 → T2 → T3 → T4 → T5 → Prop) (hs : ∀ j d (x0 : T0) (x1 : T1) (x2 : T2) (x3 : T3) (x4 : T4) (x5 : T5), Inv d x0 x1 x2 x3 x4 x5 → (∀ d' (y0 : T0) (y1 : T1) (y2 : T2) (y3 : T3) (y4 : T4) (y5 : T5), d' < d → Inv d' y0 y1 y2 y3 y4 y5 → Ok (j y0 y1 y2 y3 y4 y5) P) → Ok (B j x0 x1 x2 x3 x4 x5) P) : ∀ (m d : Nat) (x0 : T0) (x1 : T1) (x2 : T2) (x3 : T3) (x4 : T4) (x5 : T5), d < m → Inv d x0 x1 x2 x3 x4 x5 → Ok (lo6 B m x0 x1 x2 x3 x4 x5) P := by
  intro m
  induction m with
  | zero => intro d x0 x1 x2 x3 x4 x5 hd; omega
  | succ m ih =>
    intro d x0 x1 x2 x3 x4 x5 hd hI
    rw [lo6_s]
    exact hs _ d x0 x1 x2 x3 x4 x5 hI (fun d' y0 y1 y2 y3 y4 y5 hd' hI' => ih d' y0 y1 y2 y3 y4 y5 (by omega) hI')
theorem Ok.f6 {α : Type} {T0 T1 T2 T3 T4 T5 : Type} {B : (T0 → T1 → T2 → T3 → T4 → T5 → Option (α × St)) → T0 → T1 → T2 → T3 → T4 → T5 → Option (α × St)} {P : α → St → Prop} (n k0 : Nat) (Inv : Nat → T0 → T1 → T2 → T3 → T4 → T5 → Prop) {x0 : T0} {x1 : T1} {x2 : T2} {x3 : T3} {x4 : T4} {x5 : T5} (hk : k0 ≤ n) (hn : n < 20000) (h0 : Inv k0 x0 x1 x2 x3 x4 x5) (hs : ∀ j k (x0 : T0) (x1 : T1) (x2 : T2) (x3 : T3) (x4 : T4) (x5 : T5), k < n → Inv k x0 x1 x2 x3 x4 x5 → (∀ (y0 : T0) (y1 : T1) (y2 : T2) (y3 : T3) (y4 : T4) (y5 : T5), Inv (k + 1) y0 y1 y2 y3 y4 y5 → Ok (j y0 y1 y2 y3 y4 y5) P) → Ok (B j x0 x1 x2 x3 x4 x5) P) (hx : ∀ j (x0 : T0) (x1 : T1) (x2 : T2) (x3 : T3) (x4 : T4) (x5 : T5), Inv n x0 x1 x2 x3 x4 x5 → Ok (B j x0 x1 x2 x3 x4 x5) P) : Ok (lo6 B FU x0 x1 x2 x3 x4 x5) P := by
  refine Ok.m6 (fun d x0 x1 x2 x3 x4 x5 => ∃ k, k + d = n ∧ Inv k x0 x1 x2 x3 x4 x5) ?_ FU (n - k0) x0 x1 x2 x3 x4 x5 (by unfold FU; omega) ⟨k0, by omega, h0⟩
  rintro j d x0 x1 x2 x3 x4 x5 ⟨k, hkd, hI⟩ hj
  by_cases e : k = n
  · subst e; exact hx j x0 x1 x2 x3 x4 x5 hI
  · exact hs j k x0 x1 x2 x3 x4 x5 (by omega) hI (fun y0 y1 y2 y3 y4 y5 hI' => hj (d - 1) y0 y1 y2 y3 y4 y5 (by omega) ⟨k + 1, by omega, hI'⟩)
theorem Ok.m7 {α : Type} {T0 T1 T2 T3 T4 T5 T6 : Type} {B : (T0 → T1 → T2 → T3 → T4 → T5 → T6 → Option (α × St)) → T0 → T1 → T2 → T3 → T4 → T5 → T6 → Option (α × St)} {P : α → St → Prop} (Inv : Nat → T0 → T1 → T2 → T3 → T4 → T5 → T6 → Prop) (hs : ∀ j d (x0 : T0) (x1 : T1) (x2 : T2) (x3 : T3) (x4 : T4) (x5 : T5) (x6 : T6), Inv d x0 x1 x2 x3 x4 x5 x6 → (∀ d' (y0 : T0) (y1 : T1) (y2 : T2) (y3 : T3) (y4 : T4) (y5 : T5) (y6 : T6), d' < d → Inv d' y0 y1 y2 y3 y4 y5 y6 → Ok (j y0 y1 y2 y3 y4 y5 y6) P) → Ok (B j x0 x1 x2 x3 x4 x5 x6) P) : ∀ (m d : Nat) (x0 : T0) (x1 : T1) (x2 : T2) (x3 : T3) (x4 : T4) (x5 : T5) (x6 : T6), d < m → Inv d x0 x1 x2 x3 x4 x5 x6 → Ok (lo7 B m x0 x1 x2 x3 x4 x5 x6) P := by
  intro m
  induction m with
  | zero => intro d x0 x1 x2 x3 x4 x5 x6 hd; omega
  | succ m ih =>
    intro d x0 x1 x2 x3 x4 x5 x6 hd hI
    rw [lo7_s]
    exact hs _ d x0 x1 x2 x3 x4 x5 x6 hI (fun d' y0 y1 y2 y3 y4 y5 y6 hd' hI' => ih d' y0 y1 y2 y3 y4 y5 y6 (by omega) hI')
theorem Ok.f7 {α : Type} {T0 T1 T2 T3 T4 T5 T6 : Type} {B : (T0 → T1 → T2 → T3 → T4 → T5 → T6 → Option (α × St)) → T0 → T1 → T2 → T3 → T4 → T5 → T6 → Option (α × St)} {P : α → St → Prop} (n k0 : Nat) (Inv : Nat → T0 → T1 → T2 → T3 → T4 → T5 → T6 → Prop) {x0 : T0} {x1 : T1} {x2 : T2} {x3 : T3} {x4 : T4} {x5 : T5} {x6 : T6} (hk : k0 ≤ n) (hn : n < 20000) (h0 : Inv k0 x0 x1 x2 x3 x4 x5 x6) (hs : ∀ j k (x0 : T0) (x1 : T1) (x2 : T2) (x3 : T3) (x4 : T4) (x5 : T5) (x6 : T6), k < n → Inv k x0 x1 x2 x3 x4 x5 x6 → (∀ (y0 : T0) (y1 : T1) (y2 : T2) (y3 : T3) (y4 : T4) (y5 : T5) (y6 : T6), Inv (k + 1) y0 y1 y2 y3 y4 y5 y6 → Ok (j y0 y1 y2 y3 y4 y5 y6) P) → Ok (B j x0 x1 x2 x3 x4 x5 x6) P) (hx : ∀ j (x0 : T0) (x1 : T1) (x2 : T2) (x3 : T3) (x4 : T4) (x5 : T5) (x6 : T6), Inv n x0 x1 x2 x3 x4 x5 x6 → Ok (B j x0 x1 x2 x3 x4 x5 x6) P) : Ok (lo7 B FU x0 x1 x2 x3 x4 x5 x6) P := by
  refine Ok.m7 (fun d x0 x1 x2 x3 x4 x5 x6 => ∃ k, k + d = n ∧ Inv k x0 x1 x2 x3 x4 x5 x6) ?_ FU (n - k0) x0 x1 x2 x3 x4 x5 x6 (by unfold FU; omega) ⟨k0, by omega, h0⟩
  rintro j d x0 x1 x2 x3 x4 x5 x6 ⟨k, hkd, hI⟩ hj
  by_cases e : k = n
  · subst e; exact hx j x0 x1 x2 x3 x4 x5 x6 hI
  · exact hs j k x0 x1 x2 x3 x4 x5 x6 (by omega) hI (fun y0 y1 y2 y3 y4 y5 y6 hI' => hj (d - 1) y0 y1 y2 y3 y4 y5 y6 (by omega) ⟨k + 1, by omega, hI'⟩)
theorem Ok.m8 {α : Type} {T0 T1 T2 T3 T4 T5 T6 T7 : Type} {B : (T0 → T1 → T2 → T3 → T4 → T5 → T6 → T7 → Option (α × St)) → T0 → T1 → T2 → T3 → T4 → T5 → T6 → T7 → Option (α × St)} {P : α → St → Prop} (Inv : Nat → T0 → T1 → T2 → T3 → T4 → T5 → T6 → T7 → Prop) (hs : ∀ j d (x0 : T0) (x1 : T1) (x2 : T2) (x3 : T3) (x4 : T4) (x5 : T5) (x6 : T6) (x7 : T7), Inv d x0 x1 x2 x3 x4 x5 x6 x7 → (∀ d' (y0 : T0) (y1 : T1) (y2 : T2) (y3 : T3) (y4 : T4) (y5 : T5) (y6 : T6) (y7 : T7), d' < d → Inv d' y0 y1 y2 y3 y4 y5 y6 y7 → Ok (j y0 y1 y2 y3 y4 y5 y6 y7) P) → Ok (B j x0 x1 x2 x3 x4 x5 x6 x7) P) : ∀ (m d : Nat) (x0 : T0) (x1 : T1) (x2 : T2) (x3 : T3) (x4 : T4) (x5 : T5) (x6 : T6) (x7 : T7), d < m → Inv d x0 x1 x2 x3 x4 x5 x6 x7 → Ok (lo8 B m x0 x1 x2 x3 x4 x5 x6 x7) P := by
  intro m
  induction m with
  | zero => intro d x0 x1 x2 x3 x4 x5 x6 x7 hd; omega
  | succ m ih =>
    intro d x0 x1 x2 x3 x4 x5 x6 x7 hd hI
    rw [lo8_s]
    exact hs _ d x0 x1 x2 x3 x4 x5 x6 x7 hI (fun d' y0 y1 y2 y3 y4 y5 y6 y7 hd' hI' => ih d' y0 y1 y2 y3 y4 y5 y6 y7 (by omega) hI')
theorem Ok.f8 {α : Type} {T0 T1 T2 T3 T4 T5 T6 T7 : Type} {B : (T0 → T1 → T2 → T3 → T4 → T5 → T6 → T7 → Option (α × St)) → T0 → T1 → T2 → T3 → T4 → T5 → T6 → T7 → Option (α × St)} {P : α → St → Prop} (n k0 : Nat) (Inv : Nat → T0 → T1 → T2 → T3 → T4 → T5 → T6 → T7 → Prop) {x0 : T0} {x1 : T1} {x2 : T2} {x3 : T3} {x4 : T4} {x5 : T5} {x6 : T6} {x7 : T7} (hk : k0 ≤ n) (hn : n < 20000) (h0 : Inv k0 x0 x1 x2 x3 x4 x5 x6 x7) (hs : ∀ j k (x0 : T0) (x1 : T1) (x2 : T2) (x3 : T3) (x4 : T4) (x5 : T5) (x6 : T6) (x7 : T7), k < n → Inv k x0 x1 x2 x3 x4 x5 x6 x7 → (∀ (y0 : T0) (y1 : T1) (y2 : T2) (y3 : T3) (y4 : T4) (y5 : T5) (y6 : T6) (y7 : T7), Inv (k + 1) y0 y1 y2 y3 y4 y5 y6 y7 → Ok (j y0 y1 y2 y3 y4 y5 y6 y7) P) → Ok (B j x0 x1 x2 x3 x4 x5 x6 x7) P) (hx : ∀ j (x0 : T0) (x1 : T1) (x2 : T2) (x3 : T3) (x4 : T4) (x5 : T5) (x6 : T6) (x7 : T7), Inv n x0 x1 x2 x3 x4 x5 x6 x7 → Ok (B j x0 x1 x2 x3 x4 x5 x6 x7) P) : Ok (lo8 B FU x0 x1 x2 x3 x4 x5 x6 x7) P := by
  refine Ok.m8 (fun d x0 x1 x2 x3 x4 x5 x6 x7 => ∃ k, k + d = n ∧ Inv k x0 x1 x2 x3 x4 x5 x6 x7) ?_ FU (n - k0) x0 x1 x2 x3 x4 x5 x6 x7 (by unfold FU; omega) ⟨k0, by omega, h0⟩
  rintro j d x0 x1 x2 x3 x4 x5 x6 x7 ⟨k, hkd, hI⟩ hj
  by_cases e : k = n
  · subst e; exact hx j x0 x1 x2 x3 x4 x5 x6 x7 hI
  · exact hs j k x0 x1 x2 x3 x4 x5 x6 x7 (by omega) hI (fun y0 y1 y2 y3 y4 y5 y6 y7 hI' => hj (d - 1) y0 y1 y2 y3 y4 y5 y6 y7 (by omega) ⟨k + 1, by omega, hI'⟩)
theorem Ok.m9 {α : Type} {T0 T1 T2 T3 T4 T5 T6 T7 T8 : Type} {B : (T0 → T1 → T2 → T3 → T4 → T5 → T6 → T7 → T8 → Option (α × St)) → T0 → T1 → T2 → T3 → T4 → T5 → T6 → T7 → T8 → Option (α × St)} {P : α → St → Prop} (Inv : Nat → T0 → T1 → T2 → T3 → T4 → T5 → T6 → T7 → T8 → Prop) (hs : ∀ j d (x0 : T0) (x1 : T1) (x2 : T2) (x3 : T3) (x4 : T4) (x5 : T5) (x6 : T6) (x7 : T7) (x8 : T8), Inv d x0 x1 x2 x3 x4 x5 x6 x7 x8 → (∀ d' (y0 : T0) (y1 : T1) (y2 : T2) (y3 : T3) (y4 : T4) (y5 : T5) (y6 : T6) (y7 : T7) (y8 : T8), d' < d → Inv d' y0 y1 y2 y3 y4 y5 y6 y7 y8 → Ok (j y0 y1 y2 y3 y4 y5 y6 y7 y8) P) → Ok (B j x0 x1 x2 x3 x4 x5 x6 x7 x8) P) : ∀ (m d : Nat) (x0 : T0) (x1 : T1) (x2 : T2) (x3 : T3) (x4 : T4) (x5 : T5) (x6 : T6) (x7 : T7) (x8 : T8), d < m → Inv d x0 x1 x2 x3 x4 x5 x6 x7 x8 → Ok (lo9 B m x0 x1 x2 x3 x4 x5 x6 x7 x8) P := by
  intro m
  induction m with
  | zero => intro d x0 x1 x2 x3 x4 x5 x6 x7 x8 hd; omega
  | succ m ih =>
    intro d x0 x1 x2 x3 x4 x5 x6 x7 x8 hd hI
    rw [lo9_s]
    exact hs _ d x0 x1 x2 x3 x4 x5 x6 x7 x8 hI (fun d' y0 y1 y2 y3 y4 y5 y6 y7 y8 hd' hI' => ih d' y0 y1 y2 y3 y4 y5 y6 y7 y8 (by omega) hI')
theorem Ok.f9 {α : Type} {T0 T1 T2 T3 T4 T5 T6 T7 T8 : Type} {B : (T0 → T1 → T2 → T3 → T4 → T5 → T6 → T7 → T8 → Option (α × St)) → T0 → T1 → T2 → T3 → T4 → T5 → T6 → T7 → T8 → Option (α × St)} {P : α → St → Prop} (n k0 : Nat) (Inv : Nat → T0 → T1 → T2 → T3 → T4 → T5 → T6 → T7 → T8 → Prop) {x0 : T0} {x1 : T1} {x2 : T2} {x3 : T3} {x4 : T4} {x5 : T5} {x6 : T6} {x7 : T7} {x8 : T8} (hk : k0 ≤ n) (hn : n < 20000) (h0 : Inv k0 x0 x1 x2 x3 x4 x5 x6 x7 x8) (hs : ∀ j k (x0 : T0) (x1 : T1) (x2 : T2) (x3 : T3) (x4 : T4) (x5 : T5) (x6 : T6) (x7 : T7) (x8 : T8), k < n → Inv k x0 x1 x2 x3 x4 x5 x6 x7 x8 → (∀ (y0 : T0) (y1 : T1) (y2 : T2) (y3 : T3) (y4 : T4) (y5 : T5) (y6 : T6) (y7 : T7) (y8 : T8), Inv (k + 1) y0 y1 y2 y3 y4 y5 y6 y7 y8 → Ok (j y0 y1 y2 y3 y4 y5 y6 y7 y8) P) → Ok (B j x0 x1 x2 x3 x4 x5 x6 x7 x8) P) (hx : ∀ j (x0 : T0) (x1 : T1) (x2 : T2) (x3 : T3) (x4 : T4) (x5 : T5) (x6 : T6) (x7 : T7) (x8 : T8), Inv n x0 x1 x2 x3 x4 x5 x6 x7 x8 → Ok (B j x0 x1 x2 x3 x4 x5 x6 x7 x8) P) : Ok (lo9 B FU x0 x1 x2 x3 x4 x5 x6 x7 x8) P := by
  refine Ok.m9 (fun d x0 x1 x2 x3 x4 x5 x6 x7 x8 => ∃ k, k + d = n ∧ Inv k x0 x1 x2 x3 x4 x5 x6 x7 x8) ?_ FU (n - k0) x0 x1 x2 x3 x4 x5 x6 x7 x8 (by unfold FU; omega) ⟨k0, by omega, h0⟩
  rintro j d x0 x1 x2 x3 x4 x5 x6 x7 x8 ⟨k, hkd, hI⟩ hj
  by_cases e : k = n
  · subst e; exact hx j x0 x1 x2 x3 x4 x5 x6 x7 x8 hI
  · exact hs j k x0 x1 x2 x3 x4 x5 x6 x7 x8 (by omega) hI (fun y0 y1 y2 y3 y4 y5 y6 y7 y8 hI' => hj (d - 1) y0 y1 y2 y3 y4 y5 y6 y7 y8 (by omega) ⟨k + 1, by omega, hI'⟩)
theorem Ok.m10 {α : Type} {T0 T1 T2 T3 T4 T5 T6 T7 T8 T9 : Type} {B : (T0 → T1 → T2 → T3 → T4 → T5 → T6 → T7 → T8 → T9 → Option (α × St)) → T0 → T1 → T2 → T3 → T4 → T5 → T6 → T7 → T8 → T9 → Option (α × St)} {P : α → St → Prop} (Inv : Nat → T0 → T1 → T2 → T3 → T4 → T5 → T6 → T7 → T8 → T9 → Prop) (hs : ∀ j d (x0 : T0) (x1 : T1) (x2 : T2) (x3 : T3) (x4 : T4) (x5 : T5) (x6 : T6) (x7 : T7) (x8 : T8) (x9 : T9), Inv d x0 x1 x2 x3 x4 x5 x6 x7 x8 x9 → (∀ d' (y0 : T0) (y1 : T1) (y2 : T2) (y3 : T3) (y4 : T4) (y5 : T5) (y6 : T6) (y7 : T7) (y8 : T8) (y9 : T9), d' < d → Inv d' y0 y1 y2 y3 y4 y5 y6 y7 y8 y9 → Ok (j y0 y1 y2 y3 y4 y5 y6 y7 y8 y9) P) → Ok (B j x0 x1 x2 x3 x4 x5 x6 x7 x8 x9) P) : ∀ (m d : Nat) (x0 : T0) (x1 : T1) (x2 : T2) (x3 : T3) (x4 : T4) (x5 : T5) (x6 : T6) (x7 : T7) (x8 : T8) (x9 : T9), d < m → Inv d x0 x1 x2 x3 x4 x5 x6 x7 x8 x9 → Ok (lo10 B m x0 x1 x2 x3 x4 x5 x6 x7 x8 x9) P := by
  intro m
  induction m with
  | zero => intro d x0 x1 x2 x3 x4 x5 x6 x7 x8 x9 hd; omega
  | succ m ih =>
    intro d x0 x1 x2 x3 x4 x5 x6 x7 x8 x9 hd hI
    rw [lo10_s]
    exact hs _ d x0 x1 x2 x3 x4 x5 x6 x7 x8 x9 hI (fun d' y0 y1 y2 y3 y4 y5 y6 y7 y8 y9 hd' hI' => ih d' y0 y1 y2 y3 y4 y5 y6 y7 y8 y9 (by omega) hI')
theorem Ok.f10 {α : Type} {T0 T1 T2 T3 T4 T5 T6 T7 T8 T9 : Type} {B : (T0 → T1 → T2 → T3 → T4 → T5 → T6 → T7 → T8 → T9 → Option (α × St)) → T0 → T1 → T2 → T3 → T4 → T5 → T6 → T7 → T8 → T9 → Option (α × St)} {P : α → St → Prop} (n k0 : Nat) (Inv : Nat → T0 → T1 → T2 → T3 → T4 → T5 → T6 → T7 → T8 → T9 → Prop) {x0 : T0} {x1 : T1} {x2 : T2} {x3 : T3} {x4 : T4} {x5 : T5} {x6 : T6} {x7 : T7} {x8 : T8} {x9 : T9} (hk : k0 ≤ n) (hn : n < 20000) (h0 : Inv k0 x0 x1 x2 x3 x4 x5 x6 x7 x8 x9) (hs : ∀ j k (x0 : T0) (x1 : T1) (x2 : T2) (x3 : T3) (x4 : T4) (x5 : T5) (x6 : T6) (x7 : T7) (x8 : T8) (x9 : T9), k < n → Inv k x0 x1 x2 x3 x4 x5 x6 x7 x8 x9 → (∀ (y0 : T0) (y1 : T1) (y2 : T2) (y3 : T3) (y4 : T4) (y5 : T5) (y6 : T6) (y7 : T7) (y8 : T8) (y9 : T9), Inv (k + 1) y0 y1 y2 y3 y4 y5 y6 y7 y8 y9 → Ok (j y0 y1 y2 y3 y4 y5 y6 y7 y8 y9) P) → Ok (B j x0 x1 x2 x3 x4 x5 x6 x7 x8 x9) P) (hx : ∀ j (x0 : T0) (x1 : T1) (x2 : T2) (x3 : T3) (x4 : T4) (x5 : T5) (x6 : T6) (x7 : T7) (x8 : T8) (x9 : T9), Inv n x0 x1 x2 x3 x4 x5 x6 x7 x8 x9 → Ok (B j x0 x1 x2 x3 x4 x5 x6 x7 x8 x9) P) : Ok (lo10 B FU x0 x1 x2 x3 x4 x5 x6 x7 x8 x9) P := by
  refine Ok.m10 (fun d x0 x1 x2 x3 x4 x5 x6 x7 x8 x9 => ∃ k, k + d = n ∧ Inv k x0 x1 x2 x3 x4 x5 x6 x7 x8 x9) ?_ FU (n - k0) x0 x1 x2 x3 x4 x5 x6 x7 x8 x9 (by unfold FU; omega) ⟨k0, by omega, h0⟩
  rintro j d x0 x1 x2 x3 x4 x5 x6 x7 x8 x9 ⟨k, hkd, hI⟩ hj
  by_cases e : k = n
  · subst e; exact hx j x0 x1 x2 x3 x4 x5 x6 x7 x8 x9 hI
  · exact hs j k x0 x1 x2 x3 x4 x5 x6 x7 x8 x9 (by omega) hI (fun y0 y1 y2 y3 y4 y5 y6 y7 y8 y9 hI' => hj (d - 1) y0 y1 y2 y3 y4 y5 y6 y7 y8 y9 (by omega) ⟨k + 1, by omega, hI'⟩)

theorem inb_nI {i z : Nat} (h : i < z) (hz : z < 2 ^ 31) : inb (nI i) z := by
  refine ⟨?_, ?_⟩
  · rw [nI_toInt (by omega)]; omega
  · rw [nI_toInt (by omega)]; omega
/-! the class's world: letters' rows and laws' stacks left open -/
abbrev Cfg : Type := (Nat → Nat) × (Nat → Nat) × Nat × (Nat → Nat) × (Nat → Nat → Int32) × St
def scrC (k : Nat) : Bool := k == 16 || k == 22 || k == 28
def lwOf (La : Nat → Nat) (nl : Nat) : Nat → Option Nat := fun i => if i < nl then some (La (3 * i)) else none
def setK (K : Cfg) (a : Nat) : Prop := setC K.1 a ∨ ∃ i, i < 3 * K.2.2.1 ∧ a = K.2.1 i
def LWd (K : Cfg) (σ : St) : Prop :=
  (∀ i j, i < 3 * K.2.2.1 → j < 3 * K.2.2.1 → K.2.1 i = K.2.1 j → i = j) ∧ (∀ i, i < 3 * K.2.2.1 → ¬ setC K.1 (K.2.1 i)) ∧
  ∀ i, i < K.2.2.1 → σ.2.2 (K.2.1 (3 * i)) = some (.inr (3, [.ref (K.2.1 (3 * i + 1)), .ref (K.2.1 (3 * i + 2))])) ∧ σ.2.2 (K.2.1 (3 * i + 1)) = some (.inl (0, K.2.2.2.1 i, .inl (K.2.2.2.2.1 i))) ∧ ∃ st, σ.2.2 (K.2.1 (3 * i + 2)) = some (.inl (0, 40, .inl st))
def CV (K : Cfg) (I : Nat → Int32) (R : Nat → Nat → Int32) (dr : Int64) (σ : St) : Prop := ∃ R', (∀ k, scrC k = false → R' k = R k) ∧ CW K.1 I R' dr (lwOf K.2.1 K.2.2.1) σ ∧ LWd K σ ∧ Sm (setK K) K.2.2.2.2.2 σ
theorem LWd.sm {K : Cfg} {σ t : St} (h : LWd K σ) (hs : Sm (setC K.1) σ t) : LWd K t := by
  refine ⟨h.1, h.2.1, fun i hi => ?_⟩
  obtain ⟨h1, h2, st, h3⟩ := h.2.2 i hi
  exact ⟨(hs.2 _ (h.2.1 _ (by omega))).trans h1, (hs.2 _ (h.2.1 _ (by omega))).trans h2, st, (hs.2 _ (h.2.1 _ (by omega))).trans h3⟩
theorem Sm.mono {S T : Nat → Prop} {σ t : St} (h : Sm S σ t) (hi : ∀ a, S a → T a) : Sm T σ t := ⟨h.1, fun a ha => h.2 a (fun q => ha (hi a q))⟩
section
variable {K : Cfg} {I : Nat → Int32} {R : Nat → Nat → Int32} {dr : Int64} {σ : St}
theorem CV.putI (h : CV K I R dr σ) (k f : Nat) (v : Int32) {ci : Nat} {fs : List Value} (hk : domC k = true) (hf : f < 20) (hc : ∀ R, cellC K.1 I R dr (lwOf K.2.1 K.2.2.1) k = .inr (ci, fs)) (hl : f < fs.length) (hn : ∀ R, cellC K.1 (upd I (20 * k + f) v) R dr (lwOf K.2.1 K.2.2.1) k = .inr (ci, fs.set f (.int v))) : ∃ t, pV ci f σ (K.1 k) (.int v) = some t ∧ CV K (upd I (20 * k + f) v) R dr t := by
  obtain ⟨R', hR, hw, hl', hs⟩ := h
  obtain ⟨t, e, g1, g2⟩ := hw.putI k f v hk hf (hc R') hl (hn R')
  exact ⟨t, e, R', hR, g1, hl'.sm g2, hs.tr (g2.mono (fun a q => Or.inl q))⟩
theorem CV.putDr (h : CV K I R dr σ) (v : Int64) : ∃ t, pV 9 15 σ (K.1 0) (.long v) = some t ∧ CV K I R v t := by
  obtain ⟨R', hR, hw, hl', hs⟩ := h
  obtain ⟨g1, g2⟩ := hw.put (I2 := I) (R2 := R') (lw2 := lwOf K.2.1 K.2.2.1) (dr2 := v) 0 rfl (fun _ _ _ _ => rfl) (fun _ _ => rfl) (fun q => absurd rfl q) (fun _ => rfl)
  exact ⟨_, pV_of (hw.2 0 rfl) (Nat.le_of_ble_eq_true rfl) _, R', hR, g1, hl'.sm g2, hs.tr (g2.mono (fun a q => Or.inl q))⟩
theorem CV.putN (h : CV K I R dr σ) (k i : Nat) (v : Int32) {t z : Nat} (hk : domC k = true) (hr : scrC k = false) (hc : ∀ R, cellC K.1 I R dr (lwOf K.2.1 K.2.2.1) k = .inl (t, z, .inl (R k))) (hi : i < z) (hz : z < 2 ^ 31) : ∃ u, sI t σ (K.1 k) (nI i) v = some u ∧ CV K I (updR R k (upd (R k) i v)) dr u := by
  obtain ⟨R', hR, hw, hl', hs⟩ := h
  obtain ⟨u, e, g1, g2⟩ := hw.putA k (nI i) v hk hc (inb_nI hi hz)
  rw [nI_clamp (by omega), hR k hr] at g1
  refine ⟨u, e, updR R' k (upd (R k) i v), fun j hj => ?_, g1, hl'.sm g2, hs.tr (g2.mono (fun a q => Or.inl q))⟩
  by_cases q : j = k
  · subst q; rw [updR_s, updR_s]
  · rw [updR_n _ _ q, updR_n _ _ q, hR j hj]
theorem CV.congr {I2 : Nat → Int32} {R2 : Nat → Nat → Int32} {dr2 : Int64} (h : CV K I R dr σ) (e1 : I = I2) (e2 : R = R2) (e3 : dr = dr2) : CV K I2 R2 dr2 σ := by
  subst e1; subst e2; subst e3; exact h
theorem kO_0 (h : CV K I R dr σ) : isO 9 σ (K.1 0) = true := by
  obtain ⟨R1, _, hw, _⟩ := h
  exact cO_0 hw
theorem kr_0_0 (h : CV K I R dr σ) : gR 9 0 σ (K.1 0) = some (K.1 1) := by
  obtain ⟨R1, _, hw, _⟩ := h
  exact cr_0_0 hw
theorem kr_0_1 (h : CV K I R dr σ) : gR 9 1 σ (K.1 0) = some (K.1 3) := by
  obtain ⟨R1, _, hw, _⟩ := h
  exact cr_0_1 hw
theorem kr_0_2 (h : CV K I R dr σ) : gR 9 2 σ (K.1 0) = some (K.1 7) := by
  obtain ⟨R1, _, hw, _⟩ := h
  exact cr_0_2 hw
theorem kr_0_3 (h : CV K I R dr σ) : gR 9 3 σ (K.1 0) = some (K.1 9) := by
  obtain ⟨R1, _, hw, _⟩ := h
  exact cr_0_3 hw
theorem kr_0_4 (h : CV K I R dr σ) : gI 9 4 σ (K.1 0) = some (I 4) := by
  obtain ⟨R1, _, hw, _⟩ := h
  exact cr_0_4 hw
theorem kr_0_5 (h : CV K I R dr σ) : gI 9 5 σ (K.1 0) = some (I 5) := by
  obtain ⟨R1, _, hw, _⟩ := h
  exact cr_0_5 hw
theorem kr_0_6 (h : CV K I R dr σ) : gI 9 6 σ (K.1 0) = some (I 6) := by
  obtain ⟨R1, _, hw, _⟩ := h
  exact cr_0_6 hw
theorem kr_0_7 (h : CV K I R dr σ) : gR 9 7 σ (K.1 0) = some (K.1 10) := by
  obtain ⟨R1, _, hw, _⟩ := h
  exact cr_0_7 hw
theorem kr_0_8 (h : CV K I R dr σ) : gR 9 8 σ (K.1 0) = some (K.1 11) := by
  obtain ⟨R1, _, hw, _⟩ := h
  exact cr_0_8 hw
theorem kr_0_9 (h : CV K I R dr σ) : gR 9 9 σ (K.1 0) = some (K.1 17) := by
  obtain ⟨R1, _, hw, _⟩ := h
  exact cr_0_9 hw
theorem kr_0_10 (h : CV K I R dr σ) : gR 9 10 σ (K.1 0) = some (K.1 23) := by
  obtain ⟨R1, _, hw, _⟩ := h
  exact cr_0_10 hw
theorem kr_0_11 (h : CV K I R dr σ) : gR 9 11 σ (K.1 0) = some (K.1 29) := by
  obtain ⟨R1, _, hw, _⟩ := h
  exact cr_0_11 hw
theorem kr_0_12 (h : CV K I R dr σ) : gR 9 12 σ (K.1 0) = some (K.1 34) := by
  obtain ⟨R1, _, hw, _⟩ := h
  exact cr_0_12 hw
theorem kr_0_13 (h : CV K I R dr σ) : gR 9 13 σ (K.1 0) = some (K.1 40) := by
  obtain ⟨R1, _, hw, _⟩ := h
  exact cr_0_13 hw
theorem kr_0_14 (h : CV K I R dr σ) : gR 9 14 σ (K.1 0) = some (K.1 42) := by
  obtain ⟨R1, _, hw, _⟩ := h
  exact cr_0_14 hw
theorem kr_0_15 (h : CV K I R dr σ) : gL 9 15 σ (K.1 0) = some dr := by
  obtain ⟨R1, _, hw, _⟩ := h
  exact cr_0_15 hw
theorem kO_1 (h : CV K I R dr σ) : isO 8 σ (K.1 1) = true := by
  obtain ⟨R1, _, hw, _⟩ := h
  exact cO_1 hw
theorem kr_1_0 (h : CV K I R dr σ) : gR 8 0 σ (K.1 1) = some (K.1 2) := by
  obtain ⟨R1, _, hw, _⟩ := h
  exact cr_1_0 hw
theorem kr_1_1 (h : CV K I R dr σ) : gI 8 1 σ (K.1 1) = some (I 21) := by
  obtain ⟨R1, _, hw, _⟩ := h
  exact cr_1_1 hw
theorem kr_1_2 (h : CV K I R dr σ) : gI 8 2 σ (K.1 1) = some (I 22) := by
  obtain ⟨R1, _, hw, _⟩ := h
  exact cr_1_2 hw
theorem kr_1_3 (h : CV K I R dr σ) : gI 8 3 σ (K.1 1) = some (I 23) := by
  obtain ⟨R1, _, hw, _⟩ := h
  exact cr_1_3 hw
theorem ka_2 (h : CV K I R dr σ) {i : Nat} (hi : i < 240) : aI 0 σ (K.1 2) (nI i) = some (R 2 i) := by
  obtain ⟨R1, hR, hw, _⟩ := h
  rw [ca_2 hw (inb_nI hi (by decide)), nI_clamp (by omega), hR 2 rfl]
theorem kO_3 (h : CV K I R dr σ) : isO 2 σ (K.1 3) = true := by
  obtain ⟨R1, _, hw, _⟩ := h
  exact cO_3 hw
theorem kr_3_0 (h : CV K I R dr σ) : gR 2 0 σ (K.1 3) = some (K.1 1) := by
  obtain ⟨R1, _, hw, _⟩ := h
  exact cr_3_0 hw
theorem kr_3_1 (h : CV K I R dr σ) : gR 2 1 σ (K.1 3) = some (K.1 4) := by
  obtain ⟨R1, _, hw, _⟩ := h
  exact cr_3_1 hw
theorem kr_3_2 (h : CV K I R dr σ) : gR 2 2 σ (K.1 3) = some (K.1 5) := by
  obtain ⟨R1, _, hw, _⟩ := h
  exact cr_3_2 hw
theorem kr_3_3 (h : CV K I R dr σ) : gR 2 3 σ (K.1 3) = some (K.1 6) := by
  obtain ⟨R1, _, hw, _⟩ := h
  exact cr_3_3 hw
theorem kr_3_4 (h : CV K I R dr σ) : gI 2 4 σ (K.1 3) = some (I 64) := by
  obtain ⟨R1, _, hw, _⟩ := h
  exact cr_3_4 hw
theorem kr_3_5 (h : CV K I R dr σ) : gI 2 5 σ (K.1 3) = some (I 65) := by
  obtain ⟨R1, _, hw, _⟩ := h
  exact cr_3_5 hw
theorem kr_3_6 (h : CV K I R dr σ) : gI 2 6 σ (K.1 3) = some (I 66) := by
  obtain ⟨R1, _, hw, _⟩ := h
  exact cr_3_6 hw
theorem kr_3_7 (h : CV K I R dr σ) : gI 2 7 σ (K.1 3) = some (I 67) := by
  obtain ⟨R1, _, hw, _⟩ := h
  exact cr_3_7 hw
theorem ka_4 (h : CV K I R dr σ) {i : Nat} (hi : i < 4) : aI 0 σ (K.1 4) (nI i) = some (R 4 i) := by
  obtain ⟨R1, hR, hw, _⟩ := h
  rw [ca_4 hw (inb_nI hi (by decide)), nI_clamp (by omega), hR 4 rfl]
theorem ka_5 (h : CV K I R dr σ) {i : Nat} (hi : i < 16) : aI 0 σ (K.1 5) (nI i) = some (R 5 i) := by
  obtain ⟨R1, hR, hw, _⟩ := h
  rw [ca_5 hw (inb_nI hi (by decide)), nI_clamp (by omega), hR 5 rfl]
theorem ka_6 (h : CV K I R dr σ) {i : Nat} (hi : i < 30) : aI 0 σ (K.1 6) (nI i) = some (R 6 i) := by
  obtain ⟨R1, hR, hw, _⟩ := h
  rw [ca_6 hw (inb_nI hi (by decide)), nI_clamp (by omega), hR 6 rfl]
theorem kO_7 (h : CV K I R dr σ) : isO 4 σ (K.1 7) = true := by
  obtain ⟨R1, _, hw, _⟩ := h
  exact cO_7 hw
theorem kr_7_0 (h : CV K I R dr σ) : gR 4 0 σ (K.1 7) = some (K.1 1) := by
  obtain ⟨R1, _, hw, _⟩ := h
  exact cr_7_0 hw
theorem kr_7_1 (h : CV K I R dr σ) : gR 4 1 σ (K.1 7) = some (K.1 8) := by
  obtain ⟨R1, _, hw, _⟩ := h
  exact cr_7_1 hw
theorem kr_7_2 (h : CV K I R dr σ) : gI 4 2 σ (K.1 7) = some (I 142) := by
  obtain ⟨R1, _, hw, _⟩ := h
  exact cr_7_2 hw
theorem ka_8 (h : CV K I R dr σ) {i : Nat} (hi : i < 240) : aI 0 σ (K.1 8) (nI i) = some (R 8 i) := by
  obtain ⟨R1, hR, hw, _⟩ := h
  rw [ca_8 hw (inb_nI hi (by decide)), nI_clamp (by omega), hR 8 rfl]
theorem ka_10 (h : CV K I R dr σ) {i : Nat} (hi : i < 5) : aI 0 σ (K.1 10) (nI i) = some (R 10 i) := by
  obtain ⟨R1, hR, hw, _⟩ := h
  rw [ca_10 hw (inb_nI hi (by decide)), nI_clamp (by omega), hR 10 rfl]
theorem kO_11 (h : CV K I R dr σ) : isO 7 σ (K.1 11) = true := by
  obtain ⟨R1, _, hw, _⟩ := h
  exact cO_11 hw
theorem kr_11_0 (h : CV K I R dr σ) : gI 7 0 σ (K.1 11) = some (I 220) := by
  obtain ⟨R1, _, hw, _⟩ := h
  exact cr_11_0 hw
theorem kr_11_1 (h : CV K I R dr σ) : gI 7 1 σ (K.1 11) = some (I 221) := by
  obtain ⟨R1, _, hw, _⟩ := h
  exact cr_11_1 hw
theorem kr_11_2 (h : CV K I R dr σ) : gI 7 2 σ (K.1 11) = some (I 222) := by
  obtain ⟨R1, _, hw, _⟩ := h
  exact cr_11_2 hw
theorem kr_11_3 (h : CV K I R dr σ) : gI 7 3 σ (K.1 11) = some (I 223) := by
  obtain ⟨R1, _, hw, _⟩ := h
  exact cr_11_3 hw
theorem kr_11_4 (h : CV K I R dr σ) : gI 7 4 σ (K.1 11) = some (I 224) := by
  obtain ⟨R1, _, hw, _⟩ := h
  exact cr_11_4 hw
theorem kr_11_5 (h : CV K I R dr σ) : gI 7 5 σ (K.1 11) = some (I 225) := by
  obtain ⟨R1, _, hw, _⟩ := h
  exact cr_11_5 hw
theorem kr_11_6 (h : CV K I R dr σ) : gI 7 6 σ (K.1 11) = some (I 226) := by
  obtain ⟨R1, _, hw, _⟩ := h
  exact cr_11_6 hw
theorem kr_11_7 (h : CV K I R dr σ) : gI 7 7 σ (K.1 11) = some (I 227) := by
  obtain ⟨R1, _, hw, _⟩ := h
  exact cr_11_7 hw
theorem kr_11_8 (h : CV K I R dr σ) : gI 7 8 σ (K.1 11) = some (I 228) := by
  obtain ⟨R1, _, hw, _⟩ := h
  exact cr_11_8 hw
theorem kr_11_9 (h : CV K I R dr σ) : gR 7 9 σ (K.1 11) = some (K.1 12) := by
  obtain ⟨R1, _, hw, _⟩ := h
  exact cr_11_9 hw
theorem kr_11_10 (h : CV K I R dr σ) : gR 7 10 σ (K.1 11) = some (K.1 13) := by
  obtain ⟨R1, _, hw, _⟩ := h
  exact cr_11_10 hw
theorem kr_11_11 (h : CV K I R dr σ) : gR 7 11 σ (K.1 11) = some (K.1 14) := by
  obtain ⟨R1, _, hw, _⟩ := h
  exact cr_11_11 hw
theorem kr_11_12 (h : CV K I R dr σ) : gR 7 12 σ (K.1 11) = some (K.1 15) := by
  obtain ⟨R1, _, hw, _⟩ := h
  exact cr_11_12 hw
theorem kr_11_13 (h : CV K I R dr σ) : gR 7 13 σ (K.1 11) = some (K.1 16) := by
  obtain ⟨R1, _, hw, _⟩ := h
  exact cr_11_13 hw
theorem ka_12 (h : CV K I R dr σ) {i : Nat} (hi : i < 30) : aI 0 σ (K.1 12) (nI i) = some (R 12 i) := by
  obtain ⟨R1, hR, hw, _⟩ := h
  rw [ca_12 hw (inb_nI hi (by decide)), nI_clamp (by omega), hR 12 rfl]
theorem ka_13 (h : CV K I R dr σ) {i : Nat} (hi : i < 4) : aI 0 σ (K.1 13) (nI i) = some (R 13 i) := by
  obtain ⟨R1, hR, hw, _⟩ := h
  rw [ca_13 hw (inb_nI hi (by decide)), nI_clamp (by omega), hR 13 rfl]
theorem ka_14 (h : CV K I R dr σ) {i : Nat} (hi : i < 4) : aI 0 σ (K.1 14) (nI i) = some (R 14 i) := by
  obtain ⟨R1, hR, hw, _⟩ := h
  rw [ca_14 hw (inb_nI hi (by decide)), nI_clamp (by omega), hR 14 rfl]
theorem ka_15 (h : CV K I R dr σ) {i : Nat} (hi : i < 4) : aI 0 σ (K.1 15) (nI i) = some (R 15 i) := by
  obtain ⟨R1, hR, hw, _⟩ := h
  rw [ca_15 hw (inb_nI hi (by decide)), nI_clamp (by omega), hR 15 rfl]
theorem kO_17 (h : CV K I R dr σ) : isO 7 σ (K.1 17) = true := by
  obtain ⟨R1, _, hw, _⟩ := h
  exact cO_17 hw
theorem kr_17_0 (h : CV K I R dr σ) : gI 7 0 σ (K.1 17) = some (I 340) := by
  obtain ⟨R1, _, hw, _⟩ := h
  exact cr_17_0 hw
theorem kr_17_1 (h : CV K I R dr σ) : gI 7 1 σ (K.1 17) = some (I 341) := by
  obtain ⟨R1, _, hw, _⟩ := h
  exact cr_17_1 hw
theorem kr_17_2 (h : CV K I R dr σ) : gI 7 2 σ (K.1 17) = some (I 342) := by
  obtain ⟨R1, _, hw, _⟩ := h
  exact cr_17_2 hw
theorem kr_17_3 (h : CV K I R dr σ) : gI 7 3 σ (K.1 17) = some (I 343) := by
  obtain ⟨R1, _, hw, _⟩ := h
  exact cr_17_3 hw
theorem kr_17_4 (h : CV K I R dr σ) : gI 7 4 σ (K.1 17) = some (I 344) := by
  obtain ⟨R1, _, hw, _⟩ := h
  exact cr_17_4 hw
theorem kr_17_5 (h : CV K I R dr σ) : gI 7 5 σ (K.1 17) = some (I 345) := by
  obtain ⟨R1, _, hw, _⟩ := h
  exact cr_17_5 hw
theorem kr_17_6 (h : CV K I R dr σ) : gI 7 6 σ (K.1 17) = some (I 346) := by
  obtain ⟨R1, _, hw, _⟩ := h
  exact cr_17_6 hw
theorem kr_17_7 (h : CV K I R dr σ) : gI 7 7 σ (K.1 17) = some (I 347) := by
  obtain ⟨R1, _, hw, _⟩ := h
  exact cr_17_7 hw
theorem kr_17_8 (h : CV K I R dr σ) : gI 7 8 σ (K.1 17) = some (I 348) := by
  obtain ⟨R1, _, hw, _⟩ := h
  exact cr_17_8 hw
theorem kr_17_9 (h : CV K I R dr σ) : gR 7 9 σ (K.1 17) = some (K.1 18) := by
  obtain ⟨R1, _, hw, _⟩ := h
  exact cr_17_9 hw
theorem kr_17_10 (h : CV K I R dr σ) : gR 7 10 σ (K.1 17) = some (K.1 19) := by
  obtain ⟨R1, _, hw, _⟩ := h
  exact cr_17_10 hw
theorem kr_17_11 (h : CV K I R dr σ) : gR 7 11 σ (K.1 17) = some (K.1 20) := by
  obtain ⟨R1, _, hw, _⟩ := h
  exact cr_17_11 hw
theorem kr_17_12 (h : CV K I R dr σ) : gR 7 12 σ (K.1 17) = some (K.1 21) := by
  obtain ⟨R1, _, hw, _⟩ := h
  exact cr_17_12 hw
theorem kr_17_13 (h : CV K I R dr σ) : gR 7 13 σ (K.1 17) = some (K.1 22) := by
  obtain ⟨R1, _, hw, _⟩ := h
  exact cr_17_13 hw
theorem ka_18 (h : CV K I R dr σ) {i : Nat} (hi : i < 30) : aI 0 σ (K.1 18) (nI i) = some (R 18 i) := by
  obtain ⟨R1, hR, hw, _⟩ := h
  rw [ca_18 hw (inb_nI hi (by decide)), nI_clamp (by omega), hR 18 rfl]
theorem ka_19 (h : CV K I R dr σ) {i : Nat} (hi : i < 4) : aI 0 σ (K.1 19) (nI i) = some (R 19 i) := by
  obtain ⟨R1, hR, hw, _⟩ := h
  rw [ca_19 hw (inb_nI hi (by decide)), nI_clamp (by omega), hR 19 rfl]
theorem ka_20 (h : CV K I R dr σ) {i : Nat} (hi : i < 4) : aI 0 σ (K.1 20) (nI i) = some (R 20 i) := by
  obtain ⟨R1, hR, hw, _⟩ := h
  rw [ca_20 hw (inb_nI hi (by decide)), nI_clamp (by omega), hR 20 rfl]
theorem ka_21 (h : CV K I R dr σ) {i : Nat} (hi : i < 4) : aI 0 σ (K.1 21) (nI i) = some (R 21 i) := by
  obtain ⟨R1, hR, hw, _⟩ := h
  rw [ca_21 hw (inb_nI hi (by decide)), nI_clamp (by omega), hR 21 rfl]
theorem kO_23 (h : CV K I R dr σ) : isO 7 σ (K.1 23) = true := by
  obtain ⟨R1, _, hw, _⟩ := h
  exact cO_23 hw
theorem kr_23_0 (h : CV K I R dr σ) : gI 7 0 σ (K.1 23) = some (I 460) := by
  obtain ⟨R1, _, hw, _⟩ := h
  exact cr_23_0 hw
theorem kr_23_1 (h : CV K I R dr σ) : gI 7 1 σ (K.1 23) = some (I 461) := by
  obtain ⟨R1, _, hw, _⟩ := h
  exact cr_23_1 hw
theorem kr_23_2 (h : CV K I R dr σ) : gI 7 2 σ (K.1 23) = some (I 462) := by
  obtain ⟨R1, _, hw, _⟩ := h
  exact cr_23_2 hw
theorem kr_23_3 (h : CV K I R dr σ) : gI 7 3 σ (K.1 23) = some (I 463) := by
  obtain ⟨R1, _, hw, _⟩ := h
  exact cr_23_3 hw
theorem kr_23_4 (h : CV K I R dr σ) : gI 7 4 σ (K.1 23) = some (I 464) := by
  obtain ⟨R1, _, hw, _⟩ := h
  exact cr_23_4 hw
theorem kr_23_5 (h : CV K I R dr σ) : gI 7 5 σ (K.1 23) = some (I 465) := by
  obtain ⟨R1, _, hw, _⟩ := h
  exact cr_23_5 hw
theorem kr_23_6 (h : CV K I R dr σ) : gI 7 6 σ (K.1 23) = some (I 466) := by
  obtain ⟨R1, _, hw, _⟩ := h
  exact cr_23_6 hw
theorem kr_23_7 (h : CV K I R dr σ) : gI 7 7 σ (K.1 23) = some (I 467) := by
  obtain ⟨R1, _, hw, _⟩ := h
  exact cr_23_7 hw
theorem kr_23_8 (h : CV K I R dr σ) : gI 7 8 σ (K.1 23) = some (I 468) := by
  obtain ⟨R1, _, hw, _⟩ := h
  exact cr_23_8 hw
theorem kr_23_9 (h : CV K I R dr σ) : gR 7 9 σ (K.1 23) = some (K.1 24) := by
  obtain ⟨R1, _, hw, _⟩ := h
  exact cr_23_9 hw
theorem kr_23_10 (h : CV K I R dr σ) : gR 7 10 σ (K.1 23) = some (K.1 25) := by
  obtain ⟨R1, _, hw, _⟩ := h
  exact cr_23_10 hw
theorem kr_23_11 (h : CV K I R dr σ) : gR 7 11 σ (K.1 23) = some (K.1 26) := by
  obtain ⟨R1, _, hw, _⟩ := h
  exact cr_23_11 hw
theorem kr_23_12 (h : CV K I R dr σ) : gR 7 12 σ (K.1 23) = some (K.1 27) := by
  obtain ⟨R1, _, hw, _⟩ := h
  exact cr_23_12 hw
theorem kr_23_13 (h : CV K I R dr σ) : gR 7 13 σ (K.1 23) = some (K.1 28) := by
  obtain ⟨R1, _, hw, _⟩ := h
  exact cr_23_13 hw
theorem ka_24 (h : CV K I R dr σ) {i : Nat} (hi : i < 30) : aI 0 σ (K.1 24) (nI i) = some (R 24 i) := by
  obtain ⟨R1, hR, hw, _⟩ := h
  rw [ca_24 hw (inb_nI hi (by decide)), nI_clamp (by omega), hR 24 rfl]
theorem ka_25 (h : CV K I R dr σ) {i : Nat} (hi : i < 4) : aI 0 σ (K.1 25) (nI i) = some (R 25 i) := by
  obtain ⟨R1, hR, hw, _⟩ := h
  rw [ca_25 hw (inb_nI hi (by decide)), nI_clamp (by omega), hR 25 rfl]
theorem ka_26 (h : CV K I R dr σ) {i : Nat} (hi : i < 4) : aI 0 σ (K.1 26) (nI i) = some (R 26 i) := by
  obtain ⟨R1, hR, hw, _⟩ := h
  rw [ca_26 hw (inb_nI hi (by decide)), nI_clamp (by omega), hR 26 rfl]
theorem ka_27 (h : CV K I R dr σ) {i : Nat} (hi : i < 4) : aI 0 σ (K.1 27) (nI i) = some (R 27 i) := by
  obtain ⟨R1, hR, hw, _⟩ := h
  rw [ca_27 hw (inb_nI hi (by decide)), nI_clamp (by omega), hR 27 rfl]
theorem kO_29 (h : CV K I R dr σ) : isO 5 σ (K.1 29) = true := by
  obtain ⟨R1, _, hw, _⟩ := h
  exact cO_29 hw
theorem kr_29_0 (h : CV K I R dr σ) : gR 5 0 σ (K.1 29) = some (K.1 30) := by
  obtain ⟨R1, _, hw, _⟩ := h
  exact cr_29_0 hw
theorem kr_29_1 (h : CV K I R dr σ) : gI 5 1 σ (K.1 29) = some (I 581) := by
  obtain ⟨R1, _, hw, _⟩ := h
  exact cr_29_1 hw
theorem kr_29_2 (h : CV K I R dr σ) : gI 5 2 σ (K.1 29) = some (I 582) := by
  obtain ⟨R1, _, hw, _⟩ := h
  exact cr_29_2 hw
theorem kr_29_3 (h : CV K I R dr σ) : gR 5 3 σ (K.1 29) = some (K.1 31) := by
  obtain ⟨R1, _, hw, _⟩ := h
  exact cr_29_3 hw
theorem kr_29_4 (h : CV K I R dr σ) : gR 5 4 σ (K.1 29) = some (K.1 32) := by
  obtain ⟨R1, _, hw, _⟩ := h
  exact cr_29_4 hw
theorem kr_29_5 (h : CV K I R dr σ) : gR 5 5 σ (K.1 29) = some (K.1 33) := by
  obtain ⟨R1, _, hw, _⟩ := h
  exact cr_29_5 hw
theorem kr_29_6 (h : CV K I R dr σ) : gI 5 6 σ (K.1 29) = some (I 586) := by
  obtain ⟨R1, _, hw, _⟩ := h
  exact cr_29_6 hw
theorem ka_30 (h : CV K I R dr σ) {i : Nat} (hi : i < 1720) : aI 0 σ (K.1 30) (nI i) = some (R 30 i) := by
  obtain ⟨R1, hR, hw, _⟩ := h
  rw [ca_30 hw (inb_nI hi (by decide)), nI_clamp (by omega), hR 30 rfl]
theorem ka_31 (h : CV K I R dr σ) {i : Nat} (hi : i < 128) : aI 0 σ (K.1 31) (nI i) = some (R 31 i) := by
  obtain ⟨R1, hR, hw, _⟩ := h
  rw [ca_31 hw (inb_nI hi (by decide)), nI_clamp (by omega), hR 31 rfl]
theorem ka_32 (h : CV K I R dr σ) {i : Nat} (hi : i < 128) : aI 0 σ (K.1 32) (nI i) = some (R 32 i) := by
  obtain ⟨R1, hR, hw, _⟩ := h
  rw [ca_32 hw (inb_nI hi (by decide)), nI_clamp (by omega), hR 32 rfl]
theorem ka_33 (h : CV K I R dr σ) {i : Nat} (hi : i < 43) : aI 0 σ (K.1 33) (nI i) = some (R 33 i) := by
  obtain ⟨R1, hR, hw, _⟩ := h
  rw [ca_33 hw (inb_nI hi (by decide)), nI_clamp (by omega), hR 33 rfl]
theorem kO_34 (h : CV K I R dr σ) : isO 1 σ (K.1 34) = true := by
  obtain ⟨R1, _, hw, _⟩ := h
  exact cO_34 hw
theorem kr_34_0 (h : CV K I R dr σ) : gR 1 0 σ (K.1 34) = some (K.1 35) := by
  obtain ⟨R1, _, hw, _⟩ := h
  exact cr_34_0 hw
theorem kr_34_1 (h : CV K I R dr σ) : gR 1 1 σ (K.1 34) = some (K.1 36) := by
  obtain ⟨R1, _, hw, _⟩ := h
  exact cr_34_1 hw
theorem kr_34_2 (h : CV K I R dr σ) : gR 1 2 σ (K.1 34) = some (K.1 37) := by
  obtain ⟨R1, _, hw, _⟩ := h
  exact cr_34_2 hw
theorem kr_34_3 (h : CV K I R dr σ) : gI 1 3 σ (K.1 34) = some (I 683) := by
  obtain ⟨R1, _, hw, _⟩ := h
  exact cr_34_3 hw
theorem kr_34_4 (h : CV K I R dr σ) : gR 1 4 σ (K.1 34) = some (K.1 38) := by
  obtain ⟨R1, _, hw, _⟩ := h
  exact cr_34_4 hw
theorem kr_34_5 (h : CV K I R dr σ) : gR 1 5 σ (K.1 34) = some (K.1 39) := by
  obtain ⟨R1, _, hw, _⟩ := h
  exact cr_34_5 hw
theorem kr_34_6 (h : CV K I R dr σ) : gI 1 6 σ (K.1 34) = some (I 686) := by
  obtain ⟨R1, _, hw, _⟩ := h
  exact cr_34_6 hw
theorem ka_35 (h : CV K I R dr σ) {i : Nat} (hi : i < 10) : aI 0 σ (K.1 35) (nI i) = some (R 35 i) := by
  obtain ⟨R1, hR, hw, _⟩ := h
  rw [ca_35 hw (inb_nI hi (by decide)), nI_clamp (by omega), hR 35 rfl]
theorem ka_36 (h : CV K I R dr σ) {i : Nat} (hi : i < 10) : aI 0 σ (K.1 36) (nI i) = some (R 36 i) := by
  obtain ⟨R1, hR, hw, _⟩ := h
  rw [ca_36 hw (inb_nI hi (by decide)), nI_clamp (by omega), hR 36 rfl]
theorem ka_37 (h : CV K I R dr σ) {i : Nat} (hi : i < 10) : aI 1 σ (K.1 37) (nI i) = some (R 37 i) := by
  obtain ⟨R1, hR, hw, _⟩ := h
  rw [ca_37 hw (inb_nI hi (by decide)), nI_clamp (by omega), hR 37 rfl]
theorem ka_38 (h : CV K I R dr σ) {i : Nat} (hi : i < 10) : aI 0 σ (K.1 38) (nI i) = some (R 38 i) := by
  obtain ⟨R1, hR, hw, _⟩ := h
  rw [ca_38 hw (inb_nI hi (by decide)), nI_clamp (by omega), hR 38 rfl]
theorem ka_39 (h : CV K I R dr σ) {i : Nat} (hi : i < 10) : aI 0 σ (K.1 39) (nI i) = some (R 39 i) := by
  obtain ⟨R1, hR, hw, _⟩ := h
  rw [ca_39 hw (inb_nI hi (by decide)), nI_clamp (by omega), hR 39 rfl]
theorem kO_40 (h : CV K I R dr σ) : isO 6 σ (K.1 40) = true := by
  obtain ⟨R1, _, hw, _⟩ := h
  exact cO_40 hw
theorem kr_40_0 (h : CV K I R dr σ) : gR 6 0 σ (K.1 40) = some (K.1 41) := by
  obtain ⟨R1, _, hw, _⟩ := h
  exact cr_40_0 hw
theorem ka_41 (h : CV K I R dr σ) {i : Nat} (hi : i < 30) : aI 0 σ (K.1 41) (nI i) = some (R 41 i) := by
  obtain ⟨R1, hR, hw, _⟩ := h
  rw [ca_41 hw (inb_nI hi (by decide)), nI_clamp (by omega), hR 41 rfl]
theorem kO_42 (h : CV K I R dr σ) : isO 0 σ (K.1 42) = true := by
  obtain ⟨R1, _, hw, _⟩ := h
  exact cO_42 hw
theorem kr_42_0 (h : CV K I R dr σ) : gR 0 0 σ (K.1 42) = some (K.1 43) := by
  obtain ⟨R1, _, hw, _⟩ := h
  exact cr_42_0 hw
theorem kr_42_1 (h : CV K I R dr σ) : gR 0 1 σ (K.1 42) = some (K.1 44) := by
  obtain ⟨R1, _, hw, _⟩ := h
  exact cr_42_1 hw
theorem ka_43 (h : CV K I R dr σ) {i : Nat} (hi : i < 4) : aI 0 σ (K.1 43) (nI i) = some (R 43 i) := by
  obtain ⟨R1, hR, hw, _⟩ := h
  rw [ca_43 hw (inb_nI hi (by decide)), nI_clamp (by omega), hR 43 rfl]
theorem ka_44 (h : CV K I R dr σ) {i : Nat} (hi : i < 4) : aI 0 σ (K.1 44) (nI i) = some (R 44 i) := by
  obtain ⟨R1, hR, hw, _⟩ := h
  rw [ca_44 hw (inb_nI hi (by decide)), nI_clamp (by omega), hR 44 rfl]
end
/-! the reference's world: letters and stack left open -/
abbrev Mfg : Type := (Nat → Nat) × St
def scrM (k : Nat) : Bool := k == 15 || k == 16
def MV (M : Mfg) (J : Nat → Int32) (Q : Nat → Nat → Int32) (dr : Int64) (σ : St) : Prop := ∃ Q', (∀ k, scrM k = false → Q' k = Q k) ∧ MW M.1 J Q' dr σ ∧ Sm (setM M.1) M.2 σ
section
variable {M : Mfg} {J : Nat → Int32} {Q : Nat → Nat → Int32} {dr : Int64} {σ : St}
theorem MV.putI (h : MV M J Q dr σ) (f : Nat) (v : Int32) {ci : Nat} {fs : List Value} (hf : f < 50) (hc : ∀ Q, cellM M.1 J Q dr 0 = .inr (ci, fs)) (hl : f < fs.length) (hn : ∀ Q, cellM M.1 (upd J f v) Q dr 0 = .inr (ci, fs.set f (.int v))) : ∃ t, pV ci f σ (M.1 0) (.int v) = some t ∧ MV M (upd J f v) Q dr t := by
  obtain ⟨R', hR, hw, hs⟩ := h
  obtain ⟨t, e, g1, g2⟩ := hw.putI 0 f v rfl hf (hc R') hl (by rw [show 50 * 0 + f = f from by omega]; exact hn R')
  rw [show 50 * 0 + f = f from by omega] at g1
  exact ⟨t, e, R', hR, g1, hs.tr g2⟩
theorem MV.putDr (h : MV M J Q dr σ) (v : Int64) : ∃ t, pV 10 34 σ (M.1 0) (.long v) = some t ∧ MV M J Q v t := by
  obtain ⟨R', hR, hw, hs⟩ := h
  obtain ⟨g1, g2⟩ := hw.put (I2 := J) (R2 := R') (dr2 := v) 0 rfl (fun _ _ _ _ => rfl) (fun _ _ => rfl) (fun q => absurd rfl q)
  exact ⟨_, pV_of (hw.2 0 rfl) (Nat.le_of_ble_eq_true rfl) _, R', hR, g1, hs.tr g2⟩
theorem MV.putN (h : MV M J Q dr σ) (k i : Nat) (v : Int32) {t z : Nat} (hk : domM k = true) (hr : scrM k = false) (hc : ∀ R, cellM M.1 J R dr k = .inl (t, z, .inl (R k))) (hi : i < z) (hz : z < 2 ^ 31) : ∃ u, sI t σ (M.1 k) (nI i) v = some u ∧ MV M J (updR Q k (upd (Q k) i v)) dr u := by
  obtain ⟨R', hR, hw, hs⟩ := h
  obtain ⟨u, e, g1, g2⟩ := hw.putA k (nI i) v hk hc (inb_nI hi hz)
  rw [nI_clamp (by omega), hR k hr] at g1
  refine ⟨u, e, updR R' k (upd (Q k) i v), fun j hj => ?_, g1, hs.tr g2⟩
  by_cases q : j = k
  · subst q; rw [updR_s, updR_s]
  · rw [updR_n _ _ q, updR_n _ _ q, hR j hj]
/-- a place of the letters' row or the stack -/
theorem MV.putS (h : MV M J Q dr σ) (k i : Nat) (v : Int32) {t z : Nat} (hk : domM k = true) (hr : scrM k = true) (hc : ∀ R, cellM M.1 J R dr k = .inl (t, z, .inl (R k))) (hi : i < z) (hz : z < 2 ^ 31) : ∃ u, sI t σ (M.1 k) (nI i) v = some u ∧ MV M J Q dr u := by
  obtain ⟨R', hR, hw, hs⟩ := h
  obtain ⟨u, e, g1, g2⟩ := hw.putA k (nI i) v hk hc (inb_nI hi hz)
  refine ⟨u, e, _, fun j hj => ?_, g1, hs.tr g2⟩
  rw [updR_n _ _ (fun q => by rw [q, hr] at hj; exact absurd hj (by decide)), hR j hj]
theorem MV.congr {J2 : Nat → Int32} {Q2 : Nat → Nat → Int32} {dr2 : Int64} (h : MV M J Q dr σ) (e1 : J = J2) (e2 : Q = Q2) (e3 : dr = dr2) : MV M J2 Q2 dr2 σ := by
  subst e1; subst e2; subst e3; exact h
theorem nO (h : MV M J Q dr σ) : isO 10 σ (M.1 0) = true := by
  obtain ⟨R1, _, hw, _⟩ := h
  exact mO_0 hw
theorem nr_0 (h : MV M J Q dr σ) : gI 10 0 σ (M.1 0) = some (J 0) := by
  obtain ⟨R1, _, hw, _⟩ := h
  exact mr_0_0 hw
theorem nr_1 (h : MV M J Q dr σ) : gR 10 1 σ (M.1 0) = some (M.1 1) := by
  obtain ⟨R1, _, hw, _⟩ := h
  exact mr_0_1 hw
theorem nr_2 (h : MV M J Q dr σ) : gI 10 2 σ (M.1 0) = some (J 2) := by
  obtain ⟨R1, _, hw, _⟩ := h
  exact mr_0_2 hw
theorem nr_3 (h : MV M J Q dr σ) : gI 10 3 σ (M.1 0) = some (J 3) := by
  obtain ⟨R1, _, hw, _⟩ := h
  exact mr_0_3 hw
theorem nr_4 (h : MV M J Q dr σ) : gI 10 4 σ (M.1 0) = some (J 4) := by
  obtain ⟨R1, _, hw, _⟩ := h
  exact mr_0_4 hw
theorem nr_5 (h : MV M J Q dr σ) : gI 10 5 σ (M.1 0) = some (J 5) := by
  obtain ⟨R1, _, hw, _⟩ := h
  exact mr_0_5 hw
theorem nr_6 (h : MV M J Q dr σ) : gR 10 6 σ (M.1 0) = some (M.1 6) := by
  obtain ⟨R1, _, hw, _⟩ := h
  exact mr_0_6 hw
theorem nr_7 (h : MV M J Q dr σ) : gR 10 7 σ (M.1 0) = some (M.1 7) := by
  obtain ⟨R1, _, hw, _⟩ := h
  exact mr_0_7 hw
theorem nr_8 (h : MV M J Q dr σ) : gR 10 8 σ (M.1 0) = some (M.1 8) := by
  obtain ⟨R1, _, hw, _⟩ := h
  exact mr_0_8 hw
theorem nr_9 (h : MV M J Q dr σ) : gR 10 9 σ (M.1 0) = some (M.1 9) := by
  obtain ⟨R1, _, hw, _⟩ := h
  exact mr_0_9 hw
theorem nr_10 (h : MV M J Q dr σ) : gR 10 10 σ (M.1 0) = some (M.1 10) := by
  obtain ⟨R1, _, hw, _⟩ := h
  exact mr_0_10 hw
theorem nr_11 (h : MV M J Q dr σ) : gR 10 11 σ (M.1 0) = some (M.1 11) := by
  obtain ⟨R1, _, hw, _⟩ := h
  exact mr_0_11 hw
theorem nr_12 (h : MV M J Q dr σ) : gR 10 12 σ (M.1 0) = some (M.1 12) := by
  obtain ⟨R1, _, hw, _⟩ := h
  exact mr_0_12 hw
theorem nr_13 (h : MV M J Q dr σ) : gI 10 13 σ (M.1 0) = some (J 13) := by
  obtain ⟨R1, _, hw, _⟩ := h
  exact mr_0_13 hw
theorem nr_14 (h : MV M J Q dr σ) : gI 10 14 σ (M.1 0) = some (J 14) := by
  obtain ⟨R1, _, hw, _⟩ := h
  exact mr_0_14 hw
theorem nr_15 (h : MV M J Q dr σ) : gR 10 15 σ (M.1 0) = some (M.1 15) := by
  obtain ⟨R1, _, hw, _⟩ := h
  exact mr_0_15 hw
theorem nr_16 (h : MV M J Q dr σ) : gR 10 16 σ (M.1 0) = some (M.1 16) := by
  obtain ⟨R1, _, hw, _⟩ := h
  exact mr_0_16 hw
theorem nr_17 (h : MV M J Q dr σ) : gR 10 17 σ (M.1 0) = some (M.1 17) := by
  obtain ⟨R1, _, hw, _⟩ := h
  exact mr_0_17 hw
theorem nr_18 (h : MV M J Q dr σ) : gR 10 18 σ (M.1 0) = some (M.1 18) := by
  obtain ⟨R1, _, hw, _⟩ := h
  exact mr_0_18 hw
theorem nr_19 (h : MV M J Q dr σ) : gR 10 19 σ (M.1 0) = some (M.1 19) := by
  obtain ⟨R1, _, hw, _⟩ := h
  exact mr_0_19 hw
theorem nr_20 (h : MV M J Q dr σ) : gR 10 20 σ (M.1 0) = some (M.1 20) := by
  obtain ⟨R1, _, hw, _⟩ := h
  exact mr_0_20 hw
theorem nr_21 (h : MV M J Q dr σ) : gI 10 21 σ (M.1 0) = some (J 21) := by
  obtain ⟨R1, _, hw, _⟩ := h
  exact mr_0_21 hw
theorem nr_22 (h : MV M J Q dr σ) : gI 10 22 σ (M.1 0) = some (J 22) := by
  obtain ⟨R1, _, hw, _⟩ := h
  exact mr_0_22 hw
theorem nr_23 (h : MV M J Q dr σ) : gR 10 23 σ (M.1 0) = some (M.1 23) := by
  obtain ⟨R1, _, hw, _⟩ := h
  exact mr_0_23 hw
theorem nr_24 (h : MV M J Q dr σ) : gR 10 24 σ (M.1 0) = some (M.1 24) := by
  obtain ⟨R1, _, hw, _⟩ := h
  exact mr_0_24 hw
theorem nr_25 (h : MV M J Q dr σ) : gR 10 25 σ (M.1 0) = some (M.1 25) := by
  obtain ⟨R1, _, hw, _⟩ := h
  exact mr_0_25 hw
theorem nr_26 (h : MV M J Q dr σ) : gI 10 26 σ (M.1 0) = some (J 26) := by
  obtain ⟨R1, _, hw, _⟩ := h
  exact mr_0_26 hw
theorem nr_27 (h : MV M J Q dr σ) : gI 10 27 σ (M.1 0) = some (J 27) := by
  obtain ⟨R1, _, hw, _⟩ := h
  exact mr_0_27 hw
theorem nr_28 (h : MV M J Q dr σ) : gR 10 28 σ (M.1 0) = some (M.1 28) := by
  obtain ⟨R1, _, hw, _⟩ := h
  exact mr_0_28 hw
theorem nr_29 (h : MV M J Q dr σ) : gR 10 29 σ (M.1 0) = some (M.1 29) := by
  obtain ⟨R1, _, hw, _⟩ := h
  exact mr_0_29 hw
theorem nr_30 (h : MV M J Q dr σ) : gI 10 30 σ (M.1 0) = some (J 30) := by
  obtain ⟨R1, _, hw, _⟩ := h
  exact mr_0_30 hw
theorem nr_31 (h : MV M J Q dr σ) : gI 10 31 σ (M.1 0) = some (J 31) := by
  obtain ⟨R1, _, hw, _⟩ := h
  exact mr_0_31 hw
theorem nr_32 (h : MV M J Q dr σ) : gR 10 32 σ (M.1 0) = some (M.1 32) := by
  obtain ⟨R1, _, hw, _⟩ := h
  exact mr_0_32 hw
theorem nr_33 (h : MV M J Q dr σ) : gI 10 33 σ (M.1 0) = some (J 33) := by
  obtain ⟨R1, _, hw, _⟩ := h
  exact mr_0_33 hw
theorem nr_34 (h : MV M J Q dr σ) : gL 10 34 σ (M.1 0) = some dr := by
  obtain ⟨R1, _, hw, _⟩ := h
  exact mr_0_34 hw
theorem nr_35 (h : MV M J Q dr σ) : gR 10 35 σ (M.1 0) = some (M.1 35) := by
  obtain ⟨R1, _, hw, _⟩ := h
  exact mr_0_35 hw
theorem nr_36 (h : MV M J Q dr σ) : gR 10 36 σ (M.1 0) = some (M.1 36) := by
  obtain ⟨R1, _, hw, _⟩ := h
  exact mr_0_36 hw
theorem nr_37 (h : MV M J Q dr σ) : gR 10 37 σ (M.1 0) = some (M.1 37) := by
  obtain ⟨R1, _, hw, _⟩ := h
  exact mr_0_37 hw
theorem nr_38 (h : MV M J Q dr σ) : gR 10 38 σ (M.1 0) = some (M.1 38) := by
  obtain ⟨R1, _, hw, _⟩ := h
  exact mr_0_38 hw
theorem nr_39 (h : MV M J Q dr σ) : gR 10 39 σ (M.1 0) = some (M.1 39) := by
  obtain ⟨R1, _, hw, _⟩ := h
  exact mr_0_39 hw
theorem nr_40 (h : MV M J Q dr σ) : gI 10 40 σ (M.1 0) = some (J 40) := by
  obtain ⟨R1, _, hw, _⟩ := h
  exact mr_0_40 hw
theorem nr_41 (h : MV M J Q dr σ) : gR 10 41 σ (M.1 0) = some (M.1 41) := by
  obtain ⟨R1, _, hw, _⟩ := h
  exact mr_0_41 hw
theorem nr_42 (h : MV M J Q dr σ) : gR 10 42 σ (M.1 0) = some (M.1 42) := by
  obtain ⟨R1, _, hw, _⟩ := h
  exact mr_0_42 hw
theorem nr_43 (h : MV M J Q dr σ) : gI 10 43 σ (M.1 0) = some (J 43) := by
  obtain ⟨R1, _, hw, _⟩ := h
  exact mr_0_43 hw
theorem nr_44 (h : MV M J Q dr σ) : gR 10 44 σ (M.1 0) = some (M.1 44) := by
  obtain ⟨R1, _, hw, _⟩ := h
  exact mr_0_44 hw
theorem nr_45 (h : MV M J Q dr σ) : gI 10 45 σ (M.1 0) = some (J 45) := by
  obtain ⟨R1, _, hw, _⟩ := h
  exact mr_0_45 hw
theorem na_1 (h : MV M J Q dr σ) {i : Nat} (hi : i < 240) : aI 0 σ (M.1 1) (nI i) = some (Q 1 i) := by
  obtain ⟨R1, hR, hw, _⟩ := h
  rw [ma_1 hw (inb_nI hi (by decide)), nI_clamp (by omega), hR 1 rfl]
theorem na_6 (h : MV M J Q dr σ) {i : Nat} (hi : i < 2600) : aI 0 σ (M.1 6) (nI i) = some (Q 6 i) := by
  obtain ⟨R1, hR, hw, _⟩ := h
  rw [ma_6 hw (inb_nI hi (by decide)), nI_clamp (by omega), hR 6 rfl]
theorem na_7 (h : MV M J Q dr σ) {i : Nat} (hi : i < 2600) : aI 0 σ (M.1 7) (nI i) = some (Q 7 i) := by
  obtain ⟨R1, hR, hw, _⟩ := h
  rw [ma_7 hw (inb_nI hi (by decide)), nI_clamp (by omega), hR 7 rfl]
theorem na_8 (h : MV M J Q dr σ) {i : Nat} (hi : i < 5) : aI 0 σ (M.1 8) (nI i) = some (Q 8 i) := by
  obtain ⟨R1, hR, hw, _⟩ := h
  rw [ma_8 hw (inb_nI hi (by decide)), nI_clamp (by omega), hR 8 rfl]
theorem na_9 (h : MV M J Q dr σ) {i : Nat} (hi : i < 5) : aI 0 σ (M.1 9) (nI i) = some (Q 9 i) := by
  obtain ⟨R1, hR, hw, _⟩ := h
  rw [ma_9 hw (inb_nI hi (by decide)), nI_clamp (by omega), hR 9 rfl]
theorem na_10 (h : MV M J Q dr σ) {i : Nat} (hi : i < 700) : aI 0 σ (M.1 10) (nI i) = some (Q 10 i) := by
  obtain ⟨R1, hR, hw, _⟩ := h
  rw [ma_10 hw (inb_nI hi (by decide)), nI_clamp (by omega), hR 10 rfl]
theorem na_11 (h : MV M J Q dr σ) {i : Nat} (hi : i < 700) : aI 0 σ (M.1 11) (nI i) = some (Q 11 i) := by
  obtain ⟨R1, hR, hw, _⟩ := h
  rw [ma_11 hw (inb_nI hi (by decide)), nI_clamp (by omega), hR 11 rfl]
theorem na_12 (h : MV M J Q dr σ) {i : Nat} (hi : i < 700) : aI 0 σ (M.1 12) (nI i) = some (Q 12 i) := by
  obtain ⟨R1, hR, hw, _⟩ := h
  rw [ma_12 hw (inb_nI hi (by decide)), nI_clamp (by omega), hR 12 rfl]
theorem na_17 (h : MV M J Q dr σ) {i : Nat} (hi : i < 4) : aI 0 σ (M.1 17) (nI i) = some (Q 17 i) := by
  obtain ⟨R1, hR, hw, _⟩ := h
  rw [ma_17 hw (inb_nI hi (by decide)), nI_clamp (by omega), hR 17 rfl]
theorem na_18 (h : MV M J Q dr σ) {i : Nat} (hi : i < 30) : aI 0 σ (M.1 18) (nI i) = some (Q 18 i) := by
  obtain ⟨R1, hR, hw, _⟩ := h
  rw [ma_18 hw (inb_nI hi (by decide)), nI_clamp (by omega), hR 18 rfl]
theorem na_19 (h : MV M J Q dr σ) {i : Nat} (hi : i < 5) : aI 0 σ (M.1 19) (nI i) = some (Q 19 i) := by
  obtain ⟨R1, hR, hw, _⟩ := h
  rw [ma_19 hw (inb_nI hi (by decide)), nI_clamp (by omega), hR 19 rfl]
theorem na_20 (h : MV M J Q dr σ) {i : Nat} (hi : i < 16) : aI 0 σ (M.1 20) (nI i) = some (Q 20 i) := by
  obtain ⟨R1, hR, hw, _⟩ := h
  rw [ma_20 hw (inb_nI hi (by decide)), nI_clamp (by omega), hR 20 rfl]
theorem na_23 (h : MV M J Q dr σ) {i : Nat} (hi : i < 4) : aI 0 σ (M.1 23) (nI i) = some (Q 23 i) := by
  obtain ⟨R1, hR, hw, _⟩ := h
  rw [ma_23 hw (inb_nI hi (by decide)), nI_clamp (by omega), hR 23 rfl]
theorem na_24 (h : MV M J Q dr σ) {i : Nat} (hi : i < 30) : aI 0 σ (M.1 24) (nI i) = some (Q 24 i) := by
  obtain ⟨R1, hR, hw, _⟩ := h
  rw [ma_24 hw (inb_nI hi (by decide)), nI_clamp (by omega), hR 24 rfl]
theorem na_25 (h : MV M J Q dr σ) {i : Nat} (hi : i < 16) : aI 0 σ (M.1 25) (nI i) = some (Q 25 i) := by
  obtain ⟨R1, hR, hw, _⟩ := h
  rw [ma_25 hw (inb_nI hi (by decide)), nI_clamp (by omega), hR 25 rfl]
theorem na_28 (h : MV M J Q dr σ) {i : Nat} (hi : i < 223) : aI 0 σ (M.1 28) (nI i) = some (Q 28 i) := by
  obtain ⟨R1, hR, hw, _⟩ := h
  rw [ma_28 hw (inb_nI hi (by decide)), nI_clamp (by omega), hR 28 rfl]
theorem na_29 (h : MV M J Q dr σ) {i : Nat} (hi : i < 5) : aI 0 σ (M.1 29) (nI i) = some (Q 29 i) := by
  obtain ⟨R1, hR, hw, _⟩ := h
  rw [ma_29 hw (inb_nI hi (by decide)), nI_clamp (by omega), hR 29 rfl]
theorem na_32 (h : MV M J Q dr σ) {i : Nat} (hi : i < 8920) : aI 0 σ (M.1 32) (nI i) = some (Q 32 i) := by
  obtain ⟨R1, hR, hw, _⟩ := h
  rw [ma_32 hw (inb_nI hi (by decide)), nI_clamp (by omega), hR 32 rfl]
theorem na_35 (h : MV M J Q dr σ) {i : Nat} (hi : i < 30) : aI 0 σ (M.1 35) (nI i) = some (Q 35 i) := by
  obtain ⟨R1, hR, hw, _⟩ := h
  rw [ma_35 hw (inb_nI hi (by decide)), nI_clamp (by omega), hR 35 rfl]
theorem na_36 (h : MV M J Q dr σ) {i : Nat} (hi : i < 30) : aI 0 σ (M.1 36) (nI i) = some (Q 36 i) := by
  obtain ⟨R1, hR, hw, _⟩ := h
  rw [ma_36 hw (inb_nI hi (by decide)), nI_clamp (by omega), hR 36 rfl]
theorem na_37 (h : MV M J Q dr σ) {i : Nat} (hi : i < 10) : aI 0 σ (M.1 37) (nI i) = some (Q 37 i) := by
  obtain ⟨R1, hR, hw, _⟩ := h
  rw [ma_37 hw (inb_nI hi (by decide)), nI_clamp (by omega), hR 37 rfl]
theorem na_38 (h : MV M J Q dr σ) {i : Nat} (hi : i < 10) : aI 0 σ (M.1 38) (nI i) = some (Q 38 i) := by
  obtain ⟨R1, hR, hw, _⟩ := h
  rw [ma_38 hw (inb_nI hi (by decide)), nI_clamp (by omega), hR 38 rfl]
theorem na_39 (h : MV M J Q dr σ) {i : Nat} (hi : i < 10) : aI 1 σ (M.1 39) (nI i) = some (Q 39 i) := by
  obtain ⟨R1, hR, hw, _⟩ := h
  rw [ma_39 hw (inb_nI hi (by decide)), nI_clamp (by omega), hR 39 rfl]
theorem na_41 (h : MV M J Q dr σ) {i : Nat} (hi : i < 10) : aI 0 σ (M.1 41) (nI i) = some (Q 41 i) := by
  obtain ⟨R1, hR, hw, _⟩ := h
  rw [ma_41 hw (inb_nI hi (by decide)), nI_clamp (by omega), hR 41 rfl]
theorem na_42 (h : MV M J Q dr σ) {i : Nat} (hi : i < 10) : aI 0 σ (M.1 42) (nI i) = some (Q 42 i) := by
  obtain ⟨R1, hR, hw, _⟩ := h
  rw [ma_42 hw (inb_nI hi (by decide)), nI_clamp (by omega), hR 42 rfl]
theorem na_44 (h : MV M J Q dr σ) {i : Nat} (hi : i < 223) : aI 0 σ (M.1 44) (nI i) = some (Q 44 i) := by
  obtain ⟨R1, hR, hw, _⟩ := h
  rw [ma_44 hw (inb_nI hi (by decide)), nI_clamp (by omega), hR 44 rfl]
end
