theorem lo1_s {δ : Type} {T0 : Type} (B : (T0 → Option δ) → T0 → Option δ) (m : Nat) (x0 : T0) : lo1 B (m + 1) x0 = B (lo1 B m) x0 := rfl
theorem lo1_run {δ : Type} {T0 : Type} {B : (T0 → Option δ) → T0 → Option δ} (P : Nat → T0 → Prop) (Post : δ → Prop) (h : ∀ j d (x0 : T0), P d x0 → (∃ r, B j x0 = some r ∧ Post r) ∨ (∃ d' y0, d' < d ∧ P d' y0 ∧ B j x0 = j y0)) : ∀ (d : Nat) (x0 : T0), P d x0 → ∀ m, d < m → ∃ r, lo1 B m x0 = some r ∧ Post r := by
  intro d
  induction d using Nat.strongRecOn with
  | ind d ih =>
    intro x0 hP m hm
    obtain ⟨m, rfl⟩ : ∃ k, m = k + 1 := ⟨m - 1, by omega⟩
    rw [lo1_s]
    rcases h (lo1 B m) d x0 hP with h1 | ⟨d', y0, hd, hP', e⟩
    · exact h1
    · rw [e]
      exact ih d' hd y0 hP' m (by omega)
theorem lo2_s {δ : Type} {T0 T1 : Type} (B : (T0 → T1 → Option δ) → T0 → T1 → Option δ) (m : Nat) (x0 : T0) (x1 : T1) : lo2 B (m + 1) x0 x1 = B (lo2 B m) x0 x1 := rfl
theorem lo2_run {δ : Type} {T0 T1 : Type} {B : (T0 → T1 → Option δ) → T0 → T1 → Option δ} (P : Nat → T0 → T1 → Prop) (Post : δ → Prop) (h : ∀ j d (x0 : T0) (x1 : T1), P d x0 x1 → (∃ r, B j x0 x1 = some r ∧ Post r) ∨ (∃ d' y0 y1, d' < d ∧ P d' y0 y1 ∧ B j x0 x1 = j y0 y1)) : ∀ (d : Nat) (x0 : T0) (x1 : T1), P d x0 x1 → ∀ m, d < m → ∃ r, lo2 B m x0 x1 = some r ∧ Post r := by
  intro d
  induction d using Nat.strongRecOn with
  | ind d ih =>
    intro x0 x1 hP m hm
    obtain ⟨m, rfl⟩ : ∃ k, m = k + 1 := ⟨m - 1, by omega⟩
    rw [lo2_s]
    rcases h (lo2 B m) d x0 x1 hP with h1 | ⟨d', y0, y1, hd, hP', e⟩
    · exact h1
    · rw [e]
      exact ih d' hd y0 y1 hP' m (by omega)
theorem lo3_s {δ : Type} {T0 T1 T2 : Type} (B : (T0 → T1 → T2 → Option δ) → T0 → T1 → T2 → Option δ) (m : Nat) (x0 : T0) (x1 : T1) (x2 : T2) : lo3 B (m + 1) x0 x1 x2 = B (lo3 B m) x0 x1 x2 := rfl
theorem lo3_run {δ : Type} {T0 T1 T2 : Type} {B : (T0 → T1 → T2 → Option δ) → T0 → T1 → T2 → Option δ} (P : Nat → T0 → T1 → T2 → Prop) (Post : δ → Prop) (h : ∀ j d (x0 : T0) (x1 : T1) (x2 : T2), P d x0 x1 x2 → (∃ r, B j x0 x1 x2 = some r ∧ Post r) ∨ (∃ d' y0 y1 y2, d' < d ∧ P d' y0 y1 y2 ∧ B j x0 x1 x2 = j y0 y1 y2)) : ∀ (d : Nat) (x0 : T0) (x1 : T1) (x2 : T2), P d x0 x1 x2 → ∀ m, d < m → ∃ r, lo3 B m x0 x1 x2 = some r ∧ Post r := by
  intro d
  induction d using Nat.strongRecOn with
  | ind d ih =>
    intro x0 x1 x2 hP m hm
    obtain ⟨m, rfl⟩ : ∃ k, m = k + 1 := ⟨m - 1, by omega⟩
    rw [lo3_s]
    rcases h (lo3 B m) d x0 x1 x2 hP with h1 | ⟨d', y0, y1, y2, hd, hP', e⟩
    · exact h1
    · rw [e]
      exact ih d' hd y0 y1 y2 hP' m (by omega)
theorem lo4_s {δ : Type} {T0 T1 T2 T3 : Type} (B : (T0 → T1 → T2 → T3 → Option δ) → T0 → T1 → T2 → T3 → Option δ) (m : Nat) (x0 : T0) (x1 : T1) (x2 : T2) (x3 : T3) : lo4 B (m + 1) x0 x1 x2 x3 = B (lo4 B m) x0 x1 x2 x3 := rfl
theorem lo4_run {δ : Type} {T0 T1 T2 T3 : Type} {B : (T0 → T1 → T2 → T3 → Option δ) → T0 → T1 → T2 → T3 → Option δ} (P : Nat → T0 → T1 → T2 → T3 → Prop) (Post : δ → Prop) (h : ∀ j d (x0 : T0) (x1 : T1) (x2 : T2) (x3 : T3), P d x0 x1 x2 x3 → (∃ r, B j x0 x1 x2 x3 = some r ∧ Post r) ∨ (∃ d' y0 y1 y2 y3, d' < d ∧ P d' y0 y1 y2 y3 ∧ B j x0 x1 x2 x3 = j y0 y1 y2 y3)) : ∀ (d : Nat) (x0 : T0) (x1 : T1) (x2 : T2) (x3 : T3), P d x0 x1 x2 x3 → ∀ m, d < m → ∃ r, lo4 B m x0 x1 x2 x3 = some r ∧ Post r := by
  intro d
  induction d using Nat.strongRecOn with
  | ind d ih =>
    intro x0 x1 x2 x3 hP m hm
    obtain ⟨m, rfl⟩ : ∃ k, m = k + 1 := ⟨m - 1, by omega⟩
    rw [lo4_s]
    rcases h (lo4 B m) d x0 x1 x2 x3 hP with h1 | ⟨d', y0, y1, y2, y3, hd, hP', e⟩
    · exact h1
    · rw [e]
      exact ih d' hd y0 y1 y2 y3 hP' m (by omega)
theorem lo5_s {δ : Type} {T0 T1 T2 T3 T4 : Type} (B : (T0 → T1 → T2 → T3 → T4 → Option δ) → T0 → T1 → T2 → T3 → T4 → Option δ) (m : Nat) (x0 : T0) (x1 : T1) (x2 : T2) (x3 : T3) (x4 : T4) : lo5 B (m + 1) x0 x1 x2 x3 x4 = B (lo5 B m) x0 x1 x2 x3 x4 := rfl
theorem lo5_run {δ : Type} {T0 T1 T2 T3 T4 : Type} {B : (T0 → T1 → T2 → T3 → T4 → Option δ) → T0 → T1 → T2 → T3 → T4 → Option δ} (P : Nat → T0 → T1 → T2 → T3 → T4 → Prop) (Post : δ → Prop) (h : ∀ j d (x0 : T0) (x1 : T1) (x2 : T2) (x3 : T3) (x4 : T4), P d x0 x1 x2 x3 x4 → (∃ r, B j x0 x1 x2 x3 x4 = some r ∧ Post r) ∨ (∃ d' y0 y1 y2 y3 y4, d' < d ∧ P d' y0 y1 y2 y3 y4 ∧ B j x0 x1 x2 x3 x4 = j y0 y1 y2 y3 y4)) : ∀ (d : Nat) (x0 : T0) (x1 : T1) (x2 : T2) (x3 : T3) (x4 : T4), P d x0 x1 x2 x3 x4 → ∀ m, d < m → ∃ r, lo5 B m x0 x1 x2 x3 x4 = some r ∧ Post r := by
  intro d
  induction d using Nat.strongRecOn with
  | ind d ih =>
    intro x0 x1 x2 x3 x4 hP m hm
    obtain ⟨m, rfl⟩ : ∃ k, m = k + 1 := ⟨m - 1, by omega⟩
    rw [lo5_s]
    rcases h (lo5 B m) d x0 x1 x2 x3 x4 hP with h1 | ⟨d', y0, y1, y2, y3, y4, hd, hP', e⟩
    · exact h1
    · rw [e]
      exact ih d' hd y0 y1 y2 y3 y4 hP' m (by omega)
theorem lo6_s {δ : Type} {T0 T1 T2 T3 T4 T5 : Type} (B : (T0 → T1 → T2 → T3 → T4 → T5 → Option δ) → T0 → T1 → T2 → T3 → T4 → T5 → Option δ) (m : Nat) (x0 : T0) (x1 : T1) (x2 : T2) (x3 : T3) (x4 : T4) (x5 : T5) : lo6 B (m + 1) x0 x1 x2 x3 x4 x5 = B (lo6 B m) x0 x1 x2 x3 x4 x5 := rfl
theorem lo6_run {δ : Type} {T0 T1 T2 T3 T4 T5 : Type} {B : (T0 → T1 → T2 → T3 → T4 → T5 → Option δ) → T0 → T1 → T2 → T3 → T4 → T5 → Option δ} (P : Nat → T0 → T1 → T2 → T3 → T4 → T5 → Prop) (Post : δ → Prop) (h : ∀ j d (x0 : T0) (x1 : T1) (x2 : T2) (x3 : T3) (x4 : T4) (x5 : T5), P d x0 x1 x2 x3 x4 x5 → (∃ r, B j x0 x1 x2 x3 x4 x5 = some r ∧ Post r) ∨ (∃ d' y0 y1 y2 y3 y4 y5, d' < d ∧ P d' y0 y1 y2 y3 y4 y5 ∧ B j x0 x1 x2 x3 x4 x5 = j y0 y1 y2 y3 y4 y5)) : ∀ (d : Nat) (x0 : T0) (x1 : T1) (x2 : T2) (x3 : T3) (x4 : T4) (x5 : T5), P d x0 x1 x2 x3 x4 x5 → ∀ m, d < m → ∃ r, lo6 B m x0 x1 x2 x3 x4 x5 = some r ∧ Post r := by
  intro d
  induction d using Nat.strongRecOn with
  | ind d ih =>
    intro x0 x1 x2 x3 x4 x5 hP m hm
    obtain ⟨m, rfl⟩ : ∃ k, m = k + 1 := ⟨m - 1, by omega⟩
    rw [lo6_s]
    rcases h (lo6 B m) d x0 x1 x2 x3 x4 x5 hP with h1 | ⟨d', y0, y1, y2, y3, y4, y5, hd, hP', e⟩
    · exact h1
    · rw [e]
      exact ih d' hd y0 y1 y2 y3 y4 y5 hP' m (by omega)
theorem lo7_s {δ : Type} {T0 T1 T2 T3 T4 T5 T6 : Type} (B : (T0 → T1 → T2 → T3 → T4 → T5 → T6 → Option δ) → T0 → T1 → T2 → T3 → T4 → T5 → T6 → Option δ) (m : Nat) (x0 : T0) (x1 : T1) (x2 : T2) (x3 : T3) (x4 : T4) (x5 : T5) (x6 : T6) : lo7 B (m + 1) x0 x1 x2 x3 x4 x5 x6 = B (lo7 B m) x0 x1 x2 x3 x4 x5 x6 := rfl
theorem lo7_run {δ : Type} {T0 T1 T2 T3 T4 T5 T6 : Type} {B : (T0 → T1 → T2 → T3 → T4 → T5 → T6 → Option δ) → T0 → T1 → T2 → T3 → T4 → T5 → T6 → Option δ} (P : Nat → T0 → T1 → T2 → T3 → T4 → T5 → T6 → Prop) (Post : δ → Prop) (h : ∀ j d (x0 : T0) (x1 : T1) (x2 : T2) (x3 : T3) (x4 : T4) (x5 : T5) (x6 : T6), P d x0 x1 x2 x3 x4 x5 x6 → (∃ r, B j x0 x1 x2 x3 x4 x5 x6 = some r ∧ Post r) ∨ (∃ d' y0 y1 y2 y3 y4 y5 y6, d' < d ∧ P d' y0 y1 y2 y3 y4 y5 y6 ∧ B j x0 x1 x2 x3 x4 x5 x6 = j y0 y1 y2 y3 y4 y5 y6)) : ∀ (d : Nat) (x0 : T0) (x1 : T1) (x2 : T2) (x3 : T3) (x4 : T4) (x5 : T5) (x6 : T6), P d x0 x1 x2 x3 x4 x5 x6 → ∀ m, d < m → ∃ r, lo7 B m x0 x1 x2 x3 x4 x5 x6 = some r ∧ Post r := by
  intro d
  induction d using Nat.strongRecOn with
  | ind d ih =>
    intro x0 x1 x2 x3 x4 x5 x6 hP m hm
    obtain ⟨m, rfl⟩ : ∃ k, m = k + 1 := ⟨m - 1, by omega⟩
    rw [lo7_s]
    rcases h (lo7 B m) d x0 x1 x2 x3 x4 x5 x6 hP with h1 | ⟨d', y0, y1, y2, y3, y4, y5, y6, hd, hP', e⟩
    · exact h1
    · rw [e]
      exact ih d' hd y0 y1 y2 y3 y4 y5 y6 hP' m (by omega)
theorem lo8_s {δ : Type} {T0 T1 T2 T3 T4 T5 T6 T7 : Type} (B : (T0 → T1 → T2 → T3 → T4 → T5 → T6 → T7 → Option δ) → T0 → T1 → T2 → T3 → T4 → T5 → T6 → T7 → Option δ) (m : Nat) (x0 : T0) (x1 : T1) (x2 : T2) (x3 : T3) (x4 : T4) (x5 : T5) (x6 : T6) (x7 : T7) : lo8 B (m + 1) x0 x1 x2 x3 x4 x5 x6 x7 = B (lo8 B m) x0 x1 x2 x3 x4 x5 x6 x7 := rfl
theorem lo8_run {δ : Type} {T0 T1 T2 T3 T4 T5 T6 T7 : Type} {B : (T0 → T1 → T2 → T3 → T4 → T5 → T6 → T7 → Option δ) → T0 → T1 → T2 → T3 → T4 → T5 → T6 → T7 → Option δ} (P : Nat → T0 → T1 → T2 → T3 → T4 → T5 → T6 → T7 → Prop) (Post : δ → Prop) (h : ∀ j d (x0 : T0) (x1 : T1) (x2 : T2) (x3 : T3) (x4 : T4) (x5 : T5) (x6 : T6) (x7 : T7), P d x0 x1 x2 x3 x4 x5 x6 x7 → (∃ r, B j x0 x1 x2 x3 x4 x5 x6 x7 = some r ∧ Post r) ∨ (∃ d' y0 y1 y2 y3 y4 y5 y6 y7, d' < d ∧ P d' y0 y1 y2 y3 y4 y5 y6 y7 ∧ B j x0 x1 x2 x3 x4 x5 x6 x7 = j y0 y1 y2 y3 y4 y5 y6 y7)) : ∀ (d : Nat) (x0 : T0) (x1 : T1) (x2 : T2) (x3 : T3) (x4 : T4) (x5 : T5) (x6 : T6) (x7 : T7), P d x0 x1 x2 x3 x4 x5 x6 x7 → ∀ m, d < m → ∃ r, lo8 B m x0 x1 x2 x3 x4 x5 x6 x7 = some r ∧ Post r := by
  intro d
  induction d using Nat.strongRecOn with
  | ind d ih =>
    intro x0 x1 x2 x3 x4 x5 x6 x7 hP m hm
    obtain ⟨m, rfl⟩ : ∃ k, m = k + 1 := ⟨m - 1, by omega⟩
    rw [lo8_s]
    rcases h (lo8 B m) d x0 x1 x2 x3 x4 x5 x6 x7 hP with h1 | ⟨d', y0, y1, y2, y3, y4, y5, y6, y7, hd, hP', e⟩
    · exact h1
    · rw [e]
      exact ih d' hd y0 y1 y2 y3 y4 y5 y6 y7 hP' m (by omega)
theorem lo9_s {δ : Type} {T0 T1 T2 T3 T4 T5 T6 T7 T8 : Type} (B : (T0 → T1 → T2 → T3 → T4 → T5 → T6 → T7 → T8 → Option δ) → T0 → T1 → T2 → T3 → T4 → T5 → T6 → T7 → T8 → Option δ) (m : Nat) (x0 : T0) (x1 : T1) (x2 : T2) (x3 : T3) (x4 : T4) (x5 : T5) (x6 : T6) (x7 : T7) (x8 : T8) : lo9 B (m + 1) x0 x1 x2 x3 x4 x5 x6 x7 x8 = B (lo9 B m) x0 x1 x2 x3 x4 x5 x6 x7 x8 := rfl
theorem lo9_run {δ : Type} {T0 T1 T2 T3 T4 T5 T6 T7 T8 : Type} {B : (T0 → T1 → T2 → T3 → T4 → T5 → T6 → T7 → T8 → Option δ) → T0 → T1 → T2 → T3 → T4 → T5 → T6 → T7 → T8 → Option δ} (P : Nat → T0 → T1 → T2 → T3 → T4 → T5 → T6 → T7 → T8 → Prop) (Post : δ → Prop) (h : ∀ j d (x0 : T0) (x1 : T1) (x2 : T2) (x3 : T3) (x4 : T4) (x5 : T5) (x6 : T6) (x7 : T7) (x8 : T8), P d x0 x1 x2 x3 x4 x5 x6 x7 x8 → (∃ r, B j x0 x1 x2 x3 x4 x5 x6 x7 x8 = some r ∧ Post r) ∨ (∃ d' y0 y1 y2 y3 y4 y5 y6 y7 y8, d' < d ∧ P d' y0 y1 y2 y3 y4 y5 y6 y7 y8 ∧ B j x0 x1 x2 x3 x4 x5 x6 x7 x8 = j y0 y1 y2 y3 y4 y5 y6 y7 y8)) : ∀ (d : Nat) (x0 : T0) (x1 : T1) (x2 : T2) (x3 : T3) (x4 : T4) (x5 : T5) (x6 : T6) (x7 : T7) (x8 : T8), P d x0 x1 x2 x3 x4 x5 x6 x7 x8 → ∀ m, d < m → ∃ r, lo9 B m x0 x1 x2 x3 x4 x5 x6 x7 x8 = some r ∧ Post r := by
  intro d
  induction d using Nat.strongRecOn with
  | ind d ih =>
    intro x0 x1 x2 x3 x4 x5 x6 x7 x8 hP m hm
    obtain ⟨m, rfl⟩ : ∃ k, m = k + 1 := ⟨m - 1, by omega⟩
    rw [lo9_s]
    rcases h (lo9 B m) d x0 x1 x2 x3 x4 x5 x6 x7 x8 hP with h1 | ⟨d', y0, y1, y2, y3, y4, y5, y6, y7, y8, hd, hP', e⟩
    · exact h1
    · rw [e]
      exact ih d' hd y0 y1 y2 y3 y4 y5 y6 y7 y8 hP' m (by omega)
theorem lo10_s {δ : Type} {T0 T1 T2 T3 T4 T5 T6 T7 T8 T9 : Type} (B : (T0 → T1 → T2 → T3 → T4 → T5 → T6 → T7 → T8 → T9 → Option δ) → T0 → T1 → T2 → T3 → T4 → T5 → T6 → T7 → T8 → T9 → Option δ) (m : Nat) (x0 : T0) (x1 : T1) (x2 : T2) (x3 : T3) (x4 : T4) (x5 : T5) (x6 : T6) (x7 : T7) (x8 : T8) (x9 : T9) : lo10 B (m + 1) x0 x1 x2 x3 x4 x5 x6 x7 x8 x9 = B (lo10 B m) x0 x1 x2 x3 x4 x5 x6 x7 x8 x9 := rfl
theorem lo10_run {δ : Type} {T0 T1 T2 T3 T4 T5 T6 T7 T8 T9 : Type} {B : (T0 → T1 → T2 → T3 → T4 → T5 → T6 → T7 → T8 → T9 → Option δ) → T0 → T1 → T2 → T3 → T4 → T5 → T6 → T7 → T8 → T9 → Option δ} (P : Nat → T0 → T1 → T2 → T3 → T4 → T5 → T6 → T7 → T8 → T9 → Prop) (Post : δ → Prop) (h : ∀ j d (x0 : T0) (x1 : T1) (x2 : T2) (x3 : T3) (x4 : T4) (x5 : T5) (x6 : T6) (x7 : T7) (x8 : T8) (x9 : T9), P d x0 x1 x2 x3 x4 x5 x6 x7 x8 x9 → (∃ r, B j x0 x1 x2 x3 x4 x5 x6 x7 x8 x9 = some r ∧ Post r) ∨ (∃ d' y0 y1 y2 y3 y4 y5 y6 y7 y8 y9, d' < d ∧ P d' y0 y1 y2 y3 y4 y5 y6 y7 y8 y9 ∧ B j x0 x1 x2 x3 x4 x5 x6 x7 x8 x9 = j y0 y1 y2 y3 y4 y5 y6 y7 y8 y9)) : ∀ (d : Nat) (x0 : T0) (x1 : T1) (x2 : T2) (x3 : T3) (x4 : T4) (x5 : T5) (x6 : T6) (x7 : T7) (x8 : T8) (x9 : T9), P d x0 x1 x2 x3 x4 x5 x6 x7 x8 x9 → ∀ m, d < m → ∃ r, lo10 B m x0 x1 x2 x3 x4 x5 x6 x7 x8 x9 = some r ∧ Post r := by
  intro d
  induction d using Nat.strongRecOn with
  | ind d ih =>
    intro x0 x1 x2 x3 x4 x5 x6 x7 x8 x9 hP m hm
    obtain ⟨m, rfl⟩ : ∃ k, m = k + 1 := ⟨m - 1, by omega⟩
    rw [lo10_s]
    rcases h (lo10 B m) d x0 x1 x2 x3 x4 x5 x6 x7 x8 x9 hP with h1 | ⟨d', y0, y1, y2, y3, y4, y5, y6, y7, y8, y9, hd, hP', e⟩
    · exact h1
    · rw [e]
      exact ih d' hd y0 y1 y2 y3 y4 y5 y6 y7 y8 y9 hP' m (by omega)
