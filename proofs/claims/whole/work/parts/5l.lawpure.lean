/-! A LAW's text as it is read: both sides read so -/
abbrev Tk : Type := Int32 × Int32
abbrev PR : Type := Sum Nat (Nat × List Tk)
def bnP (x : PR) (f : Nat → PR) : PR := match x with
  | .inl q => .inl q
  | .inr y => match f y.1 with
    | .inl q => .inl q
    | .inr z => .inr (z.1, y.2 ++ z.2)
def tkP (x : PR) (t : Tk) : PR := match x with
  | .inl q => .inl q
  | .inr y => .inr (y.1, y.2 ++ [t])
def exP (T : Tap) (x : PR) (c : Int32) : PR := match x with
  | .inl q => .inl q
  | .inr y => if atT T (skT T y.1) = c then .inr (skT T y.1 + 1, y.2) else .inl (skT T y.1)
def lpP (T : Tap) (ok : Int32 → Bool) (f : Nat → PR) : Nat → Nat → PR
  | 0, p => .inr (skT T p, [])
  | d + 1, p => if ok (atT T (skT T p)) = true then bnP (tkP (f (skT T p + 1)) (atT T (skT T p), 0)) (lpP T ok f d) else .inr (skT T p, [])
theorem lpP_y {T : Tap} {ok : Int32 → Bool} {f : Nat → PR} {d p : Nat} (h : ok (atT T (skT T p)) = true) : lpP T ok f (d + 1) p = bnP (tkP (f (skT T p + 1)) (atT T (skT T p), 0)) (lpP T ok f d) := by rw [lpP, if_pos h]
theorem lpP_n {T : Tap} {ok : Int32 → Bool} {f : Nat → PR} {d p : Nat} (h : ¬ ok (atT T (skT T p)) = true) : lpP T ok f d p = .inr (skT T p, []) := by
  cases d with
  | zero => rfl
  | succ d => rw [lpP, if_neg h]
def ltC (c : Int32) : Int32 := if c = 108 then 0 else if c = 102 then 1 else if c = 104 then 2 else if c = 103 then 3 else if c = 109 then 4 else if c = 110 then 5 else -1
def nuP (T : Tap) (q : Nat) : PR := if dgB (atT T (nuF T 4 0 q).2) = true then .inl (nuF T 4 0 q).2 else .inr ((nuF T 4 0 q).2, [(35, (nuF T 4 0 q).1)])
def aoP (T : Tap) (sm : Option (Nat → PR)) (p : Nat) : PR :=
  if dgB (atT T (skT T p)) = true then nuP T (skT T p)
  else if atT T (skT T p) = 91 then (match sm with
    | none => .inl (skT T p)
    | some s => exP T (s (skT T p + 1)) 93)
  else if ltC (atT T (skT T p)) = -1 then .inl (skT T p) else .inr (skT T p + 1, [(64, ltC (atT T (skT T p)))])
def okT (c : Int32) : Bool := decide (c = 42 ∨ c = 47)
def okS (c : Int32) : Bool := decide (c = 43 ∨ c = 45)
def oqC (c : Int32) : Bool := decide (c = 61 ∨ c = 60 ∨ c = 62)
def okA (c : Int32) : Bool := decide (c = 38)
def okO (c : Int32) : Bool := decide (c = 124)
/-- g, then what goes on with a sign and f -/
def thP (T : Tap) (ok : Int32 → Bool) (f g : Nat → PR) (p : Nat) : PR := bnP (g p) (lpP T ok f 241)
def tmP (T : Tap) (s : Option (Nat → PR)) : Nat → PR := thP T okT (aoP T s) (aoP T s)
def smA (T : Tap) (s : Option (Nat → PR)) : Nat → PR := thP T okS (tmP T s) (tmP T s)
def smT (T : Tap) : Nat → Nat → PR
  | 0 => smA T none
  | k + 1 => smA T (some (smT T k))
def cmP (T : Tap) (k : Nat) (p : Nat) : PR := if oqC (atT T (skT T p)) = true then tkP (smT T k (skT T p + 1)) (atT T (skT T p), 0) else .inl (skT T p)
def trP (T : Tap) (u g : Nat → PR) : Nat → PR := thP T okA u g
def cdP (T : Tap) (u g : Nat → PR) : Nat → PR := thP T okO (trP T u u) (trP T u g)
def unA (T : Tap) (k : Nat) (u : Option (Nat → PR)) (p : Nat) : PR :=
  if atT T (skT T p) = 33 then (match u with
    | none => .inl (skT T p)
    | some f => tkP (f (skT T p + 1)) (33, 0))
  else if atT T (skT T p) = 40 then (match u with
    | none => .inl (skT T p)
    | some f => exP T (cdP T f f (skT T p + 1)) 41)
  else bnP (smT T k (skT T p)) (cmP T k)
def unT (T : Tap) : Nat → Nat → PR
  | 0 => unA T 0 none
  | k + 1 => unA T (k + 1) (some (unT T k))
abbrev Clz : Type := Option (List Tk) × List Tk
abbrev PQ : Type := Sum Nat (Nat × Clz)
def tlP (T : Tap) (c : PR) : PQ := match exP T c 63 with
  | .inl q => .inl q
  | .inr y => match smT T 6 y.1 with
    | .inl q => .inl q
    | .inr z => .inr (z.1, (some y.2, z.2))
def hdP (T : Tap) (p : Nat) : PR := exP T (exP T (.inr (p, [])) 121) 58
def clT (T : Tap) (p : Nat) : PQ := match hdP T p with
  | .inl q => .inl q
  | .inr y => if atT T (skT T y.1) = 33 ∨ atT T (skT T y.1) = 40 then tlP T (cdP T (unT T 6) (unT T 6) (skT T y.1))
    else match smT T 6 (skT T y.1) with
      | .inl q => .inl q
      | .inr z => if oqC (atT T (skT T z.1)) = true then tlP T (bnP (.inr (skT T z.1, z.2)) (cdP T (unT T 6) (cmP T 6))) else .inr (skT T z.1, (none, z.2))
def lwF (T : Tap) : Nat → Nat → Sum Nat (List Clz)
  | 0, p => .inl p
  | d + 1, p => match clT T p with
    | .inl q => .inl q
    | .inr y => if atT T (skT T y.1) = 59 then (match lwF T d (skT T y.1 + 1) with
        | .inl q => .inl q
        | .inr l => .inr (y.2 :: l))
      else if atT T (skT T y.1) = -1 then .inr [y.2] else .inl (skT T y.1)
def lawT (T : Tap) : Sum Nat (List Clz) := lwF T 241 0
def fltL : Sum Nat (List Clz) → Option Nat
  | .inl q => some q
  | .inr _ => none
/-! how they answer -/
theorem bnP_inr {x : PR} {f : Nat → PR} {p : Nat} {W : List Tk} (h : bnP x f = .inr (p, W)) : ∃ y z, x = .inr y ∧ f y.1 = .inr z ∧ p = z.1 ∧ W = y.2 ++ z.2 := by
  unfold bnP at h
  cases x with
  | inl q => cases h
  | inr y =>
    simp only [] at h
    cases e : f y.1 with
    | inl q => rw [e] at h; cases h
    | inr z => rw [e] at h; cases h; exact ⟨y, z, rfl, e, rfl, rfl⟩
theorem tkP_inr {x : PR} {t : Tk} {p : Nat} {W : List Tk} (h : tkP x t = .inr (p, W)) : ∃ y, x = .inr y ∧ p = y.1 ∧ W = y.2 ++ [t] := by
  unfold tkP at h
  cases x with
  | inl q => cases h
  | inr y => cases h; exact ⟨y, rfl, rfl, rfl⟩
theorem exP_inr {T : Tap} {x : PR} {c : Int32} {p : Nat} {W : List Tk} (h : exP T x c = .inr (p, W)) : ∃ y, x = .inr y ∧ atT T (skT T y.1) = c ∧ p = skT T y.1 + 1 ∧ W = y.2 := by
  unfold exP at h
  cases x with
  | inl q => cases h
  | inr y =>
    simp only [] at h
    by_cases q : atT T (skT T y.1) = c
    · rw [if_pos q] at h; cases h; exact ⟨y, rfl, q, rfl, rfl⟩
    · rw [if_neg q] at h; cases h
theorem at_in {T : Tap} {p : Nat} (h : atT T p ≠ -1) : p < T.1 := by
  unfold atT at h
  by_cases q : p < T.1
  · exact q
  · rw [if_neg q] at h; exact absurd rfl h
/-- what is read and kept takes its room on the tape -/
def Pg (T : Tap) (g : Nat → PR) : Prop := ∀ p p' W, p ≤ T.1 → g p = .inr (p', W) → p + W.length ≤ p' ∧ p' ≤ T.1
theorem Pg.lp {T : Tap} {ok : Int32 → Bool} {f : Nat → PR} (hok : ok (-1) = false) (hf : Pg T f) : ∀ d, Pg T (lpP T ok f d) := by
  intro d
  induction d with
  | zero =>
    intro p p' W hp h
    cases h
    have := sk_ge T p
    have := sk_le T hp
    exact ⟨by simpa using by omega, by omega⟩
  | succ d ih =>
    intro p p' W hp h
    have h1 := sk_ge T p
    have h2 := sk_le T hp
    by_cases q : ok (atT T (skT T p)) = true
    · rw [lpP_y q] at h
      have hin : skT T p < T.1 := at_in (fun e => by rw [e, hok] at q; cases q)
      obtain ⟨y, z, e1, e2, rfl, rfl⟩ := bnP_inr h
      obtain ⟨w, e3, e4, e5⟩ := tkP_inr e1
      have g1 := hf _ _ _ (show skT T p + 1 ≤ T.1 by omega) e3
      have g2 := ih _ _ _ (show y.1 ≤ T.1 by omega) e2
      rw [e5]
      simp only [List.length_append, List.length_cons, List.length_nil]
      omega
    · rw [lpP_n q] at h
      cases h
      exact ⟨by simpa using by omega, by omega⟩
theorem Pg.th {T : Tap} {ok : Int32 → Bool} {f g : Nat → PR} (hok : ok (-1) = false) (hf : Pg T f) (hg : Pg T g) : Pg T (thP T ok f g) := by
  intro p p' W hp h
  obtain ⟨y, z, e1, e2, rfl, rfl⟩ := bnP_inr h
  have g1 := hg _ _ _ hp e1
  have g2 := Pg.lp hok hf 241 _ _ _ (show y.1 ≤ T.1 by omega) e2
  simp only [List.length_append]
  omega
theorem Pg.ex {T : Tap} {x : PR} {c : Int32} {p p' : Nat} {W : List Tk} (hc : c ≠ -1) (hx : ∀ y, x = .inr y → p + y.2.length ≤ y.1 ∧ y.1 ≤ T.1) (h : exP T x c = .inr (p', W)) : p + W.length + 1 ≤ p' ∧ p' ≤ T.1 := by
  obtain ⟨y, e1, e2, rfl, rfl⟩ := exP_inr h
  have := hx y e1
  have h1 := sk_ge T y.1
  have hin : skT T y.1 < T.1 := at_in (fun e => hc (e2.symm.trans e))
  omega
theorem Pg.nu {T : Tap} {q p' : Nat} {W : List Tk} (hd : dgB (atT T q) = true) (h : nuP T q = .inr (p', W)) : q + W.length ≤ p' ∧ p' ≤ T.1 := by
  unfold nuP at h
  have hq := dg_lt T hd
  by_cases z : dgB (atT T (nuF T 4 0 q).2) = true
  · rw [if_pos z] at h; cases h
  · rw [if_neg z] at h
    cases h
    rw [nuF_y T 3 0 q hd]
    have := nuF_le T 3 (0 * 10 + T.2 q - 48) (q + 1) hq
    simp only [List.length_cons, List.length_nil]
    omega
theorem Pg.ao {T : Tap} {s : Option (Nat → PR)} (hs : ∀ f, s = some f → Pg T f) : Pg T (aoP T s) := by
  intro p p' W hp h
  have h1 := sk_ge T p
  have h2 := sk_le T hp
  unfold aoP at h
  by_cases q : dgB (atT T (skT T p)) = true
  · rw [if_pos q] at h
    have := Pg.nu q h
    omega
  rw [if_neg q] at h
  by_cases q2 : atT T (skT T p) = 91
  · rw [if_pos q2] at h
    have hin : skT T p < T.1 := at_in (by rw [q2]; decide)
    cases s with
    | none => cases h
    | some f =>
      have := Pg.ex (p := skT T p + 1) (by decide) (fun y e => hs f rfl _ _ _ (by omega) e) h
      omega
  rw [if_neg q2] at h
  by_cases q3 : ltC (atT T (skT T p)) = -1
  · rw [if_pos q3] at h; cases h
  · rw [if_neg q3] at h
    have hin : skT T p < T.1 := at_in (fun e => q3 (by rw [e]; decide))
    cases h
    simp only [List.length_cons, List.length_nil]
    omega
theorem Pg.tm {T : Tap} {s : Option (Nat → PR)} (hs : ∀ f, s = some f → Pg T f) : Pg T (tmP T s) := Pg.th (by decide) (Pg.ao hs) (Pg.ao hs)
theorem Pg.sa {T : Tap} {s : Option (Nat → PR)} (hs : ∀ f, s = some f → Pg T f) : Pg T (smA T s) := Pg.th (by decide) (Pg.tm hs) (Pg.tm hs)
theorem Pg.sm (T : Tap) : ∀ k, Pg T (smT T k)
  | 0 => Pg.sa (fun f e => by cases e)
  | k + 1 => Pg.sa (fun f e => by cases e; exact Pg.sm T k)
theorem Pg.cm (T : Tap) (k : Nat) : Pg T (cmP T k) := by
  intro p p' W hp h
  have h1 := sk_ge T p
  unfold cmP at h
  by_cases q : oqC (atT T (skT T p)) = true
  · rw [if_pos q] at h
    have hin : skT T p < T.1 := at_in (fun e => by rw [e] at q; exact absurd q (by decide))
    obtain ⟨y, e1, rfl, rfl⟩ := tkP_inr h
    have := Pg.sm T k _ _ _ (show skT T p + 1 ≤ T.1 by omega) e1
    simp only [List.length_append, List.length_cons, List.length_nil]
    omega
  · rw [if_neg q] at h; cases h
theorem Pg.tr {T : Tap} {u g : Nat → PR} (hu : Pg T u) (hg : Pg T g) : Pg T (trP T u g) := Pg.th (by decide) hu hg
theorem Pg.cd {T : Tap} {u g : Nat → PR} (hu : Pg T u) (hg : Pg T g) : Pg T (cdP T u g) := Pg.th (by decide) (Pg.tr hu hu) (Pg.tr hu hg)
theorem Pg.ua {T : Tap} {k : Nat} {u : Option (Nat → PR)} (hs : ∀ f, u = some f → Pg T f) : Pg T (unA T k u) := by
  intro p p' W hp h
  have h1 := sk_ge T p
  have h2 := sk_le T hp
  unfold unA at h
  by_cases q : atT T (skT T p) = 33
  · rw [if_pos q] at h
    have hin : skT T p < T.1 := at_in (by rw [q]; decide)
    cases u with
    | none => cases h
    | some f =>
      obtain ⟨y, e1, rfl, rfl⟩ := tkP_inr h
      have := hs f rfl _ _ _ (show skT T p + 1 ≤ T.1 by omega) e1
      simp only [List.length_append, List.length_cons, List.length_nil]
      omega
  rw [if_neg q] at h
  by_cases q2 : atT T (skT T p) = 40
  · rw [if_pos q2] at h
    have hin : skT T p < T.1 := at_in (by rw [q2]; decide)
    cases u with
    | none => cases h
    | some f =>
      have := Pg.ex (p := skT T p + 1) (by decide) (fun y e => Pg.cd (hs f rfl) (hs f rfl) _ _ _ (by omega) e) h
      omega
  rw [if_neg q2] at h
  obtain ⟨y, z, e1, e2, rfl, rfl⟩ := bnP_inr h
  have g1 := Pg.sm T k _ _ _ h2 e1
  have g2 := Pg.cm T k _ _ _ (show y.1 ≤ T.1 by omega) e2
  simp only [List.length_append]
  omega
theorem Pg.un (T : Tap) : ∀ k, Pg T (unT T k)
  | 0 => Pg.ua (fun f e => by cases e)
  | k + 1 => Pg.ua (fun f e => by cases e; exact Pg.un T k)
