
/-- as many rounds as any loop here can have, and more -/
def FU : Nat := 20000
/-- a value gets a name -/
def nam {β γ : Type} (e : β) (K : β → γ) : γ := K e
def bd {β γ : Type} (E : Option (β × St)) (K : β → St → Option γ) : Option γ := match E with
  | some q => K q.1 q.2
  | none => none
theorem bd_some {β γ : Type} (x : β) (t : St) (K : β → St → Option γ) : bd (some (x, t)) K = K x t := rfl
theorem bd_none {β γ : Type} (K : β → St → Option γ) : bd (none : Option (β × St)) K = none := rfl
def bo {β γ : Type} (ci : Nat) (σ : St) (b : Nat) (E : Option (β × St)) (K : β → St → Option γ) : Option γ := if isO ci σ b = true then bd E K else none
theorem bo_some {β γ : Type} {ci b : Nat} {σ : St} (h : isO ci σ b = true) (E : Option (β × St)) (K : β → St → Option γ) : bo ci σ b E K = bd E K := if_pos h
def nn {γ : Type} (q : Option Nat) (E : γ) (K : Nat → γ) : γ := match q with
  | none => E
  | some z => K z
def tbs {γ : Type} (x : Int32) (lo : Int) (Es : List (Option γ)) (Ed : Option γ) : Option γ := if x.toInt < lo ∨ lo + Es.length ≤ x.toInt then Ed else Es.getD (x.toInt - lo).toNat Ed
theorem bd_eq {β γ : Type} {E : Option (β × St)} {K : β → St → Option γ} {y : γ} (h : bd E K = some y) : ∃ x t, E = some (x, t) ∧ K x t = some y := by
  cases E with
  | none => cases h
  | some q => exact ⟨q.1, q.2, rfl, h⟩
theorem GE.nami {α : Type} {em : α → Option Value} {Y : MI} {k n pc : Nat} {lv : List (Nat × Value)} {rest : List Value} {σ : St} {e : Int32} {K : Int32 → Option (α × St)} (h : ∀ x, GE em Y k n pc lv (.int x :: rest) σ (K x)) : GE em Y k n pc lv (.int e :: rest) σ (nam e K) := h e
theorem GE.naml {α : Type} {em : α → Option Value} {Y : MI} {k n pc : Nat} {lv : List (Nat × Value)} {rest : List Value} {σ : St} {e : Int64} {K : Int64 → Option (α × St)} (h : ∀ x, GE em Y k n pc lv (.long x :: rest) σ (K x)) : GE em Y k n pc lv (.long e :: rest) σ (nam e K) := h e
theorem GE.ifnn {α : Type} {em : α → Option Value} {Y : MI} {k n pc : Nat} {lv : List (Nat × Value)} {rest : List Value} {σ : St} {q : Option Nat} {off : Int} {tgt : Nat} {E : Option (α × St)} {K : Nat → Option (α × St)} (hd : decode Y.1 pc = .ok (.ifnonnull off, 3)) (ht : (pc : Int) + off = (tgt : Int)) (h1 : q = Option.none → GE em Y k n (pc + 3) lv rest σ E) (h2 : ∀ z, q = some z → GE em Y k n tgt lv rest σ (K z)) : GE em Y k n pc lv (va_rf q :: rest) σ (nn q E K) := by
  cases q with
  | none =>
    intro x9 s9 he9 l p e s m args below meth c A D cy H locs ls hF hW hH hl
    exact lv_ifnonnullN hF.1 hF.2.1 hd (h1 rfl x9 s9 he9 l p e s m args below meth c A D cy H locs ls hF hW hH hl)
  | some z =>
    intro x9 s9 he9 l p e s m args below meth c A D cy H locs ls hF hW hH hl
    exact lv_ifnonnull hF.1 hF.2.1 hd ht (h2 z rfl x9 s9 he9 l p e s m args below meth c A D cy H locs ls hF hW hH hl)
theorem GE.tsw {α : Type} {em : α → Option Value} {Y : MI} {k n pc : Nat} {lv : List (Nat × Value)} {rest : List Value} {σ : St} {x : Int32} {dflt lo hi : Int} {offs : Array Int} {len tgd : Nat} {Es : List (Option (α × St))} {Ed : Option (α × St)} (hd : decode Y.1 pc = .ok (.tableswitch dflt lo hi offs, len)) (hs : hi + 1 = lo + Es.length) (hz : offs.size = Es.length) (ht : (pc : Int) + dflt = (tgd : Int)) (h1 : GE em Y k n tgd lv rest σ Ed) (h2 : ∀ (j : Nat) (E : Option (α × St)) (off : Int), Es[j]? = some E → offs[j]? = some off → ∃ tgt : Nat, (pc : Int) + off = (tgt : Int) ∧ GE em Y k n tgt lv rest σ E) : GE em Y k n pc lv (.int x :: rest) σ (tbs x lo Es Ed) := by
  intro x9 s9 he9 l p e s m args below meth c A D cy H locs ls hF hW hH hl
  unfold tbs at he9
  by_cases hc : x.toInt < lo ∨ lo + Es.length ≤ x.toInt
  · rw [if_pos hc] at he9
    exact lv_tableOut hF.1 hF.2.1 hd (by omega) ht (h1 x9 s9 he9 l p e s m args below meth c A D cy H locs ls hF hW hH hl)
  · rw [if_neg hc] at he9
    have hj : (x.toInt - lo).toNat < Es.length := by omega
    have hE : Es[(x.toInt - lo).toNat]? = some (Es[(x.toInt - lo).toNat]'hj) := List.getElem?_eq_getElem hj
    have ho : offs[(x.toInt - lo).toNat]? = some (offs[(x.toInt - lo).toNat]'(by omega)) := Array.getElem?_eq_getElem (by omega)
    obtain ⟨tgt, ht2, hg⟩ := h2 _ _ _ hE ho
    rw [List.getD_eq_getElem?_getD, hE] at he9
    exact lv_tableIn hF.1 hF.2.1 hd (by omega) (by omega) ho ht2 (hg x9 s9 he9 l p e s m args below meth c A D cy H locs ls hF hW hH hl)

def jo1 {δ : Type} {T0 : Type} (K : T0 → δ) (B : (T0 → δ) → δ) : δ := B K
def lo1 {δ : Type} {T0 : Type} (B : (T0 → Option δ) → T0 → Option δ) : Nat → T0 → Option δ
  | 0, _ => none
  | m + 1, x0 => B (lo1 B m) x0
theorem GE.jo1 {α : Type} {em : α → Option Value} {Y : MI} {k n pc : Nat} {lv : List (Nat × Value)} {st : List Value} {σ : St} {T0 : Type} {K : T0 → Option (α × St)} {B : (T0 → Option (α × St)) → Option (α × St)} (p2 : Nat) (lf : T0 → List (Nat × Value)) (sf : T0 → List Value) (tf : T0 → St) (hK : ∀ (x0 : T0), GE em Y k n p2 (lf x0) (sf x0) (tf x0) (K x0)) (h : ∀ j, (∀ (x0 : T0), GE em Y k n p2 (lf x0) (sf x0) (tf x0) (j x0)) → GE em Y k n pc lv st σ (B j)) : GE em Y k n pc lv st σ (jo1 K B) := h K hK
theorem GE.lo1 {α : Type} {em : α → Option Value} {Y : MI} {k n pc : Nat} {T0 : Type} {B : (T0 → Option (α × St)) → T0 → Option (α × St)} (lf : T0 → List (Nat × Value)) (sf : T0 → List Value) (tf : T0 → St) (h : ∀ j, (∀ (x0 : T0), GE em Y k n pc (lf x0) (sf x0) (tf x0) (j x0)) → ∀ (x0 : T0), GE em Y k n pc (lf x0) (sf x0) (tf x0) (B j x0)) : ∀ (m : Nat) (x0 : T0), GE em Y k n pc (lf x0) (sf x0) (tf x0) (lo1 B m x0) := by
  intro m
  induction m with
  | zero => intro x0; exact GE.none
  | succ m ih => intro x0; exact h _ ih x0
def jo2 {δ : Type} {T0 T1 : Type} (K : T0 → T1 → δ) (B : (T0 → T1 → δ) → δ) : δ := B K
def lo2 {δ : Type} {T0 T1 : Type} (B : (T0 → T1 → Option δ) → T0 → T1 → Option δ) : Nat → T0 → T1 → Option δ
  | 0, _, _ => none
  | m + 1, x0, x1 => B (lo2 B m) x0 x1
theorem GE.jo2 {α : Type} {em : α → Option Value} {Y : MI} {k n pc : Nat} {lv : List (Nat × Value)} {st : List Value} {σ : St} {T0 T1 : Type} {K : T0 → T1 → Option (α × St)} {B : (T0 → T1 → Option (α × St)) → Option (α × St)} (p2 : Nat) (lf : T0 → T1 → List (Nat × Value)) (sf : T0 → T1 → List Value) (tf : T0 → T1 → St) (hK : ∀ (x0 : T0) (x1 : T1), GE em Y k n p2 (lf x0 x1) (sf x0 x1) (tf x0 x1) (K x0 x1)) (h : ∀ j, (∀ (x0 : T0) (x1 : T1), GE em Y k n p2 (lf x0 x1) (sf x0 x1) (tf x0 x1) (j x0 x1)) → GE em Y k n pc lv st σ (B j)) : GE em Y k n pc lv st σ (jo2 K B) := h K hK
theorem GE.lo2 {α : Type} {em : α → Option Value} {Y : MI} {k n pc : Nat} {T0 T1 : Type} {B : (T0 → T1 → Option (α × St)) → T0 → T1 → Option (α × St)} (lf : T0 → T1 → List (Nat × Value)) (sf : T0 → T1 → List Value) (tf : T0 → T1 → St) (h : ∀ j, (∀ (x0 : T0) (x1 : T1), GE em Y k n pc (lf x0 x1) (sf x0 x1) (tf x0 x1) (j x0 x1)) → ∀ (x0 : T0) (x1 : T1), GE em Y k n pc (lf x0 x1) (sf x0 x1) (tf x0 x1) (B j x0 x1)) : ∀ (m : Nat) (x0 : T0) (x1 : T1), GE em Y k n pc (lf x0 x1) (sf x0 x1) (tf x0 x1) (lo2 B m x0 x1) := by
  intro m
  induction m with
  | zero => intro x0 x1; exact GE.none
  | succ m ih => intro x0 x1; exact h _ ih x0 x1
def jo3 {δ : Type} {T0 T1 T2 : Type} (K : T0 → T1 → T2 → δ) (B : (T0 → T1 → T2 → δ) → δ) : δ := B K
def lo3 {δ : Type} {T0 T1 T2 : Type} (B : (T0 → T1 → T2 → Option δ) → T0 → T1 → T2 → Option δ) : Nat → T0 → T1 → T2 → Option δ
  | 0, _, _, _ => none
  | m + 1, x0, x1, x2 => B (lo3 B m) x0 x1 x2
theorem GE.jo3 {α : Type} {em : α → Option Value} {Y : MI} {k n pc : Nat} {lv : List (Nat × Value)} {st : List Value} {σ : St} {T0 T1 T2 : Type} {K : T0 → T1 → T2 → Option (α × St)} {B : (T0 → T1 → T2 → Option (α × St)) → Option (α × St)} (p2 : Nat) (lf : T0 → T1 → T2 → List (Nat × Value)) (sf : T0 → T1 → T2 → List Value) (tf : T0 → T1 → T2 → St) (hK : ∀ (x0 : T0) (x1 : T1) (x2 : T2), GE em Y k n p2 (lf x0 x1 x2) (sf x0 x1 x2) (tf x0 x1 x2) (K x0 x1 x2)) (h : ∀ j, (∀ (x0 : T0) (x1 : T1) (x2 : T2), GE em Y k n p2 (lf x0 x1 x2) (sf x0 x1 x2) (tf x0 x1 x2) (j x0 x1 x2)) → GE em Y k n pc lv st σ (B j)) : GE em Y k n pc lv st σ (jo3 K B) := h K hK
theorem GE.lo3 {α : Type} {em : α → Option Value} {Y : MI} {k n pc : Nat} {T0 T1 T2 : Type} {B : (T0 → T1 → T2 → Option (α × St)) → T0 → T1 → T2 → Option (α × St)} (lf : T0 → T1 → T2 → List (Nat × Value)) (sf : T0 → T1 → T2 → List Value) (tf : T0 → T1 → T2 → St) (h : ∀ j, (∀ (x0 : T0) (x1 : T1) (x2 : T2), GE em Y k n pc (lf x0 x1 x2) (sf x0 x1 x2) (tf x0 x1 x2) (j x0 x1 x2)) → ∀ (x0 : T0) (x1 : T1) (x2 : T2), GE em Y k n pc (lf x0 x1 x2) (sf x0 x1 x2) (tf x0 x1 x2) (B j x0 x1 x2)) : ∀ (m : Nat) (x0 : T0) (x1 : T1) (x2 : T2), GE em Y k n pc (lf x0 x1 x2) (sf x0 x1 x2) (tf x0 x1 x2) (lo3 B m x0 x1 x2) := by
  intro m
  induction m with
  | zero => intro x0 x1 x2; exact GE.none
  | succ m ih => intro x0 x1 x2; exact h _ ih x0 x1 x2
def jo4 {δ : Type} {T0 T1 T2 T3 : Type} (K : T0 → T1 → T2 → T3 → δ) (B : (T0 → T1 → T2 → T3 → δ) → δ) : δ := B K
def lo4 {δ : Type} {T0 T1 T2 T3 : Type} (B : (T0 → T1 → T2 → T3 → Option δ) → T0 → T1 → T2 → T3 → Option δ) : Nat → T0 → T1 → T2 → T3 → Option δ
  | 0, _, _, _, _ => none
  | m + 1, x0, x1, x2, x3 => B (lo4 B m) x0 x1 x2 x3
theorem GE.jo4 {α : Type} {em : α → Option Value} {Y : MI} {k n pc : Nat} {lv : List (Nat × Value)} {st : List Value} {σ : St} {T0 T1 T2 T3 : Type} {K : T0 → T1 → T2 → T3 → Option (α × St)} {B : (T0 → T1 → T2 → T3 → Option (α × St)) → Option (α × St)} (p2 : Nat) (lf : T0 → T1 → T2 → T3 → List (Nat × Value)) (sf : T0 → T1 → T2 → T3 → List Value) (tf : T0 → T1 → T2 → T3 → St) (hK : ∀ (x0 : T0) (x1 : T1) (x2 : T2) (x3 : T3), GE em Y k n p2 (lf x0 x1 x2 x3) (sf x0 x1 x2 x3) (tf x0 x1 x2 x3) (K x0 x1 x2 x3)) (h : ∀ j, (∀ (x0 : T0) (x1 : T1) (x2 : T2) (x3 : T3), GE em Y k n p2 (lf x0 x1 x2 x3) (sf x0 x1 x2 x3) (tf x0 x1 x2 x3) (j x0 x1 x2 x3)) → GE em Y k n pc lv st σ (B j)) : GE em Y k n pc lv st σ (jo4 K B) := h K hK
theorem GE.lo4 {α : Type} {em : α → Option Value} {Y : MI} {k n pc : Nat} {T0 T1 T2 T3 : Type} {B : (T0 → T1 → T2 → T3 → Option (α × St)) → T0 → T1 → T2 → T3 → Option (α × St)} (lf : T0 → T1 → T2 → T3 → List (Nat × Value)) (sf : T0 → T1 → T2 → T3 → List Value) (tf : T0 → T1 → T2 → T3 → St) (h : ∀ j, (∀ (x0 : T0) (x1 : T1) (x2 : T2) (x3 : T3), GE em Y k n pc (lf x0 x1 x2 x3) (sf x0 x1 x2 x3) (tf x0 x1 x2 x3) (j x0 x1 x2 x3)) → ∀ (x0 : T0) (x1 : T1) (x2 : T2) (x3 : T3), GE em Y k n pc (lf x0 x1 x2 x3) (sf x0 x1 x2 x3) (tf x0 x1 x2 x3) (B j x0 x1 x2 x3)) : ∀ (m : Nat) (x0 : T0) (x1 : T1) (x2 : T2) (x3 : T3), GE em Y k n pc (lf x0 x1 x2 x3) (sf x0 x1 x2 x3) (tf x0 x1 x2 x3) (lo4 B m x0 x1 x2 x3) := by
  intro m
  induction m with
  | zero => intro x0 x1 x2 x3; exact GE.none
  | succ m ih => intro x0 x1 x2 x3; exact h _ ih x0 x1 x2 x3
def jo5 {δ : Type} {T0 T1 T2 T3 T4 : Type} (K : T0 → T1 → T2 → T3 → T4 → δ) (B : (T0 → T1 → T2 → T3 → T4 → δ) → δ) : δ := B K
def lo5 {δ : Type} {T0 T1 T2 T3 T4 : Type} (B : (T0 → T1 → T2 → T3 → T4 → Option δ) → T0 → T1 → T2 → T3 → T4 → Option δ) : Nat → T0 → T1 → T2 → T3 → T4 → Option δ
  | 0, _, _, _, _, _ => none
  | m + 1, x0, x1, x2, x3, x4 => B (lo5 B m) x0 x1 x2 x3 x4
theorem GE.jo5 {α : Type} {em : α → Option Value} {Y : MI} {k n pc : Nat} {lv : List (Nat × Value)} {st : List Value} {σ : St} {T0 T1 T2 T3 T4 : Type} {K : T0 → T1 → T2 → T3 → T4 → Option (α × St)} {B : (T0 → T1 → T2 → T3 → T4 → Option (α × St)) → Option (α × St)} (p2 : Nat) (lf : T0 → T1 → T2 → T3 → T4 → List (Nat × Value)) (sf : T0 → T1 → T2 → T3 → T4 → List Value) (tf : T0 → T1 → T2 → T3 → T4 → St) (hK : ∀ (x0 : T0) (x1 : T1) (x2 : T2) (x3 : T3) (x4 : T4), GE em Y k n p2 (lf x0 x1 x2 x3 x4) (sf x0 x1 x2 x3 x4) (tf x0 x1 x2 x3 x4) (K x0 x1 x2 x3 x4)) (h : ∀ j, (∀ (x0 : T0) (x1 : T1) (x2 : T2) (x3 : T3) (x4 : T4), GE em Y k n p2 (lf x0 x1 x2 x3 x4) (sf x0 x1 x2 x3 x4) (tf x0 x1 x2 x3 x4) (j x0 x1 x2 x3 x4)) → GE em Y k n pc lv st σ (B j)) : GE em Y k n pc lv st σ (jo5 K B) := h K hK
theorem GE.lo5 {α : Type} {em : α → Option Value} {Y : MI} {k n pc : Nat} {T0 T1 T2 T3 T4 : Type} {B : (T0 → T1 → T2 → T3 → T4 → Option (α × St)) → T0 → T1 → T2 → T3 → T4 → Option (α × St)} (lf : T0 → T1 → T2 → T3 → T4 → List (Nat × Value)) (sf : T0 → T1 → T2 → T3 → T4 → List Value) (tf : T0 → T1 → T2 → T3 → T4 → St) (h : ∀ j, (∀ (x0 : T0) (x1 : T1) (x2 : T2) (x3 : T3) (x4 : T4), GE em Y k n pc (lf x0 x1 x2 x3 x4) (sf x0 x1 x2 x3 x4) (tf x0 x1 x2 x3 x4) (j x0 x1 x2 x3 x4)) → ∀ (x0 : T0) (x1 : T1) (x2 : T2) (x3 : T3) (x4 : T4), GE em Y k n pc (lf x0 x1 x2 x3 x4) (sf x0 x1 x2 x3 x4) (tf x0 x1 x2 x3 x4) (B j x0 x1 x2 x3 x4)) : ∀ (m : Nat) (x0 : T0) (x1 : T1) (x2 : T2) (x3 : T3) (x4 : T4), GE em Y k n pc (lf x0 x1 x2 x3 x4) (sf x0 x1 x2 x3 x4) (tf x0 x1 x2 x3 x4) (lo5 B m x0 x1 x2 x3 x4) := by
  intro m
  induction m with
  | zero => intro x0 x1 x2 x3 x4; exact GE.none
  | succ m ih => intro x0 x1 x2 x3 x4; exact h _ ih x0 x1 x2 x3 x4
def jo6 {δ : Type} {T0 T1 T2 T3 T4 T5 : Type} (K : T0 → T1 → T2 → T3 → T4 → T5 → δ) (B : (T0 → T1 → T2 → T3 → T4 → T5 → δ) → δ) : δ := B K
def lo6 {δ : Type} {T0 T1 T2 T3 T4 T5 : Type} (B : (T0 → T1 → T2 → T3 → T4 → T5 → Option δ) → T0 → T1 → T2 → T3 → T4 → T5 → Option δ) : Nat → T0 → T1 → T2 → T3 → T4 → T5 → Option δ
  | 0, _, _, _, _, _, _ => none
  | m + 1, x0, x1, x2, x3, x4, x5 => B (lo6 B m) x0 x1 x2 x3 x4 x5
theorem GE.jo6 {α : Type} {em : α → Option Value} {Y : MI} {k n pc : Nat} {lv : List (Nat × Value)} {st : List Value} {σ : St} {T0 T1 T2 T3 T4 T5 : Type} {K : T0 → T1 → T2 → T3 → T4 → T5 → Option (α × St)} {B : (T0 → T1 → T2 → T3 → T4 → T5 → Option (α × St)) → Option (α × St)} (p2 : Nat) (lf : T0 → T1 → T2 → T3 → T4 → T5 → List (Nat × Value)) (sf : T0 → T1 → T2 → T3 → T4 → T5 → List Value) (tf : T0 → T1 → T2 → T3 → T4 → T5 → St) (hK : ∀ (x0 : T0) (x1 : T1) (x2 : T2) (x3 : T3) (x4 : T4) (x5 : T5), GE em Y k n p2 (lf x0 x1 x2 x3 x4 x5) (sf x0 x1 x2 x3 x4 x5) (tf x0 x1 x2 x3 x4 x5) (K x0 x1 x2 x3 x4 x5)) (h : ∀ j, (∀ (x0 : T0) (x1 : T1) (x2 : T2) (x3 : T3) (x4 : T4) (x5 : T5), GE em Y k n p2 (lf x0 x1 x2 x3 x4 x5) (sf x0 x1 x2 x3 x4 x5) (tf x0 x1 x2 x3 x4 x5) (j x0 x1 x2 x3 x4 x5)) → GE em Y k n pc lv st σ (B j)) : GE em Y k n pc lv st σ (jo6 K B) := h K hK
theorem GE.lo6 {α : Type} {em : α → Option Value} {Y : MI} {k n pc : Nat} {T0 T1 T2 T3 T4 T5 : Type} {B : (T0 → T1 → T2 → T3 → T4 → T5 → Option (α × St)) → T0 → T1 → T2 → T3 → T4 → T5 → Option (α × St)} (lf : T0 → T1 → T2 → T3 → T4 → T5 → List (Nat × Value)) (sf : T0 → T1 → T2 → T3 → T4 → T5 → List Value) (tf : T0 → T1 → T2 → T3 → T4 → T5 → St) (h : ∀ j, (∀ (x0 : T0) (x1 : T1) (x2 : T2) (x3 : T3) (x4 : T4) (x5 : T5), GE em Y k n pc (lf x0 x1 x2 x3 x4 x5) (sf x0 x1 x2 x3 x4 x5) (tf x0 x1 x2 x3 x4 x5) (j x0 x1 x2 x3 x4 x5)) → ∀ (x0 : T0) (x1 : T1) (x2 : T2) (x3 : T3) (x4 : T4) (x5 : T5), GE em Y k n pc (lf x0 x1 x2 x3 x4 x5) (sf x0 x1 x2 x3 x4 x5) (tf x0 x1 x2 x3 x4 x5) (B j x0 x1 x2 x3 x4 x5)) : ∀ (m : Nat) (x0 : T0) (x1 : T1) (x2 : T2) (x3 : T3) (x4 : T4) (x5 : T5), GE em Y k n pc (lf x0 x1 x2 x3 x4 x5) (sf x0 x1 x2 x3 x4 x5) (tf x0 x1 x2 x3 x4 x5) (lo6 B m x0 x1 x2 x3 x4 x5) := by
  intro m
  induction m with
  | zero => intro x0 x1 x2 x3 x4 x5; exact GE.none
  | succ m ih => intro x0 x1 x2 x3 x4 x5; exact h _ ih x0 x1 x2 x3 x4 x5
def jo7 {δ : Type} {T0 T1 T2 T3 T4 T5 T6 : Type} (K : T0 → T1 → T2 → T3 → T4 → T5 → T6 → δ) (B : (T0 → T1 → T2 → T3 → T4 → T5 → T6 → δ) → δ) : δ := B K
def lo7 {δ : Type} {T0 T1 T2 T3 T4 T5 T6 : Type} (B : (T0 → T1 → T2 → T3 → T4 → T5 → T6 → Option δ) → T0 → T1 → T2 → T3 → T4 → T5 → T6 → Option δ) : Nat → T0 → T1 → T2 → T3 → T4 → T5 → T6 → Option δ
  | 0, _, _, _, _, _, _, _ => none
  | m + 1, x0, x1, x2, x3, x4, x5, x6 => B (lo7 B m) x0 x1 x2 x3 x4 x5 x6
theorem GE.jo7 {α : Type} {em : α → Option Value} {Y : MI} {k n pc : Nat} {lv : List (Nat × Value)} {st : List Value} {σ : St} {T0 T1 T2 T3 T4 T5 T6 : Type} {K : T0 → T1 → T2 → T3 → T4 → T5 → T6 → Option (α × St)} {B : (T0 → T1 → T2 → T3 → T4 → T5 → T6 → Option (α × St)) → Option (α × St)} (p2 : Nat) (lf : T0 → T1 → T2 → T3 → T4 → T5 → T6 → List (Nat × Value)) (sf : T0 → T1 → T2 → T3 → T4 → T5 → T6 → List Value) (tf : T0 → T1 → T2 → T3 → T4 → T5 → T6 → St) (hK : ∀ (x0 : T0) (x1 : T1) (x2 : T2) (x3 : T3) (x4 : T4) (x5 : T5) (x6 : T6), GE em Y k n p2 (lf x0 x1 x2 x3 x4 x5 x6) (sf x0 x1 x2 x3 x4 x5 x6) (tf x0 x1 x2 x3 x4 x5 x6) (K x0 x1 x2 x3 x4 x5 x6)) (h : ∀ j, (∀ (x0 : T0) (x1 : T1) (x2 : T2) (x3 : T3) (x4 : T4) (x5 : T5) (x6 : T6), GE em Y k n p2 (lf x0 x1 x2 x3 x4 x5 x6) (sf x0 x1 x2 x3 x4 x5 x6) (tf x0 x1 x2 x3 x4 x5 x6) (j x0 x1 x2 x3 x4 x5 x6)) → GE em Y k n pc lv st σ (B j)) : GE em Y k n pc lv st σ (jo7 K B) := h K hK
theorem GE.lo7 {α : Type} {em : α → Option Value} {Y : MI} {k n pc : Nat} {T0 T1 T2 T3 T4 T5 T6 : Type} {B : (T0 → T1 → T2 → T3 → T4 → T5 → T6 → Option (α × St)) → T0 → T1 → T2 → T3 → T4 → T5 → T6 → Option (α × St)} (lf : T0 → T1 → T2 → T3 → T4 → T5 → T6 → List (Nat × Value)) (sf : T0 → T1 → T2 → T3 → T4 → T5 → T6 → List Value) (tf : T0 → T1 → T2 → T3 → T4 → T5 → T6 → St) (h : ∀ j, (∀ (x0 : T0) (x1 : T1) (x2 : T2) (x3 : T3) (x4 : T4) (x5 : T5) (x6 : T6), GE em Y k n pc (lf x0 x1 x2 x3 x4 x5 x6) (sf x0 x1 x2 x3 x4 x5 x6) (tf x0 x1 x2 x3 x4 x5 x6) (j x0 x1 x2 x3 x4 x5 x6)) → ∀ (x0 : T0) (x1 : T1) (x2 : T2) (x3 : T3) (x4 : T4) (x5 : T5) (x6 : T6), GE em Y k n pc (lf x0 x1 x2 x3 x4 x5 x6) (sf x0 x1 x2 x3 x4 x5 x6) (tf x0 x1 x2 x3 x4 x5 x6) (B j x0 x1 x2 x3 x4 x5 x6)) : ∀ (m : Nat) (x0 : T0) (x1 : T1) (x2 : T2) (x3 : T3) (x4 : T4) (x5 : T5) (x6 : T6), GE em Y k n pc (lf x0 x1 x2 x3 x4 x5 x6) (sf x0 x1 x2 x3 x4 x5 x6) (tf x0 x1 x2 x3 x4 x5 x6) (lo7 B m x0 x1 x2 x3 x4 x5 x6) := by
  intro m
  induction m with
  | zero => intro x0 x1 x2 x3 x4 x5 x6; exact GE.none
  | succ m ih => intro x0 x1 x2 x3 x4 x5 x6; exact h _ ih x0 x1 x2 x3 x4 x5 x6
def jo8 {δ : Type} {T0 T1 T2 T3 T4 T5 T6 T7 : Type} (K : T0 → T1 → T2 → T3 → T4 → T5 → T6 → T7 → δ) (B : (T0 → T1 → T2 → T3 → T4 → T5 → T6 → T7 → δ) → δ) : δ := B K
def lo8 {δ : Type} {T0 T1 T2 T3 T4 T5 T6 T7 : Type} (B : (T0 → T1 → T2 → T3 → T4 → T5 → T6 → T7 → Option δ) → T0 → T1 → T2 → T3 → T4 → T5 → T6 → T7 → Option δ) : Nat → T0 → T1 → T2 → T3 → T4 → T5 → T6 → T7 → Option δ
  | 0, _, _, _, _, _, _, _, _ => none
  | m + 1, x0, x1, x2, x3, x4, x5, x6, x7 => B (lo8 B m) x0 x1 x2 x3 x4 x5 x6 x7
theorem GE.jo8 {α : Type} {em : α → Option Value} {Y : MI} {k n pc : Nat} {lv : List (Nat × Value)} {st : List Value} {σ : St} {T0 T1 T2 T3 T4 T5 T6 T7 : Type} {K : T0 → T1 → T2 → T3 → T4 → T5 → T6 → T7 → Option (α × St)} {B : (T0 → T1 → T2 → T3 → T4 → T5 → T6 → T7 → Option (α × St)) → Option (α × St)} (p2 : Nat) (lf : T0 → T1 → T2 → T3 → T4 → T5 → T6 → T7 → List (Nat × Value)) (sf : T0 → T1 → T2 → T3 → T4 → T5 → T6 → T7 → List Value) (tf : T0 → T1 → T2 → T3 → T4 → T5 → T6 → T7 → St) (hK : ∀ (x0 : T0) (x1 : T1) (x2 : T2) (x3 : T3) (x4 : T4) (x5 : T5) (x6 : T6) (x7 : T7), GE em Y k n p2 (lf x0 x1 x2 x3 x4 x5 x6 x7) (sf x0 x1 x2 x3 x4 x5 x6 x7) (tf x0 x1 x2 x3 x4 x5 x6 x7) (K x0 x1 x2 x3 x4 x5 x6 x7)) (h : ∀ j, (∀ (x0 : T0) (x1 : T1) (x2 : T2) (x3 : T3) (x4 : T4) (x5 : T5) (x6 : T6) (x7 : T7), GE em Y k n p2 (lf x0 x1 x2 x3 x4 x5 x6 x7) (sf x0 x1 x2 x3 x4 x5 x6 x7) (tf x0 x1 x2 x3 x4 x5 x6 x7) (j x0 x1 x2 x3 x4 x5 x6 x7)) → GE em Y k n pc lv st σ (B j)) : GE em Y k n pc lv st σ (jo8 K B) := h K hK
theorem GE.lo8 {α : Type} {em : α → Option Value} {Y : MI} {k n pc : Nat} {T0 T1 T2 T3 T4 T5 T6 T7 : Type} {B : (T0 → T1 → T2 → T3 → T4 → T5 → T6 → T7 → Option (α × St)) → T0 → T1 → T2 → T3 → T4 → T5 → T6 → T7 → Option (α × St)} (lf : T0 → T1 → T2 → T3 → T4 → T5 → T6 → T7 → List (Nat × Value)) (sf : T0 → T1 → T2 → T3 → T4 → T5 → T6 → T7 → List Value) (tf : T0 → T1 → T2 → T3 → T4 → T5 → T6 → T7 → St) (h : ∀ j, (∀ (x0 : T0) (x1 : T1) (x2 : T2) (x3 : T3) (x4 : T4) (x5 : T5) (x6 : T6) (x7 : T7), GE em Y k n pc (lf x0 x1 x2 x3 x4 x5 x6 x7) (sf x0 x1 x2 x3 x4 x5 x6 x7) (tf x0 x1 x2 x3 x4 x5 x6 x7) (j x0 x1 x2 x3 x4 x5 x6 x7)) → ∀ (x0 : T0) (x1 : T1) (x2 : T2) (x3 : T3) (x4 : T4) (x5 : T5) (x6 : T6) (x7 : T7), GE em Y k n pc (lf x0 x1 x2 x3 x4 x5 x6 x7) (sf x0 x1 x2 x3 x4 x5 x6 x7) (tf x0 x1 x2 x3 x4 x5 x6 x7) (B j x0 x1 x2 x3 x4 x5 x6 x7)) : ∀ (m : Nat) (x0 : T0) (x1 : T1) (x2 : T2) (x3 : T3) (x4 : T4) (x5 : T5) (x6 : T6) (x7 : T7), GE em Y k n pc (lf x0 x1 x2 x3 x4 x5 x6 x7) (sf x0 x1 x2 x3 x4 x5 x6 x7) (tf x0 x1 x2 x3 x4 x5 x6 x7) (lo8 B m x0 x1 x2 x3 x4 x5 x6 x7) := by
  intro m
  induction m with
  | zero => intro x0 x1 x2 x3 x4 x5 x6 x7; exact GE.none
  | succ m ih => intro x0 x1 x2 x3 x4 x5 x6 x7; exact h _ ih x0 x1 x2 x3 x4 x5 x6 x7
def jo9 {δ : Type} {T0 T1 T2 T3 T4 T5 T6 T7 T8 : Type} (K : T0 → T1 → T2 → T3 → T4 → T5 → T6 → T7 → T8 → δ) (B : (T0 → T1 → T2 → T3 → T4 → T5 → T6 → T7 → T8 → δ) → δ) : δ := B K
def lo9 {δ : Type} {T0 T1 T2 T3 T4 T5 T6 T7 T8 : Type} (B : (T0 → T1 → T2 → T3 → T4 → T5 → T6 → T7 → T8 → Option δ) → T0 → T1 → T2 → T3 → T4 → T5 → T6 → T7 → T8 → Option δ) : Nat → T0 → T1 → T2 → T3 → T4 → T5 → T6 → T7 → T8 → Option δ
  | 0, _, _, _, _, _, _, _, _, _ => none
  | m + 1, x0, x1, x2, x3, x4, x5, x6, x7, x8 => B (lo9 B m) x0 x1 x2 x3 x4 x5 x6 x7 x8
theorem GE.jo9 {α : Type} {em : α → Option Value} {Y : MI} {k n pc : Nat} {lv : List (Nat × Value)} {st : List Value} {σ : St} {T0 T1 T2 T3 T4 T5 T6 T7 T8 : Type} {K : T0 → T1 → T2 → T3 → T4 → T5 → T6 → T7 → T8 → Option (α × St)} {B : (T0 → T1 → T2 → T3 → T4 → T5 → T6 → T7 → T8 → Option (α × St)) → Option (α × St)} (p2 : Nat) (lf : T0 → T1 → T2 → T3 → T4 → T5 → T6 → T7 → T8 → List (Nat × Value)) (sf : T0 → T1 → T2 → T3 → T4 → T5 → T6 → T7 → T8 → List Value) (tf : T0 → T1 → T2 → T3 → T4 → T5 → T6 → T7 → T8 → St) (hK : ∀ (x0 : T0) (x1 : T1) (x2 : T2) (x3 : T3) (x4 : T4) (x5 : T5) (x6 : T6) (x7 : T7) (x8 : T8), GE em Y k n p2 (lf x0 x1 x2 x3 x4 x5 x6 x7 x8) (sf x0 x1 x2 x3 x4 x5 x6 x7 x8) (tf x0 x1 x2 x3 x4 x5 x6 x7 x8) (K x0 x1 x2 x3 x4 x5 x6 x7 x8)) (h : ∀ j, (∀ (x0 : T0) (x1 : T1) (x2 : T2) (x3 : T3) (x4 : T4) (x5 : T5) (x6 : T6) (x7 : T7) (x8 : T8), GE em Y k n p2 (lf x0 x1 x2 x3 x4 x5 x6 x7 x8) (sf x0 x1 x2 x3 x4 x5 x6 x7 x8) (tf x0 x1 x2 x3 x4 x5 x6 x7 x8) (j x0 x1 x2 x3 x4 x5 x6 x7 x8)) → GE em Y k n pc lv st σ (B j)) : GE em Y k n pc lv st σ (jo9 K B) := h K hK
theorem GE.lo9 {α : Type} {em : α → Option Value} {Y : MI} {k n pc : Nat} {T0 T1 T2 T3 T4 T5 T6 T7 T8 : Type} {B : (T0 → T1 → T2 → T3 → T4 → T5 → T6 → T7 → T8 → Option (α × St)) → T0 → T1 → T2 → T3 → T4 → T5 → T6 → T7 → T8 → Option (α × St)} (lf : T0 → T1 → T2 → T3 → T4 → T5 → T6 → T7 → T8 → List (Nat × Value)) (sf : T0 → T1 → T2 → T3 → T4 → T5 → T6 → T7 → T8 → List Value) (tf : T0 → T1 → T2 → T3 → T4 → T5 → T6 → T7 → T8 → St) (h : ∀ j, (∀ (x0 : T0) (x1 : T1) (x2 : T2) (x3 : T3) (x4 : T4) (x5 : T5) (x6 : T6) (x7 : T7) (x8 : T8), GE em Y k n pc (lf x0 x1 x2 x3 x4 x5 x6 x7 x8) (sf x0 x1 x2 x3 x4 x5 x6 x7 x8) (tf x0 x1 x2 x3 x4 x5 x6 x7 x8) (j x0 x1 x2 x3 x4 x5 x6 x7 x8)) → ∀ (x0 : T0) (x1 : T1) (x2 : T2) (x3 : T3) (x4 : T4) (x5 : T5) (x6 : T6) (x7 : T7) (x8 : T8), GE em Y k n pc (lf x0 x1 x2 x3 x4 x5 x6 x7 x8) (sf x0 x1 x2 x3 x4 x5 x6 x7 x8) (tf x0 x1 x2 x3 x4 x5 x6 x7 x8) (B j x0 x1 x2 x3 x4 x5 x6 x7 x8)) : ∀ (m : Nat) (x0 : T0) (x1 : T1) (x2 : T2) (x3 : T3) (x4 : T4) (x5 : T5) (x6 : T6) (x7 : T7) (x8 : T8), GE em Y k n pc (lf x0 x1 x2 x3 x4 x5 x6 x7 x8) (sf x0 x1 x2 x3 x4 x5 x6 x7 x8) (tf x0 x1 x2 x3 x4 x5 x6 x7 x8) (lo9 B m x0 x1 x2 x3 x4 x5 x6 x7 x8) := by
  intro m
  induction m with
  | zero => intro x0 x1 x2 x3 x4 x5 x6 x7 x8; exact GE.none
  | succ m ih => intro x0 x1 x2 x3 x4 x5 x6 x7 x8; exact h _ ih x0 x1 x2 x3 x4 x5 x6 x7 x8
def jo10 {δ : Type} {T0 T1 T2 T3 T4 T5 T6 T7 T8 T9 : Type} (K : T0 → T1 → T2 → T3 → T4 → T5 → T6 → T7 → T8 → T9 → δ) (B : (T0 → T1 → T2 → T3 → T4 → T5 → T6 → T7 → T8 → T9 → δ) → δ) : δ := B K
def lo10 {δ : Type} {T0 T1 T2 T3 T4 T5 T6 T7 T8 T9 : Type} (B : (T0 → T1 → T2 → T3 → T4 → T5 → T6 → T7 → T8 → T9 → Option δ) → T0 → T1 → T2 → T3 → T4 → T5 → T6 → T7 → T8 → T9 → Option δ) : Nat → T0 → T1 → T2 → T3 → T4 → T5 → T6 → T7 → T8 → T9 → Option δ
  | 0, _, _, _, _, _, _, _, _, _, _ => none
  | m + 1, x0, x1, x2, x3, x4, x5, x6, x7, x8, x9 => B (lo10 B m) x0 x1 x2 x3 x4 x5 x6 x7 x8 x9
theorem GE.jo10 {α : Type} {em : α → Option Value} {Y : MI} {k n pc : Nat} {lv : List (Nat × Value)} {st : List Value} {σ : St} {T0 T1 T2 T3 T4 T5 T6 T7 T8 T9 : Type} {K : T0 → T1 → T2 → T3 → T4 → T5 → T6 → T7 → T8 → T9 → Option (α × St)} {B : (T0 → T1 → T2 → T3 → T4 → T5 → T6 → T7 → T8 → T9 → Option (α × St)) → Option (α × St)} (p2 : Nat) (lf : T0 → T1 → T2 → T3 → T4 → T5 → T6 → T7 → T8 → T9 → List (Nat × Value)) (sf : T0 → T1 → T2 → T3 → T4 → T5 → T6 → T7 → T8 → T9 → List Value) (tf : T0 → T1 → T2 → T3 → T4 → T5 → T6 → T7 → T8 → T9 → St) (hK : ∀ (x0 : T0) (x1 : T1) (x2 : T2) (x3 : T3) (x4 : T4) (x5 : T5) (x6 : T6) (x7 : T7) (x8 : T8) (x9 : T9), GE em Y k n p2 (lf x0 x1 x2 x3 x4 x5 x6 x7 x8 x9) (sf x0 x1 x2 x3 x4 x5 x6 x7 x8 x9) (tf x0 x1 x2 x3 x4 x5 x6 x7 x8 x9) (K x0 x1 x2 x3 x4 x5 x6 x7 x8 x9)) (h : ∀ j, (∀ (x0 : T0) (x1 : T1) (x2 : T2) (x3 : T3) (x4 : T4) (x5 : T5) (x6 : T6) (x7 : T7) (x8 : T8) (x9 : T9), GE em Y k n p2 (lf x0 x1 x2 x3 x4 x5 x6 x7 x8 x9) (sf x0 x1 x2 x3 x4 x5 x6 x7 x8 x9) (tf x0 x1 x2 x3 x4 x5 x6 x7 x8 x9) (j x0 x1 x2 x3 x4 x5 x6 x7 x8 x9)) → GE em Y k n pc lv st σ (B j)) : GE em Y k n pc lv st σ (jo10 K B) := h K hK
theorem GE.lo10 {α : Type} {em : α → Option Value} {Y : MI} {k n pc : Nat} {T0 T1 T2 T3 T4 T5 T6 T7 T8 T9 : Type} {B : (T0 → T1 → T2 → T3 → T4 → T5 → T6 → T7 → T8 → T9 → Option (α × St)) → T0 → T1 → T2 → T3 → T4 → T5 → T6 → T7 → T8 → T9 → Option (α × St)} (lf : T0 → T1 → T2 → T3 → T4 → T5 → T6 → T7 → T8 → T9 → List (Nat × Value)) (sf : T0 → T1 → T2 → T3 → T4 → T5 → T6 → T7 → T8 → T9 → List Value) (tf : T0 → T1 → T2 → T3 → T4 → T5 → T6 → T7 → T8 → T9 → St) (h : ∀ j, (∀ (x0 : T0) (x1 : T1) (x2 : T2) (x3 : T3) (x4 : T4) (x5 : T5) (x6 : T6) (x7 : T7) (x8 : T8) (x9 : T9), GE em Y k n pc (lf x0 x1 x2 x3 x4 x5 x6 x7 x8 x9) (sf x0 x1 x2 x3 x4 x5 x6 x7 x8 x9) (tf x0 x1 x2 x3 x4 x5 x6 x7 x8 x9) (j x0 x1 x2 x3 x4 x5 x6 x7 x8 x9)) → ∀ (x0 : T0) (x1 : T1) (x2 : T2) (x3 : T3) (x4 : T4) (x5 : T5) (x6 : T6) (x7 : T7) (x8 : T8) (x9 : T9), GE em Y k n pc (lf x0 x1 x2 x3 x4 x5 x6 x7 x8 x9) (sf x0 x1 x2 x3 x4 x5 x6 x7 x8 x9) (tf x0 x1 x2 x3 x4 x5 x6 x7 x8 x9) (B j x0 x1 x2 x3 x4 x5 x6 x7 x8 x9)) : ∀ (m : Nat) (x0 : T0) (x1 : T1) (x2 : T2) (x3 : T3) (x4 : T4) (x5 : T5) (x6 : T6) (x7 : T7) (x8 : T8) (x9 : T9), GE em Y k n pc (lf x0 x1 x2 x3 x4 x5 x6 x7 x8 x9) (sf x0 x1 x2 x3 x4 x5 x6 x7 x8 x9) (tf x0 x1 x2 x3 x4 x5 x6 x7 x8 x9) (lo10 B m x0 x1 x2 x3 x4 x5 x6 x7 x8 x9) := by
  intro m
  induction m with
  | zero => intro x0 x1 x2 x3 x4 x5 x6 x7 x8 x9; exact GE.none
  | succ m ih => intro x0 x1 x2 x3 x4 x5 x6 x7 x8 x9; exact h _ ih x0 x1 x2 x3 x4 x5 x6 x7 x8 x9
def jo11 {δ : Type} {T0 T1 T2 T3 T4 T5 T6 T7 T8 T9 T10 : Type} (K : T0 → T1 → T2 → T3 → T4 → T5 → T6 → T7 → T8 → T9 → T10 → δ) (B : (T0 → T1 → T2 → T3 → T4 → T5 → T6 → T7 → T8 → T9 → T10 → δ) → δ) : δ := B K
def lo11 {δ : Type} {T0 T1 T2 T3 T4 T5 T6 T7 T8 T9 T10 : Type} (B : (T0 → T1 → T2 → T3 → T4 → T5 → T6 → T7 → T8 → T9 → T10 → Option δ) → T0 → T1 → T2 → T3 → T4 → T5 → T6 → T7 → T8 → T9 → T10 → Option δ) : Nat → T0 → T1 → T2 → T3 → T4 → T5 → T6 → T7 → T8 → T9 → T10 → Option δ
  | 0, _, _, _, _, _, _, _, _, _, _, _ => none
  | m + 1, x0, x1, x2, x3, x4, x5, x6, x7, x8, x9, x10 => B (lo11 B m) x0 x1 x2 x3 x4 x5 x6 x7 x8 x9 x10
theorem GE.jo11 {α : Type} {em : α → Option Value} {Y : MI} {k n pc : Nat} {lv : List (Nat × Value)} {st : List Value} {σ : St} {T0 T1 T2 T3 T4 T5 T6 T7 T8 T9 T10 : Type} {K : T0 → T1 → T2 → T3 → T4 → T5 → T6 → T7 → T8 → T9 → T10 → Option (α × St)} {B : (T0 → T1 → T2 → T3 → T4 → T5 → T6 → T7 → T8 → T9 → T10 → Option (α × St)) → Option (α × St)} (p2 : Nat) (lf : T0 → T1 → T2 → T3 → T4 → T5 → T6 → T7 → T8 → T9 → T10 → List (Nat × Value)) (sf : T0 → T1 → T2 → T3 → T4 → T5 → T6 → T7 → T8 → T9 → T10 → List Value) (tf : T0 → T1 → T2 → T3 → T4 → T5 → T6 → T7 → T8 → T9 → T10 → St) (hK : ∀ (x0 : T0) (x1 : T1) (x2 : T2) (x3 : T3) (x4 : T4) (x5 : T5) (x6 : T6) (x7 : T7) (x8 : T8) (x9 : T9) (x10 : T10), GE em Y k n p2 (lf x0 x1 x2 x3 x4 x5 x6 x7 x8 x9 x10) (sf x0 x1 x2 x3 x4 x5 x6 x7 x8 x9 x10) (tf x0 x1 x2 x3 x4 x5 x6 x7 x8 x9 x10) (K x0 x1 x2 x3 x4 x5 x6 x7 x8 x9 x10)) (h : ∀ j, (∀ (x0 : T0) (x1 : T1) (x2 : T2) (x3 : T3) (x4 : T4) (x5 : T5) (x6 : T6) (x7 : T7) (x8 : T8) (x9 : T9) (x10 : T10), GE em Y k n p2 (lf x0 x1 x2 x3 x4 x5 x6 x7 x8 x9 x10) (sf x0 x1 x2 x3 x4 x5 x6 x7 x8 x9 x10) (tf x0 x1 x2 x3 x4 x5 x6 x7 x8 x9 x10) (j x0 x1 x2 x3 x4 x5 x6 x7 x8 x9 x10)) → GE em Y k n pc lv st σ (B j)) : GE em Y k n pc lv st σ (jo11 K B) := h K hK
theorem GE.lo11 {α : Type} {em : α → Option Value} {Y : MI} {k n pc : Nat} {T0 T1 T2 T3 T4 T5 T6 T7 T8 T9 T10 : Type} {B : (T0 → T1 → T2 → T3 → T4 → T5 → T6 → T7 → T8 → T9 → T10 → Option (α × St)) → T0 → T1 → T2 → T3 → T4 → T5 → T6 → T7 → T8 → T9 → T10 → Option (α × St)} (lf : T0 → T1 → T2 → T3 → T4 → T5 → T6 → T7 → T8 → T9 → T10 → List (Nat × Value)) (sf : T0 → T1 → T2 → T3 → T4 → T5 → T6 → T7 → T8 → T9 → T10 → List Value) (tf : T0 → T1 → T2 → T3 → T4 → T5 → T6 → T7 → T8 → T9 → T10 → St) (h : ∀ j, (∀ (x0 : T0) (x1 : T1) (x2 : T2) (x3 : T3) (x4 : T4) (x5 : T5) (x6 : T6) (x7 : T7) (x8 : T8) (x9 : T9) (x10 : T10), GE em Y k n pc (lf x0 x1 x2 x3 x4 x5 x6 x7 x8 x9 x10) (sf x0 x1 x2 x3 x4 x5 x6 x7 x8 x9 x10) (tf x0 x1 x2 x3 x4 x5 x6 x7 x8 x9 x10) (j x0 x1 x2 x3 x4 x5 x6 x7 x8 x9 x10)) → ∀ (x0 : T0) (x1 : T1) (x2 : T2) (x3 : T3) (x4 : T4) (x5 : T5) (x6 : T6) (x7 : T7) (x8 : T8) (x9 : T9) (x10 : T10), GE em Y k n pc (lf x0 x1 x2 x3 x4 x5 x6 x7 x8 x9 x10) (sf x0 x1 x2 x3 x4 x5 x6 x7 x8 x9 x10) (tf x0 x1 x2 x3 x4 x5 x6 x7 x8 x9 x10) (B j x0 x1 x2 x3 x4 x5 x6 x7 x8 x9 x10)) : ∀ (m : Nat) (x0 : T0) (x1 : T1) (x2 : T2) (x3 : T3) (x4 : T4) (x5 : T5) (x6 : T6) (x7 : T7) (x8 : T8) (x9 : T9) (x10 : T10), GE em Y k n pc (lf x0 x1 x2 x3 x4 x5 x6 x7 x8 x9 x10) (sf x0 x1 x2 x3 x4 x5 x6 x7 x8 x9 x10) (tf x0 x1 x2 x3 x4 x5 x6 x7 x8 x9 x10) (lo11 B m x0 x1 x2 x3 x4 x5 x6 x7 x8 x9 x10) := by
  intro m
  induction m with
  | zero => intro x0 x1 x2 x3 x4 x5 x6 x7 x8 x9 x10; exact GE.none
  | succ m ih => intro x0 x1 x2 x3 x4 x5 x6 x7 x8 x9 x10; exact h _ ih x0 x1 x2 x3 x4 x5 x6 x7 x8 x9 x10
def jo12 {δ : Type} {T0 T1 T2 T3 T4 T5 T6 T7 T8 T9 T10 T11 : Type} (K : T0 → T1 → T2 → T3 → T4 → T5 → T6 → T7 → T8 → T9 → T10 → T11 → δ) (B : (T0 → T1 → T2 → T3 → T4 → T5 → T6 → T7 → T8 → T9 → T10 → T11 → δ) → δ) : δ := B K
def lo12 {δ : Type} {T0 T1 T2 T3 T4 T5 T6 T7 T8 T9 T10 T11 : Type} (B : (T0 → T1 → T2 → T3 → T4 → T5 → T6 → T7 → T8 → T9 → T10 → T11 → Option δ) → T0 → T1 → T2 → T3 → T4 → T5 → T6 → T7 → T8 → T9 → T10 → T11 → Option δ) : Nat → T0 → T1 → T2 → T3 → T4 → T5 → T6 → T7 → T8 → T9 → T10 → T11 → Option δ
  | 0, _, _, _, _, _, _, _, _, _, _, _, _ => none
  | m + 1, x0, x1, x2, x3, x4, x5, x6, x7, x8, x9, x10, x11 => B (lo12 B m) x0 x1 x2 x3 x4 x5 x6 x7 x8 x9 x10 x11
theorem GE.jo12 {α : Type} {em : α → Option Value} {Y : MI} {k n pc : Nat} {lv : List (Nat × Value)} {st : List Value} {σ : St} {T0 T1 T2 T3 T4 T5 T6 T7 T8 T9 T10 T11 : Type} {K : T0 → T1 → T2 → T3 → T4 → T5 → T6 → T7 → T8 → T9 → T10 → T11 → Option (α × St)} {B : (T0 → T1 → T2 → T3 → T4 → T5 → T6 → T7 → T8 → T9 → T10 → T11 → Option (α × St)) → Option (α × St)} (p2 : Nat) (lf : T0 → T1 → T2 → T3 → T4 → T5 → T6 → T7 → T8 → T9 → T10 → T11 → List (Nat × Value)) (sf : T0 → T1 → T2 → T3 → T4 → T5 → T6 → T7 → T8 → T9 → T10 → T11 → List Value) (tf : T0 → T1 → T2 → T3 → T4 → T5 → T6 → T7 → T8 → T9 → T10 → T11 → St) (hK : ∀ (x0 : T0) (x1 : T1) (x2 : T2) (x3 : T3) (x4 : T4) (x5 : T5) (x6 : T6) (x7 : T7) (x8 : T8) (x9 : T9) (x10 : T10) (x11 : T11), GE em Y k n p2 (lf x0 x1 x2 x3 x4 x5 x6 x7 x8 x9 x10 x11) (sf x0 x1 x2 x3 x4 x5 x6 x7 x8 x9 x10 x11) (tf x0 x1 x2 x3 x4 x5 x6 x7 x8 x9 x10 x11) (K x0 x1 x2 x3 x4 x5 x6 x7 x8 x9 x10 x11)) (h : ∀ j, (∀ (x0 : T0) (x1 : T1) (x2 : T2) (x3 : T3) (x4 : T4) (x5 : T5) (x6 : T6) (x7 : T7) (x8 : T8) (x9 : T9) (x10 : T10) (x11 : T11), GE em Y k n p2 (lf x0 x1 x2 x3 x4 x5 x6 x7 x8 x9 x10 x11) (sf x0 x1 x2 x3 x4 x5 x6 x7 x8 x9 x10 x11) (tf x0 x1 x2 x3 x4 x5 x6 x7 x8 x9 x10 x11) (j x0 x1 x2 x3 x4 x5 x6 x7 x8 x9 x10 x11)) → GE em Y k n pc lv st σ (B j)) : GE em Y k n pc lv st σ (jo12 K B) := h K hK
theorem GE.lo12 {α : Type} {em : α → Option Value} {Y : MI} {k n pc : Nat} {T0 T1 T2 T3 T4 T5 T6 T7 T8 T9 T10 T11 : Type} {B : (T0 → T1 → T2 → T3 → T4 → T5 → T6 → T7 → T8 → T9 → T10 → T11 → Option (α × St)) → T0 → T1 → T2 → T3 → T4 → T5 → T6 → T7 → T8 → T9 → T10 → T11 → Option (α × St)} (lf : T0 → T1 → T2 → T3 → T4 → T5 → T6 → T7 → T8 → T9 → T10 → T11 → List (Nat × Value)) (sf : T0 → T1 → T2 → T3 → T4 → T5 → T6 → T7 → T8 → T9 → T10 → T11 → List Value) (tf : T0 → T1 → T2 → T3 → T4 → T5 → T6 → T7 → T8 → T9 → T10 → T11 → St) (h : ∀ j, (∀ (x0 : T0) (x1 : T1) (x2 : T2) (x3 : T3) (x4 : T4) (x5 : T5) (x6 : T6) (x7 : T7) (x8 : T8) (x9 : T9) (x10 : T10) (x11 : T11), GE em Y k n pc (lf x0 x1 x2 x3 x4 x5 x6 x7 x8 x9 x10 x11) (sf x0 x1 x2 x3 x4 x5 x6 x7 x8 x9 x10 x11) (tf x0 x1 x2 x3 x4 x5 x6 x7 x8 x9 x10 x11) (j x0 x1 x2 x3 x4 x5 x6 x7 x8 x9 x10 x11)) → ∀ (x0 : T0) (x1 : T1) (x2 : T2) (x3 : T3) (x4 : T4) (x5 : T5) (x6 : T6) (x7 : T7) (x8 : T8) (x9 : T9) (x10 : T10) (x11 : T11), GE em Y k n pc (lf x0 x1 x2 x3 x4 x5 x6 x7 x8 x9 x10 x11) (sf x0 x1 x2 x3 x4 x5 x6 x7 x8 x9 x10 x11) (tf x0 x1 x2 x3 x4 x5 x6 x7 x8 x9 x10 x11) (B j x0 x1 x2 x3 x4 x5 x6 x7 x8 x9 x10 x11)) : ∀ (m : Nat) (x0 : T0) (x1 : T1) (x2 : T2) (x3 : T3) (x4 : T4) (x5 : T5) (x6 : T6) (x7 : T7) (x8 : T8) (x9 : T9) (x10 : T10) (x11 : T11), GE em Y k n pc (lf x0 x1 x2 x3 x4 x5 x6 x7 x8 x9 x10 x11) (sf x0 x1 x2 x3 x4 x5 x6 x7 x8 x9 x10 x11) (tf x0 x1 x2 x3 x4 x5 x6 x7 x8 x9 x10 x11) (lo12 B m x0 x1 x2 x3 x4 x5 x6 x7 x8 x9 x10 x11) := by
  intro m
  induction m with
  | zero => intro x0 x1 x2 x3 x4 x5 x6 x7 x8 x9 x10 x11; exact GE.none
  | succ m ih => intro x0 x1 x2 x3 x4 x5 x6 x7 x8 x9 x10 x11; exact h _ ih x0 x1 x2 x3 x4 x5 x6 x7 x8 x9 x10 x11
def jo13 {δ : Type} {T0 T1 T2 T3 T4 T5 T6 T7 T8 T9 T10 T11 T12 : Type} (K : T0 → T1 → T2 → T3 → T4 → T5 → T6 → T7 → T8 → T9 → T10 → T11 → T12 → δ) (B : (T0 → T1 → T2 → T3 → T4 → T5 → T6 → T7 → T8 → T9 → T10 → T11 → T12 → δ) → δ) : δ := B K
def lo13 {δ : Type} {T0 T1 T2 T3 T4 T5 T6 T7 T8 T9 T10 T11 T12 : Type} (B : (T0 → T1 → T2 → T3 → T4 → T5 → T6 → T7 → T8 → T9 → T10 → T11 → T12 → Option δ) → T0 → T1 → T2 → T3 → T4 → T5 → T6 → T7 → T8 → T9 → T10 → T11 → T12 → Option δ) : Nat → T0 → T1 → T2 → T3 → T4 → T5 → T6 → T7 → T8 → T9 → T10 → T11 → T12 → Option δ
  | 0, _, _, _, _, _, _, _, _, _, _, _, _, _ => none
  | m + 1, x0, x1, x2, x3, x4, x5, x6, x7, x8, x9, x10, x11, x12 => B (lo13 B m) x0 x1 x2 x3 x4 x5 x6 x7 x8 x9 x10 x11 x12
theorem GE.jo13 {α : Type} {em : α → Option Value} {Y : MI} {k n pc : Nat} {lv : List (Nat × Value)} {st : List Value} {σ : St} {T0 T1 T2 T3 T4 T5 T6 T7 T8 T9 T10 T11 T12 : Type} {K : T0 → T1 → T2 → T3 → T4 → T5 → T6 → T7 → T8 → T9 → T10 → T11 → T12 → Option (α × St)} {B : (T0 → T1 → T2 → T3 → T4 → T5 → T6 → T7 → T8 → T9 → T10 → T11 → T12 → Option (α × St)) → Option (α × St)} (p2 : Nat) (lf : T0 → T1 → T2 → T3 → T4 → T5 → T6 → T7 → T8 → T9 → T10 → T11 → T12 → List (Nat × Value)) (sf : T0 → T1 → T2 → T3 → T4 → T5 → T6 → T7 → T8 → T9 → T10 → T11 → T12 → List Value) (tf : T0 → T1 → T2 → T3 → T4 → T5 → T6 → T7 → T8 → T9 → T10 → T11 → T12 → St) (hK : ∀ (x0 : T0) (x1 : T1) (x2 : T2) (x3 : T3) (x4 : T4) (x5 : T5) (x6 : T6) (x7 : T7) (x8 : T8) (x9 : T9) (x10 : T10) (x11 : T11) (x12 : T12), GE em Y k n p2 (lf x0 x1 x2 x3 x4 x5 x6 x7 x8 x9 x10 x11 x12) (sf x0 x1 x2 x3 x4 x5 x6 x7 x8 x9 x10 x11 x12) (tf x0 x1 x2 x3 x4 x5 x6 x7 x8 x9 x10 x11 x12) (K x0 x1 x2 x3 x4 x5 x6 x7 x8 x9 x10 x11 x12)) (h : ∀ j, (∀ (x0 : T0) (x1 : T1) (x2 : T2) (x3 : T3) (x4 : T4) (x5 : T5) (x6 : T6) (x7 : T7) (x8 : T8) (x9 : T9) (x10 : T10) (x11 : T11) (x12 : T12), GE em Y k n p2 (lf x0 x1 x2 x3 x4 x5 x6 x7 x8 x9 x10 x11 x12) (sf x0 x1 x2 x3 x4 x5 x6 x7 x8 x9 x10 x11 x12) (tf x0 x1 x2 x3 x4 x5 x6 x7 x8 x9 x10 x11 x12) (j x0 x1 x2 x3 x4 x5 x6 x7 x8 x9 x10 x11 x12)) → GE em Y k n pc lv st σ (B j)) : GE em Y k n pc lv st σ (jo13 K B) := h K hK
theorem GE.lo13 {α : Type} {em : α → Option Value} {Y : MI} {k n pc : Nat} {T0 T1 T2 T3 T4 T5 T6 T7 T8 T9 T10 T11 T12 : Type} {B : (T0 → T1 → T2 → T3 → T4 → T5 → T6 → T7 → T8 → T9 → T10 → T11 → T12 → Option (α × St)) → T0 → T1 → T2 → T3 → T4 → T5 → T6 → T7 → T8 → T9 → T10 → T11 → T12 → Option (α × St)} (lf : T0 → T1 → T2 → T3 → T4 → T5 → T6 → T7 → T8 → T9 → T10 → T11 → T12 → List (Nat × Value)) (sf : T0 → T1 → T2 → T3 → T4 → T5 → T6 → T7 → T8 → T9 → T10 → T11 → T12 → List Value) (tf : T0 → T1 → T2 → T3 → T4 → T5 → T6 → T7 → T8 → T9 → T10 → T11 → T12 → St) (h : ∀ j, (∀ (x0 : T0) (x1 : T1) (x2 : T2) (x3 : T3) (x4 : T4) (x5 : T5) (x6 : T6) (x7 : T7) (x8 : T8) (x9 : T9) (x10 : T10) (x11 : T11) (x12 : T12), GE em Y k n pc (lf x0 x1 x2 x3 x4 x5 x6 x7 x8 x9 x10 x11 x12) (sf x0 x1 x2 x3 x4 x5 x6 x7 x8 x9 x10 x11 x12) (tf x0 x1 x2 x3 x4 x5 x6 x7 x8 x9 x10 x11 x12) (j x0 x1 x2 x3 x4 x5 x6 x7 x8 x9 x10 x11 x12)) → ∀ (x0 : T0) (x1 : T1) (x2 : T2) (x3 : T3) (x4 : T4) (x5 : T5) (x6 : T6) (x7 : T7) (x8 : T8) (x9 : T9) (x10 : T10) (x11 : T11) (x12 : T12), GE em Y k n pc (lf x0 x1 x2 x3 x4 x5 x6 x7 x8 x9 x10 x11 x12) (sf x0 x1 x2 x3 x4 x5 x6 x7 x8 x9 x10 x11 x12) (tf x0 x1 x2 x3 x4 x5 x6 x7 x8 x9 x10 x11 x12) (B j x0 x1 x2 x3 x4 x5 x6 x7 x8 x9 x10 x11 x12)) : ∀ (m : Nat) (x0 : T0) (x1 : T1) (x2 : T2) (x3 : T3) (x4 : T4) (x5 : T5) (x6 : T6) (x7 : T7) (x8 : T8) (x9 : T9) (x10 : T10) (x11 : T11) (x12 : T12), GE em Y k n pc (lf x0 x1 x2 x3 x4 x5 x6 x7 x8 x9 x10 x11 x12) (sf x0 x1 x2 x3 x4 x5 x6 x7 x8 x9 x10 x11 x12) (tf x0 x1 x2 x3 x4 x5 x6 x7 x8 x9 x10 x11 x12) (lo13 B m x0 x1 x2 x3 x4 x5 x6 x7 x8 x9 x10 x11 x12) := by
  intro m
  induction m with
  | zero => intro x0 x1 x2 x3 x4 x5 x6 x7 x8 x9 x10 x11 x12; exact GE.none
  | succ m ih => intro x0 x1 x2 x3 x4 x5 x6 x7 x8 x9 x10 x11 x12; exact h _ ih x0 x1 x2 x3 x4 x5 x6 x7 x8 x9 x10 x11 x12
def jo14 {δ : Type} {T0 T1 T2 T3 T4 T5 T6 T7 T8 T9 T10 T11 T12 T13 : Type} (K : T0 → T1 → T2 → T3 → T4 → T5 → T6 → T7 → T8 → T9 → T10 → T11 → T12 → T13 → δ) (B : (T0 → T1 → T2 → T3 → T4 → T5 → T6 → T7 → T8 → T9 → T10 → T11 → T12 → T13 → δ) → δ) : δ := B K
def lo14 {δ : Type} {T0 T1 T2 T3 T4 T5 T6 T7 T8 T9 T10 T11 T12 T13 : Type} (B : (T0 → T1 → T2 → T3 → T4 → T5 → T6 → T7 → T8 → T9 → T10 → T11 → T12 → T13 → Option δ) → T0 → T1 → T2 → T3 → T4 → T5 → T6 → T7 → T8 → T9 → T10 → T11 → T12 → T13 → Option δ) : Nat → T0 → T1 → T2 → T3 → T4 → T5 → T6 → T7 → T8 → T9 → T10 → T11 → T12 → T13 → Option δ
  | 0, _, _, _, _, _, _, _, _, _, _, _, _, _, _ => none
  | m + 1, x0, x1, x2, x3, x4, x5, x6, x7, x8, x9, x10, x11, x12, x13 => B (lo14 B m) x0 x1 x2 x3 x4 x5 x6 x7 x8 x9 x10 x11 x12 x13
theorem GE.jo14 {α : Type} {em : α → Option Value} {Y : MI} {k n pc : Nat} {lv : List (Nat × Value)} {st : List Value} {σ : St} {T0 T1 T2 T3 T4 T5 T6 T7 T8 T9 T10 T11 T12 T13 : Type} {K : T0 → T1 → T2 → T3 → T4 → T5 → T6 → T7 → T8 → T9 → T10 → T11 → T12 → T13 → Option (α × St)} {B : (T0 → T1 → T2 → T3 → T4 → T5 → T6 → T7 → T8 → T9 → T10 → T11 → T12 → T13 → Option (α × St)) → Option (α × St)} (p2 : Nat) (lf : T0 → T1 → T2 → T3 → T4 → T5 → T6 → T7 → T8 → T9 → T10 → T11 → T12 → T13 → List (Nat × Value)) (sf : T0 → T1 → T2 → T3 → T4 → T5 → T6 → T7 → T8 → T9 → T10 → T11 → T12 → T13 → List Value) (tf : T0 → T1 → T2 → T3 → T4 → T5 → T6 → T7 → T8 → T9 → T10 → T11 → T12 → T13 → St) (hK : ∀ (x0 : T0) (x1 : T1) (x2 : T2) (x3 : T3) (x4 : T4) (x5 : T5) (x6 : T6) (x7 : T7) (x8 : T8) (x9 : T9) (x10 : T10) (x11 : T11) (x12 : T12) (x13 : T13), GE em Y k n p2 (lf x0 x1 x2 x3 x4 x5 x6 x7 x8 x9 x10 x11 x12 x13) (sf x0 x1 x2 x3 x4 x5 x6 x7 x8 x9 x10 x11 x12 x13) (tf x0 x1 x2 x3 x4 x5 x6 x7 x8 x9 x10 x11 x12 x13) (K x0 x1 x2 x3 x4 x5 x6 x7 x8 x9 x10 x11 x12 x13)) (h : ∀ j, (∀ (x0 : T0) (x1 : T1) (x2 : T2) (x3 : T3) (x4 : T4) (x5 : T5) (x6 : T6) (x7 : T7) (x8 : T8) (x9 : T9) (x10 : T10) (x11 : T11) (x12 : T12) (x13 : T13), GE em Y k n p2 (lf x0 x1 x2 x3 x4 x5 x6 x7 x8 x9 x10 x11 x12 x13) (sf x0 x1 x2 x3 x4 x5 x6 x7 x8 x9 x10 x11 x12 x13) (tf x0 x1 x2 x3 x4 x5 x6 x7 x8 x9 x10 x11 x12 x13) (j x0 x1 x2 x3 x4 x5 x6 x7 x8 x9 x10 x11 x12 x13)) → GE em Y k n pc lv st σ (B j)) : GE em Y k n pc lv st σ (jo14 K B) := h K hK
theorem GE.lo14 {α : Type} {em : α → Option Value} {Y : MI} {k n pc : Nat} {T0 T1 T2 T3 T4 T5 T6 T7 T8 T9 T10 T11 T12 T13 : Type} {B : (T0 → T1 → T2 → T3 → T4 → T5 → T6 → T7 → T8 → T9 → T10 → T11 → T12 → T13 → Option (α × St)) → T0 → T1 → T2 → T3 → T4 → T5 → T6 → T7 → T8 → T9 → T10 → T11 → T12 → T13 → Option (α × St)} (lf : T0 → T1 → T2 → T3 → T4 → T5 → T6 → T7 → T8 → T9 → T10 → T11 → T12 → T13 → List (Nat × Value)) (sf : T0 → T1 → T2 → T3 → T4 → T5 → T6 → T7 → T8 → T9 → T10 → T11 → T12 → T13 → List Value) (tf : T0 → T1 → T2 → T3 → T4 → T5 → T6 → T7 → T8 → T9 → T10 → T11 → T12 → T13 → St) (h : ∀ j, (∀ (x0 : T0) (x1 : T1) (x2 : T2) (x3 : T3) (x4 : T4) (x5 : T5) (x6 : T6) (x7 : T7) (x8 : T8) (x9 : T9) (x10 : T10) (x11 : T11) (x12 : T12) (x13 : T13), GE em Y k n pc (lf x0 x1 x2 x3 x4 x5 x6 x7 x8 x9 x10 x11 x12 x13) (sf x0 x1 x2 x3 x4 x5 x6 x7 x8 x9 x10 x11 x12 x13) (tf x0 x1 x2 x3 x4 x5 x6 x7 x8 x9 x10 x11 x12 x13) (j x0 x1 x2 x3 x4 x5 x6 x7 x8 x9 x10 x11 x12 x13)) → ∀ (x0 : T0) (x1 : T1) (x2 : T2) (x3 : T3) (x4 : T4) (x5 : T5) (x6 : T6) (x7 : T7) (x8 : T8) (x9 : T9) (x10 : T10) (x11 : T11) (x12 : T12) (x13 : T13), GE em Y k n pc (lf x0 x1 x2 x3 x4 x5 x6 x7 x8 x9 x10 x11 x12 x13) (sf x0 x1 x2 x3 x4 x5 x6 x7 x8 x9 x10 x11 x12 x13) (tf x0 x1 x2 x3 x4 x5 x6 x7 x8 x9 x10 x11 x12 x13) (B j x0 x1 x2 x3 x4 x5 x6 x7 x8 x9 x10 x11 x12 x13)) : ∀ (m : Nat) (x0 : T0) (x1 : T1) (x2 : T2) (x3 : T3) (x4 : T4) (x5 : T5) (x6 : T6) (x7 : T7) (x8 : T8) (x9 : T9) (x10 : T10) (x11 : T11) (x12 : T12) (x13 : T13), GE em Y k n pc (lf x0 x1 x2 x3 x4 x5 x6 x7 x8 x9 x10 x11 x12 x13) (sf x0 x1 x2 x3 x4 x5 x6 x7 x8 x9 x10 x11 x12 x13) (tf x0 x1 x2 x3 x4 x5 x6 x7 x8 x9 x10 x11 x12 x13) (lo14 B m x0 x1 x2 x3 x4 x5 x6 x7 x8 x9 x10 x11 x12 x13) := by
  intro m
  induction m with
  | zero => intro x0 x1 x2 x3 x4 x5 x6 x7 x8 x9 x10 x11 x12 x13; exact GE.none
  | succ m ih => intro x0 x1 x2 x3 x4 x5 x6 x7 x8 x9 x10 x11 x12 x13; exact h _ ih x0 x1 x2 x3 x4 x5 x6 x7 x8 x9 x10 x11 x12 x13
theorem rokb {Y Yc : MI} {k n : Nat} {rest : List Value} (h : (Nat.ble (Yc.2.2.2.2.2.2 + 1) Y.2.2.2.2.2.2 && (Nat.ble (k + Yc.2.2.2.2.1) Y.2.2.2.2.1 && (Nat.ble (n + Yc.2.2.2.2.2.1) Y.2.2.2.2.2.1 && Nat.ble (rest.map fun v => v.category).sum 8))) = true) : Rok Y Yc k n rest := by
  simp only [Bool.and_eq_true] at h
  exact ⟨Nat.le_of_ble_eq_true h.1, Nat.le_of_ble_eq_true h.2.1, Nat.le_of_ble_eq_true h.2.2.1, Nat.le_of_ble_eq_true h.2.2.2⟩
theorem GE.callvI {α : Type} {em : α → Option Value} {Y : MI} {k n pc : Nat} {lv : List (Nat × Value)} {rest : List Value} {σ : St} {Yc : MI} {idx na b ci : Nat} (As : List Value) {E2 : Option (Int32 × St)} {K : Int32 → St → Option (α × St)} (hd : decode Y.1 pc = .ok (.invokevirtual idx, 3)) (hL : MLv Y.2.1.cls idx Yc ci na) (hna : As.length = na) (h0 : Yc.2.2.2.2.1 = 0 ∧ Yc.2.2.2.2.2.1 = 0) (hR : Rok Y Yc k n rest) (hc : CE vI Yc (.ref b :: As) σ E2) (h : ∀ (x : Int32) (t : St), GE em Y k n (pc + 3) lv (.int x :: rest) t (K x t)) : GE em Y k n pc lv (As.reverse ++ .ref b :: rest) σ (bo ci σ b E2 K) := by
  intro x9 s9 he9
  unfold bo at he9
  by_cases hO : isO ci σ b = true
  case neg => rw [if_neg hO] at he9; cases he9
  rw [if_pos hO] at he9
  obtain ⟨z1, z2, h1, h2⟩ := bd_eq he9
  refine AW.callv hd hL hna hR hO (hc z1 z2 h1) (fun r t hr ht => ?_)
  obtain ⟨rfl, rfl⟩ := hr
  rw [h0.1, h0.2]
  exact h z1 t x9 s9 h2
theorem GE.callvL {α : Type} {em : α → Option Value} {Y : MI} {k n pc : Nat} {lv : List (Nat × Value)} {rest : List Value} {σ : St} {Yc : MI} {idx na b ci : Nat} (As : List Value) {E2 : Option (Int64 × St)} {K : Int64 → St → Option (α × St)} (hd : decode Y.1 pc = .ok (.invokevirtual idx, 3)) (hL : MLv Y.2.1.cls idx Yc ci na) (hna : As.length = na) (h0 : Yc.2.2.2.2.1 = 0 ∧ Yc.2.2.2.2.2.1 = 0) (hR : Rok Y Yc k n rest) (hc : CE vL Yc (.ref b :: As) σ E2) (h : ∀ (x : Int64) (t : St), GE em Y k n (pc + 3) lv (.long x :: rest) t (K x t)) : GE em Y k n pc lv (As.reverse ++ .ref b :: rest) σ (bo ci σ b E2 K) := by
  intro x9 s9 he9
  unfold bo at he9
  by_cases hO : isO ci σ b = true
  case neg => rw [if_neg hO] at he9; cases he9
  rw [if_pos hO] at he9
  obtain ⟨z1, z2, h1, h2⟩ := bd_eq he9
  refine AW.callv hd hL hna hR hO (hc z1 z2 h1) (fun r t hr ht => ?_)
  obtain ⟨rfl, rfl⟩ := hr
  rw [h0.1, h0.2]
  exact h z1 t x9 s9 h2
theorem GE.callvU {α : Type} {em : α → Option Value} {Y : MI} {k n pc : Nat} {lv : List (Nat × Value)} {rest : List Value} {σ : St} {Yc : MI} {idx na b ci : Nat} (As : List Value) {E2 : Option (Unit × St)} {K : Unit → St → Option (α × St)} (hd : decode Y.1 pc = .ok (.invokevirtual idx, 3)) (hL : MLv Y.2.1.cls idx Yc ci na) (hna : As.length = na) (h0 : Yc.2.2.2.2.1 = 0 ∧ Yc.2.2.2.2.2.1 = 0) (hR : Rok Y Yc k n rest) (hc : CE vU Yc (.ref b :: As) σ E2) (h : ∀ (x : Unit) (t : St), GE em Y k n (pc + 3) lv (rest) t (K x t)) : GE em Y k n pc lv (As.reverse ++ .ref b :: rest) σ (bo ci σ b E2 K) := by
  intro x9 s9 he9
  unfold bo at he9
  by_cases hO : isO ci σ b = true
  case neg => rw [if_neg hO] at he9; cases he9
  rw [if_pos hO] at he9
  obtain ⟨z1, z2, h1, h2⟩ := bd_eq he9
  refine AW.callv hd hL hna hR hO (hc z1 z2 h1) (fun r t hr ht => ?_)
  obtain ⟨rfl, rfl⟩ := hr
  rw [h0.1, h0.2]
  exact h z1 t x9 s9 h2
theorem GE.callvQ {α : Type} {em : α → Option Value} {Y : MI} {k n pc : Nat} {lv : List (Nat × Value)} {rest : List Value} {σ : St} {Yc : MI} {idx na b ci : Nat} (As : List Value) {E2 : Option ((Option Nat) × St)} {K : (Option Nat) → St → Option (α × St)} (hd : decode Y.1 pc = .ok (.invokevirtual idx, 3)) (hL : MLv Y.2.1.cls idx Yc ci na) (hna : As.length = na) (h0 : Yc.2.2.2.2.1 = 0 ∧ Yc.2.2.2.2.2.1 = 0) (hR : Rok Y Yc k n rest) (hc : CE vQ Yc (.ref b :: As) σ E2) (h : ∀ (x : (Option Nat)) (t : St), GE em Y k n (pc + 3) lv (va_rf x :: rest) t (K x t)) : GE em Y k n pc lv (As.reverse ++ .ref b :: rest) σ (bo ci σ b E2 K) := by
  intro x9 s9 he9
  unfold bo at he9
  by_cases hO : isO ci σ b = true
  case neg => rw [if_neg hO] at he9; cases he9
  rw [if_pos hO] at he9
  obtain ⟨z1, z2, h1, h2⟩ := bd_eq he9
  refine AW.callv hd hL hna hR hO (hc z1 z2 h1) (fun r t hr ht => ?_)
  obtain ⟨rfl, rfl⟩ := hr
  rw [h0.1, h0.2]
  exact h z1 t x9 s9 h2
theorem GE.callsI {α : Type} {em : α → Option Value} {Y : MI} {k n pc : Nat} {lv : List (Nat × Value)} {rest : List Value} {σ : St} {Yc : MI} {idx na : Nat} (As : List Value) {E2 : Option (Int32 × St)} {K : Int32 → St → Option (α × St)} (hd : decode Y.1 pc = .ok (.invokestatic idx, 3)) (hL : MLs Y.2.1.cls idx Yc na) (hna : As.length = na) (h0 : Yc.2.2.2.2.1 = 0 ∧ Yc.2.2.2.2.2.1 = 0) (hR : Rok Y Yc k n rest) (hc : CE vI Yc (As) σ E2) (h : ∀ (x : Int32) (t : St), GE em Y k n (pc + 3) lv (.int x :: rest) t (K x t)) : GE em Y k n pc lv (As.reverse ++ rest) σ (bd E2 K) := by
  intro x9 s9 he9
  obtain ⟨z1, z2, h1, h2⟩ := bd_eq he9
  refine AW.calls hd hL hna hR (hc z1 z2 h1) (fun r t hr ht => ?_)
  obtain ⟨rfl, rfl⟩ := hr
  rw [h0.1, h0.2]
  exact h z1 t x9 s9 h2
theorem GE.callsL {α : Type} {em : α → Option Value} {Y : MI} {k n pc : Nat} {lv : List (Nat × Value)} {rest : List Value} {σ : St} {Yc : MI} {idx na : Nat} (As : List Value) {E2 : Option (Int64 × St)} {K : Int64 → St → Option (α × St)} (hd : decode Y.1 pc = .ok (.invokestatic idx, 3)) (hL : MLs Y.2.1.cls idx Yc na) (hna : As.length = na) (h0 : Yc.2.2.2.2.1 = 0 ∧ Yc.2.2.2.2.2.1 = 0) (hR : Rok Y Yc k n rest) (hc : CE vL Yc (As) σ E2) (h : ∀ (x : Int64) (t : St), GE em Y k n (pc + 3) lv (.long x :: rest) t (K x t)) : GE em Y k n pc lv (As.reverse ++ rest) σ (bd E2 K) := by
  intro x9 s9 he9
  obtain ⟨z1, z2, h1, h2⟩ := bd_eq he9
  refine AW.calls hd hL hna hR (hc z1 z2 h1) (fun r t hr ht => ?_)
  obtain ⟨rfl, rfl⟩ := hr
  rw [h0.1, h0.2]
  exact h z1 t x9 s9 h2
theorem GE.callsU {α : Type} {em : α → Option Value} {Y : MI} {k n pc : Nat} {lv : List (Nat × Value)} {rest : List Value} {σ : St} {Yc : MI} {idx na : Nat} (As : List Value) {E2 : Option (Unit × St)} {K : Unit → St → Option (α × St)} (hd : decode Y.1 pc = .ok (.invokestatic idx, 3)) (hL : MLs Y.2.1.cls idx Yc na) (hna : As.length = na) (h0 : Yc.2.2.2.2.1 = 0 ∧ Yc.2.2.2.2.2.1 = 0) (hR : Rok Y Yc k n rest) (hc : CE vU Yc (As) σ E2) (h : ∀ (x : Unit) (t : St), GE em Y k n (pc + 3) lv (rest) t (K x t)) : GE em Y k n pc lv (As.reverse ++ rest) σ (bd E2 K) := by
  intro x9 s9 he9
  obtain ⟨z1, z2, h1, h2⟩ := bd_eq he9
  refine AW.calls hd hL hna hR (hc z1 z2 h1) (fun r t hr ht => ?_)
  obtain ⟨rfl, rfl⟩ := hr
  rw [h0.1, h0.2]
  exact h z1 t x9 s9 h2
theorem GE.callsQ {α : Type} {em : α → Option Value} {Y : MI} {k n pc : Nat} {lv : List (Nat × Value)} {rest : List Value} {σ : St} {Yc : MI} {idx na : Nat} (As : List Value) {E2 : Option ((Option Nat) × St)} {K : (Option Nat) → St → Option (α × St)} (hd : decode Y.1 pc = .ok (.invokestatic idx, 3)) (hL : MLs Y.2.1.cls idx Yc na) (hna : As.length = na) (h0 : Yc.2.2.2.2.1 = 0 ∧ Yc.2.2.2.2.2.1 = 0) (hR : Rok Y Yc k n rest) (hc : CE vQ Yc (As) σ E2) (h : ∀ (x : (Option Nat)) (t : St), GE em Y k n (pc + 3) lv (va_rf x :: rest) t (K x t)) : GE em Y k n pc lv (As.reverse ++ rest) σ (bd E2 K) := by
  intro x9 s9 he9
  obtain ⟨z1, z2, h1, h2⟩ := bd_eq he9
  refine AW.calls hd hL hna hR (hc z1 z2 h1) (fun r t hr ht => ?_)
  obtain ⟨rfl, rfl⟩ := hr
  rw [h0.1, h0.2]
  exact h z1 t x9 s9 h2
theorem GE.callnI {α : Type} {em : α → Option Value} {Y : MI} {k n pc : Nat} {lv : List (Nat × Value)} {rest : List Value} {σ : St} {Yc : MI} {idx na : Nat} (As : List Value) {E2 : Option (Int32 × St)} {K : Int32 → St → Option (α × St)} (hd : decode Y.1 pc = .ok (.invokestatic idx, 3)) (hL : MLn Y.2.1.cls idx Yc na) (hna : As.length = na) (h0 : Yc.2.2.2.2.1 = 0 ∧ Yc.2.2.2.2.2.1 = 0) (hR : Rok Y Yc k n rest) (hc : CE vI Yc (As) σ E2) (h : ∀ (x : Int32) (t : St), GE em Y k n (pc + 3) lv (.int x :: rest) t (K x t)) : GE em Y k n pc lv (As.reverse ++ rest) σ (bd E2 K) := by
  intro x9 s9 he9
  obtain ⟨z1, z2, h1, h2⟩ := bd_eq he9
  refine AW.calln hd hL hna hR (hc z1 z2 h1) (fun r t hr ht => ?_)
  obtain ⟨rfl, rfl⟩ := hr
  rw [h0.1, h0.2]
  exact h z1 t x9 s9 h2
theorem GE.callnL {α : Type} {em : α → Option Value} {Y : MI} {k n pc : Nat} {lv : List (Nat × Value)} {rest : List Value} {σ : St} {Yc : MI} {idx na : Nat} (As : List Value) {E2 : Option (Int64 × St)} {K : Int64 → St → Option (α × St)} (hd : decode Y.1 pc = .ok (.invokestatic idx, 3)) (hL : MLn Y.2.1.cls idx Yc na) (hna : As.length = na) (h0 : Yc.2.2.2.2.1 = 0 ∧ Yc.2.2.2.2.2.1 = 0) (hR : Rok Y Yc k n rest) (hc : CE vL Yc (As) σ E2) (h : ∀ (x : Int64) (t : St), GE em Y k n (pc + 3) lv (.long x :: rest) t (K x t)) : GE em Y k n pc lv (As.reverse ++ rest) σ (bd E2 K) := by
  intro x9 s9 he9
  obtain ⟨z1, z2, h1, h2⟩ := bd_eq he9
  refine AW.calln hd hL hna hR (hc z1 z2 h1) (fun r t hr ht => ?_)
  obtain ⟨rfl, rfl⟩ := hr
  rw [h0.1, h0.2]
  exact h z1 t x9 s9 h2
theorem GE.callnU {α : Type} {em : α → Option Value} {Y : MI} {k n pc : Nat} {lv : List (Nat × Value)} {rest : List Value} {σ : St} {Yc : MI} {idx na : Nat} (As : List Value) {E2 : Option (Unit × St)} {K : Unit → St → Option (α × St)} (hd : decode Y.1 pc = .ok (.invokestatic idx, 3)) (hL : MLn Y.2.1.cls idx Yc na) (hna : As.length = na) (h0 : Yc.2.2.2.2.1 = 0 ∧ Yc.2.2.2.2.2.1 = 0) (hR : Rok Y Yc k n rest) (hc : CE vU Yc (As) σ E2) (h : ∀ (x : Unit) (t : St), GE em Y k n (pc + 3) lv (rest) t (K x t)) : GE em Y k n pc lv (As.reverse ++ rest) σ (bd E2 K) := by
  intro x9 s9 he9
  obtain ⟨z1, z2, h1, h2⟩ := bd_eq he9
  refine AW.calln hd hL hna hR (hc z1 z2 h1) (fun r t hr ht => ?_)
  obtain ⟨rfl, rfl⟩ := hr
  rw [h0.1, h0.2]
  exact h z1 t x9 s9 h2
theorem GE.callnQ {α : Type} {em : α → Option Value} {Y : MI} {k n pc : Nat} {lv : List (Nat × Value)} {rest : List Value} {σ : St} {Yc : MI} {idx na : Nat} (As : List Value) {E2 : Option ((Option Nat) × St)} {K : (Option Nat) → St → Option (α × St)} (hd : decode Y.1 pc = .ok (.invokestatic idx, 3)) (hL : MLn Y.2.1.cls idx Yc na) (hna : As.length = na) (h0 : Yc.2.2.2.2.1 = 0 ∧ Yc.2.2.2.2.2.1 = 0) (hR : Rok Y Yc k n rest) (hc : CE vQ Yc (As) σ E2) (h : ∀ (x : (Option Nat)) (t : St), GE em Y k n (pc + 3) lv (va_rf x :: rest) t (K x t)) : GE em Y k n pc lv (As.reverse ++ rest) σ (bd E2 K) := by
  intro x9 s9 he9
  obtain ⟨z1, z2, h1, h2⟩ := bd_eq he9
  refine AW.calln hd hL hna hR (hc z1 z2 h1) (fun r t hr ht => ?_)
  obtain ⟨rfl, rfl⟩ := hr
  rw [h0.1, h0.2]
  exact h z1 t x9 s9 h2
