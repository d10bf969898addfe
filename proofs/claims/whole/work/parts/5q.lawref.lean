/-! The LAW's reader: the reference, its rows -/
theorem evW_seg {c c' v v' g : Nat → Int32} : ∀ d k st, (∀ j, k ≤ j → j < k + d → c' j = c j ∧ v' j = v j) → evW c' v' g d k st = evW c v g d k st := by
  intro d
  induction d with
  | zero => intro k st h; rfl
  | succ d ih =>
    intro k st h
    have ihf : evW c' v' g d (k + 1) = evW c v g d (k + 1) := funext (fun st => ih (k + 1) st (fun j h1 h2 => h j (by omega) (by omega)))
    rw [evW_s, evW_s, ihf, (h k (by omega) (by omega)).1, (h k (by omega) (by omega)).2]
theorem evQ_seg {c c' v v' tf tf' sf sf' st st' g : Nat → Int32} {n nc : Nat} (hp : ∀ i, i < nc → ∃ a b e : Nat, a ≤ b ∧ b ≤ e ∧ e ≤ 520 ∧ tf (140 * n + i) = nI a ∧ sf (140 * n + i) = nI b ∧ st (140 * n + i) = nI e) (h6 : ∀ j, j < 520 * n + 520 → c' j = c j ∧ v' j = v j) (h10 : ∀ i, i < nc → tf' (140 * n + i) = tf (140 * n + i) ∧ sf' (140 * n + i) = sf (140 * n + i) ∧ st' (140 * n + i) = st (140 * n + i)) : ∀ d i, i + d ≤ nc → evQ c' v' tf' sf' st' g n d i = evQ c v tf sf st g n d i := by
  intro d
  induction d with
  | zero => intro i _; rfl
  | succ d ih =>
    intro i hi
    obtain ⟨a, b, e, h1, h2, h3, q1, q2, q3⟩ := hp i (by omega)
    obtain ⟨w1, w2, w3⟩ := h10 i (by omega)
    unfold evQ
    rw [w1, w2, w3, q1, q2, q3, nI_clamp (by omega), nI_clamp (by omega), nI_clamp (by omega)]
    rw [evW_seg (c := c) (v := v) (e - b) (520 * n + b) [] (fun j k1 k2 => h6 j (by omega)), evW_seg (c := c) (v := v) (b - a) (520 * n + a) [] (fun j k1 k2 => h6 j (by omega)), ih (i + 1) (by omega)]
theorem LawM.fr2 {Q Q' : Nat → Nat → Int32} {n n0 : Nat} {f : LawF} (h : LawM Q n f) (hn : n < n0) (h6 : ∀ j, j < 520 * n0 → Q' 6 j = Q 6 j) (h7 : ∀ j, j < 520 * n0 → Q' 7 j = Q 7 j) (h9 : ∀ j, j < n0 → Q' 9 j = Q 9 j) (h10 : ∀ j, j < 140 * n0 → Q' 10 j = Q 10 j) (h11 : ∀ j, j < 140 * n0 → Q' 11 j = Q 11 j) (h12 : ∀ j, j < 140 * n0 → Q' 12 j = Q 12 j) : LawM Q' n f := by
  obtain ⟨nc, hnc, e9, hp, hv⟩ := h
  refine ⟨nc, hnc, (h9 n hn).trans e9, fun c hc => ?_, fun g hg => ?_⟩
  · obtain ⟨a, b, e, k1, k2, k3, q1, q2, q3⟩ := hp c hc
    exact ⟨a, b, e, k1, k2, k3, (h10 _ (by omega)).trans q1, (h11 _ (by omega)).trans q2, (h12 _ (by omega)).trans q3⟩
  · rw [evQ_seg hp (fun j hj => ⟨h6 j (by omega), h7 j (by omega)⟩) (fun i hi => ⟨h10 _ (by omega), h11 _ (by omega), h12 _ (by omega)⟩) nc 0 (by omega)]
    exact hv g hg
/-- rows of the laws may change from text n on -/
theorem MR.lw {J J' : Nat → Int32} {Q Q' : Nat → Nat → Int32} {a : Abs} {n0 : Nat} (h : MR J Q a) (hn : a.2.1.1 ≤ n0) (hI : ∀ k, ¬ mcI k → J' k = J k) (hR : ∀ k, ¬ mcR k → ¬ (k = 6 ∨ k = 7 ∨ (9 ≤ k ∧ k ≤ 12)) → Q' k = Q k) (h6 : ∀ j, j < 520 * n0 → Q' 6 j = Q 6 j) (h7 : ∀ j, j < 520 * n0 → Q' 7 j = Q 7 j) (h9 : ∀ j, j < n0 → Q' 9 j = Q 9 j) (h10 : ∀ j, j < 140 * n0 → Q' 10 j = Q 10 j) (h11 : ∀ j, j < 140 * n0 → Q' 11 j = Q 11 j) (h12 : ∀ j, j < 140 * n0 → Q' 12 j = Q 12 j) : MR J' Q' a := by
  have hl : mLws J' Q' a.2.1 := by
    obtain ⟨p1, p2, p3, p4, p5⟩ := h.2.1
    exact ⟨(hI _ (by unfold mcI; omega)).trans p1, p2, (hI _ (by unfold mcI; omega)).trans p3, p4, fun i hi => (p5 i hi).fr2 (n0 := n0) (by omega) h6 h7 h9 h10 h11 h12⟩
  have hQ : ∀ k, ¬ mcR k → (fun k => if k = 6 ∨ k = 7 ∨ (9 ≤ k ∧ k ≤ 12) then Q k else Q' k) k = Q k := by
    intro k hk
    by_cases q : k = 6 ∨ k = 7 ∨ (9 ≤ k ∧ k ≤ 12)
    · simp only [if_pos q]
    · simp only [if_neg q]; exact hR k hk q
  have hs := h.scr (J' := J') (Q' := fun k => if k = 6 ∨ k = 7 ∨ (9 ≤ k ∧ k ≤ 12) then Q k else Q' k) hI hQ
  obtain ⟨h1, _, h3, ⟨h4, h5⟩, g6, g7, g8, g9, g10⟩ := hs
  exact ⟨h1, hl, h3, ⟨h4, h5⟩, g6, g7, g8, g9, g10⟩
/-- the reference, its rows, and what is said of them -/
def UG (M : Mfg) (dr : Int64) (a : Abs) (X : (Nat → Int32) → (Nat → Nat → Int32) → Prop) (σ : St) : Prop := ∃ J Q, MV M J Q dr σ ∧ MR J Q a ∧ X J Q
def UX (a : Abs) (X : (Nat → Int32) → (Nat → Nat → Int32) → Prop) (p : Nat) (f : Option Nat) (J : Nat → Int32) (Q : Nat → Nat → Int32) : Prop := X J Q ∧ J 3 = nI p ∧ J 4 = oI f ∧ p < 100000 ∧ (∀ q, f = some q → q < 1000) ∧ (f = none → p ≤ a.1.1)
theorem UR_UG {M : Mfg} {dr : Int64} {a : Abs} {σ : St} {X : (Nat → Int32) → (Nat → Nat → Int32) → Prop} {p : Nat} {f : Option Nat} : UR M dr a X p f σ ↔ UG M dr a (UX a X p f) σ := Iff.rfl
section
variable {M : Mfg} {dr : Int64} {a : Abs} {σ : St} {X Y : (Nat → Int32) → (Nat → Nat → Int32) → Prop} {p n0 : Nat} {f : Option Nat}
theorem UG.imp (h : UG M dr a X σ) (hi : ∀ J Q, X J Q → Y J Q) : UG M dr a Y σ := by
  obtain ⟨J, Q, h1, h2, h3⟩ := h
  exact ⟨J, Q, h1, h2, hi _ _ h3⟩
theorem UG.O (h : UG M dr a X σ) : isO 10 σ (M.1 0) = true := by
  obtain ⟨J, Q, h1, _⟩ := h
  exact nO h1
theorem UG.pf (h : UG M dr a X σ) (k : Nat) (v : Int32) (hk : k = 3 ∨ k = 4 ∨ k = 5 ∨ k = 14) (hX : ∀ J Q, X J Q → Y (upd J k v) Q) : ∃ t, pV 10 k σ (M.1 0) (.int v) = some t ∧ UG M dr a Y t := by
  obtain ⟨J, Q, h1, h2, h3⟩ := h
  have hm : MR (upd J k v) Q a := h2.scr (fun i hi => pk_un (fun z => hi (by unfold mcI; omega))) (fun _ _ => rfl)
  rcases hk with rfl | rfl | rfl | rfl
  · obtain ⟨t, e, g⟩ := h1.putI 3 v (by decide) (fun _ => rfl) (Nat.le_of_ble_eq_true rfl) (fun _ => rfl)
    exact ⟨t, e, _, _, g, hm, hX _ _ h3⟩
  · obtain ⟨t, e, g⟩ := h1.putI 4 v (by decide) (fun _ => rfl) (Nat.le_of_ble_eq_true rfl) (fun _ => rfl)
    exact ⟨t, e, _, _, g, hm, hX _ _ h3⟩
  · obtain ⟨t, e, g⟩ := h1.putI 5 v (by decide) (fun _ => rfl) (Nat.le_of_ble_eq_true rfl) (fun _ => rfl)
    exact ⟨t, e, _, _, g, hm, hX _ _ h3⟩
  · obtain ⟨t, e, g⟩ := h1.putI 14 v (by decide) (fun _ => rfl) (Nat.le_of_ble_eq_true rfl) (fun _ => rfl)
    exact ⟨t, e, _, _, g, hm, hX _ _ h3⟩
theorem UG.rw (h : UG M dr a X σ) (hn : a.2.1.1 ≤ n0) {k i : Nat} (v : Int32) (hk : ((k = 6 ∨ k = 7) ∧ 520 * n0 ≤ i ∧ i < 2600) ∨ (k = 8 ∧ i < 5) ∨ (k = 9 ∧ n0 ≤ i ∧ i < 5) ∨ ((k = 10 ∨ k = 11 ∨ k = 12) ∧ 140 * n0 ≤ i ∧ i < 700)) (hX : ∀ J Q, X J Q → Y J (updR Q k (upd (Q k) i v))) : ∃ t, sI 0 σ (M.1 k) (nI i) v = some t ∧ UG M dr a Y t := by
  obtain ⟨J, Q, h1, h2, h3⟩ := h
  have hm : MR J (updR Q k (upd (Q k) i v)) a := by
    have hr : ∀ k', k' ≠ k → updR Q k (upd (Q k) i v) k' = Q k' := fun k' q => updR_n _ _ q
    have hj : ∀ k' j, (k' ≠ k ∨ j ≠ i) → updR Q k (upd (Q k) i v) k' j = Q k' j := by
      intro k' j q
      by_cases e : k' = k
      · subst e
        rw [updR_s]
        exact pk_un (q.elim (fun z => absurd rfl z) (fun z => z))
      · rw [hr k' e]
    refine h2.lw hn (fun _ _ => rfl) (fun k' q1 q2 => hr k' (fun e => ?_)) (fun j q => hj _ _ ?_) (fun j q => hj _ _ ?_) (fun j q => hj _ _ ?_) (fun j q => hj _ _ ?_) (fun j q => hj _ _ ?_) (fun j q => hj _ _ ?_)
    · unfold mcR at q1; omega
    all_goals omega
  rcases hk with ⟨rfl | rfl, _, hi⟩ | ⟨rfl, hi⟩ | ⟨rfl, _, hi⟩ | ⟨rfl | rfl | rfl, _, hi⟩
  · obtain ⟨t, e, g⟩ := h1.putN 6 i v rfl rfl (fun _ => rfl) hi (by decide)
    exact ⟨t, e, _, _, g, hm, hX _ _ h3⟩
  · obtain ⟨t, e, g⟩ := h1.putN 7 i v rfl rfl (fun _ => rfl) hi (by decide)
    exact ⟨t, e, _, _, g, hm, hX _ _ h3⟩
  · obtain ⟨t, e, g⟩ := h1.putN 8 i v rfl rfl (fun _ => rfl) hi (by decide)
    exact ⟨t, e, _, _, g, hm, hX _ _ h3⟩
  · obtain ⟨t, e, g⟩ := h1.putN 9 i v rfl rfl (fun _ => rfl) hi (by decide)
    exact ⟨t, e, _, _, g, hm, hX _ _ h3⟩
  · obtain ⟨t, e, g⟩ := h1.putN 10 i v rfl rfl (fun _ => rfl) hi (by decide)
    exact ⟨t, e, _, _, g, hm, hX _ _ h3⟩
  · obtain ⟨t, e, g⟩ := h1.putN 11 i v rfl rfl (fun _ => rfl) hi (by decide)
    exact ⟨t, e, _, _, g, hm, hX _ _ h3⟩
  · obtain ⟨t, e, g⟩ := h1.putN 12 i v rfl rfl (fun _ => rfl) hi (by decide)
    exact ⟨t, e, _, _, g, hm, hX _ _ h3⟩
end
def rcT (s : Int32) : Int32 := if s = 35 then 0 else if s = 64 then 1 else if s = 43 then 2 else if s = 45 then 3 else if s = 42 then 4 else if s = 47 then 5 else if s = 61 then 6 else if s = 60 then 7 else if s = 62 then 8 else if s = 33 then 9 else if s = 38 then 10 else 11
/-- said of the clauses' rows alone -/
def ZI (Z : (Nat → Nat → Int32) → Prop) : Prop := ∀ Q Q', (∀ k, 9 ≤ k → k ≤ 12 → Q' k = Q k) → Z Q → Z Q'
def NX (n0 dp : Nat) (L : List Tk) (Z : (Nat → Nat → Int32) → Prop) (J : Nat → Int32) (Q : Nat → Nat → Int32) : Prop := J 14 = nI n0 ∧ J 5 = nI dp ∧ Q 8 n0 = nI L.length ∧ (∀ i t, L[i]? = some t → Q 6 (520 * n0 + i) = rcT t.1 ∧ Q 7 (520 * n0 + i) = t.2) ∧ Z Q
def NF (n0 B q : Nat) (J : Nat → Int32) (Q : Nat → Nat → Int32) : Prop := J 14 = nI n0 ∧ J 4 = nI q ∧ q < 1000 ∧ ∃ c, c ≤ B ∧ Q 8 n0 = nI c
theorem NX_ind (n0 dp : Nat) (L : List Tk) (Z : (Nat → Nat → Int32) → Prop) : IndM (NX n0 dp L Z) := by
  rintro J Q v ⟨h1, h2, h3⟩
  exact ⟨⟨by rw [pk_un (by decide)]; exact h1, by rw [pk_un (by decide)]; exact h2, h3⟩, ⟨by rw [pk_un (by decide)]; exact h1, by rw [pk_un (by decide)]; exact h2, h3⟩⟩
def PM (M : Mfg) (dr : Int64) (a : Abs) (n0 dp B : Nat) (L : List Tk) (Z : (Nat → Nat → Int32) → Prop) (r : PR) (σ : St) : Prop := match r with
  | .inl q => UG M dr a (NF n0 B q) σ
  | .inr y => UR M dr a (NX n0 dp (L ++ y.2) Z) y.1 none σ
def MPr (M : Mfg) (dr : Int64) (a : Abs) (n0 dp B : Nat) (f : St → Option (Unit × St)) (g : Nat → PR) : Prop := ∀ L Z p σ, ZI Z → UR M dr a (NX n0 dp L Z) p none σ → L.length ≤ p → Ok (f σ) (fun _ t => PM M dr a n0 dp B L Z (g p) t)
section
variable {M : Mfg} {dr : Int64} {a : Abs} {σ : St} {p n0 dp B : Nat} {f : Option Nat} {L : List Tk} {Z : (Nat → Nat → Int32) → Prop} {r : PR}
theorem UR.F {q : Nat} (h : UR M dr a (NX n0 dp L Z) p (some q) σ) (hl : L.length ≤ B) : UG M dr a (NF n0 B q) σ := UG.imp h (fun J Q g => ⟨g.1.1, g.2.2.1, g.2.2.2.2.1 q rfl, L.length, hl, g.1.2.2.1⟩)
theorem UG.up {q B' : Nat} (h : UG M dr a (NF n0 B q) σ) (hb : B ≤ B') : UG M dr a (NF n0 B' q) σ := h.imp (fun J Q g => ⟨g.1, g.2.1, g.2.2.1, g.2.2.2.elim (fun c k => ⟨c, by omega, k.2⟩)⟩)
theorem PM.up {B' : Nat} (h : PM M dr a n0 dp B L Z r σ) (hb : B ≤ B') : PM M dr a n0 dp B' L Z r σ := by
  cases r with
  | inl q => exact UG.up h hb
  | inr y => exact h
theorem UG.w4 {q : Nat} (h : UG M dr a (NF n0 B q) σ) : gI 10 4 σ (M.1 0) = some (nI q) ∧ ¬ nI q = -1 := by
  obtain ⟨J, Q, h1, _, h3⟩ := h
  refine ⟨(nr_4 h1).trans (congrArg some h3.2.1), fun e => ?_⟩
  cases (oI_m1 (f := some q) (fun q' e => by cases e; exact h3.2.2.1)).mp e
theorem PM.cs (h : PM M dr a n0 dp B L Z r σ) : (∃ q, r = .inl q ∧ UG M dr a (NF n0 B q) σ) ∨ ∃ y, r = .inr y ∧ UR M dr a (NX n0 dp (L ++ y.2) Z) y.1 none σ := by
  cases r with
  | inl q => exact Or.inl ⟨q, rfl, h⟩
  | inr y => exact Or.inr ⟨y, rfl, h⟩
theorem PM.O (h : PM M dr a n0 dp B L Z r σ) : isO 10 σ (M.1 0) = true := by
  rcases h.cs with ⟨q, e, g⟩ | ⟨y, e, g⟩
  · exact g.O
  · exact g.O
theorem PM.to {y : Nat × List Tk} {f : Nat → PR} (g : PM M dr a n0 dp B (L ++ y.2) Z (f y.1) σ) : PM M dr a n0 dp B L Z (bnP (.inr y) f) σ := by
  unfold bnP
  simp only []
  cases e : f y.1 with
  | inl q => rw [e] at g; exact g
  | inr z =>
    rw [e] at g
    simp only [PM, List.append_assoc] at g ⊢
    exact g
theorem putX {X : (Nat → Int32) → (Nat → Nat → Int32) → Prop} {Y : (Nat → Int32) → (Nat → Nat → Int32) → Prop} {c0 : Nat} (h : UG M dr a X σ) (hX : ∀ J Q, X J Q → J 14 = nI n0 ∧ Q 8 n0 = nI c0) (hc : c0 < 520) (hn : a.2.1.1 ≤ n0) (hn4 : n0 ≤ 4) (c v : Int32) (hY : ∀ J Q, X J Q → Y J (updR (updR (updR Q 6 (upd (Q 6) (520 * n0 + c0) c)) 7 (upd (Q 7) (520 * n0 + c0) v)) 8 (upd (Q 8) n0 (nI (c0 + 1))))) : Ok (fX10_put σ (M.1 0) c v) (fun _ t => UG M dr a Y t) := by
  have eo : (520 * nI n0) + nI c0 = nI (520 * n0 + c0) := by rw [show (520 : Int32) = nI 520 from rfl, pk_mul, nI_add]
  have rd : ∀ {τ : St} {W : (Nat → Int32) → (Nat → Nat → Int32) → Prop}, UG M dr a W τ → (∀ J Q, W J Q → J 14 = nI n0 ∧ Q 8 n0 = nI c0) → gR 10 6 τ (M.1 0) = some (M.1 6) ∧ gR 10 7 τ (M.1 0) = some (M.1 7) ∧ gR 10 8 τ (M.1 0) = some (M.1 8) ∧ gI 10 14 τ (M.1 0) = some (nI n0) ∧ aI 0 τ (M.1 8) (nI n0) = some (nI c0) := by
    intro τ W ⟨J, Q, h1, h2, h3⟩ hW
    exact ⟨nr_6 h1, nr_7 h1, nr_8 h1, (nr_14 h1).trans (congrArg some (hW J Q h3).1), (na_8 h1 (by omega)).trans (congrArg some (hW J Q h3).2)⟩
  unfold fX10_put
  obtain ⟨a1, a2, a3, a4, a5⟩ := rd h hX
  refine Ok.r a1 (Ok.r a4 (Ok.r a3 (Ok.r a4 (Ok.r a5 ?_))))
  rw [eo]
  refine Ok.w (h.rw (Y := fun J Q => ∃ Q0, X J Q0 ∧ Q = updR Q0 6 (upd (Q0 6) (520 * n0 + c0) c)) hn c (Or.inl ⟨Or.inl rfl, by omega, by omega⟩) (fun J Q g => ⟨Q, g, rfl⟩)) ?_
  intro t1 g1
  obtain ⟨b1, b2, b3, b4, b5⟩ := rd g1 (fun J Q ⟨Q0, k1, k2⟩ => ⟨(hX J Q0 k1).1, by rw [k2, updR_n _ _ (by decide)]; exact (hX J Q0 k1).2⟩)
  refine Ok.r b2 (Ok.r b4 (Ok.r b3 (Ok.r b4 (Ok.r b5 ?_))))
  rw [eo]
  refine Ok.w (g1.rw (Y := fun J Q => ∃ Q0, X J Q0 ∧ Q = updR (updR Q0 6 (upd (Q0 6) (520 * n0 + c0) c)) 7 (upd (Q0 7) (520 * n0 + c0) v)) hn v (Or.inl ⟨Or.inr rfl, by omega, by omega⟩) (fun J Q ⟨Q0, k1, k2⟩ => ⟨Q0, k1, by rw [k2, updR_n _ _ (show (7 : Nat) ≠ 6 by decide)]⟩)) ?_
  intro t2 g2
  obtain ⟨c1, c2, c3, c4, c5⟩ := rd g2 (fun J Q ⟨Q0, k1, k2⟩ => ⟨(hX J Q0 k1).1, by rw [k2, updR_n _ _ (by decide), updR_n _ _ (by decide)]; exact (hX J Q0 k1).2⟩)
  refine Ok.r c3 (Ok.r c4 (Ok.r c5 ?_))
  rw [nI_1]
  refine Ok.w (g2.rw (Y := Y) hn _ (Or.inr (Or.inl ⟨rfl, by omega⟩)) ?_) ?_
  · rintro J Q ⟨Q0, k1, k2⟩
    have := hY J Q0 k1
    rw [k2]
    rw [updR_n _ _ (show (8 : Nat) ≠ 7 by decide), updR_n _ _ (show (8 : Nat) ≠ 6 by decide)]
    exact this
  intro t3 g3
  exact Ok.p g3
theorem r_put (h : UR M dr a (NX n0 dp L Z) p f σ) (hZ : ZI Z) (hl : L.length < 520) (hn : a.2.1.1 ≤ n0) (hn4 : n0 ≤ 4) (t : Tk) : Ok (fX10_put σ (M.1 0) (rcT t.1) t.2) (fun _ u => UR M dr a (NX n0 dp (L ++ [t]) Z) p f u) := by
  refine putX (Y := UX a (NX n0 dp (L ++ [t]) Z) p f) (c0 := L.length) (X := UX a (NX n0 dp L Z) p f) h (fun J Q g => ⟨g.1.1, g.1.2.2.1⟩) hl hn hn4 _ _ ?_
  rintro J Q ⟨⟨g1, g2, g3, g4, g5⟩, g6⟩
  refine ⟨⟨g1, g2, ?_, fun i u e => ?_, hZ Q _ (fun k k1 k2 => ?_) g5⟩, g6⟩
  · rw [updR_s, pk_us]; simp
  · rw [updR_n _ _ (show (6 : Nat) ≠ 8 by decide), updR_n _ _ (show (6 : Nat) ≠ 7 by decide), updR_s, updR_n _ _ (show (7 : Nat) ≠ 8 by decide), updR_s]
    by_cases q : i = L.length
    · subst q
      rw [List.getElem?_append_right (Nat.le_refl _)] at e
      simp at e
      rw [pk_us, pk_us, e]
      exact ⟨rfl, rfl⟩
    · rw [pk_un (by omega), pk_un (by omega)]
      by_cases q2 : i < L.length
      · rw [List.getElem?_append_left q2] at e
        exact g4 i u e
      · rw [List.getElem?_append_right (by omega)] at e
        rw [show i - L.length = (i - L.length - 1) + 1 by omega] at e
        simp at e
  · rw [updR_n _ _ (by omega), updR_n _ _ (by omega), updR_n _ _ (by omega)]
theorem r_putF {q : Nat} (h : UG M dr a (NF n0 B q) σ) (hB : B < 520) (hn : a.2.1.1 ≤ n0) (hn4 : n0 ≤ 4) (c v : Int32) : Ok (fX10_put σ (M.1 0) c v) (fun _ u => UG M dr a (NF n0 (B + 1) q) u) := by
  obtain ⟨c0, hc0, h'⟩ : ∃ c0, c0 ≤ B ∧ UG M dr a (fun J Q => J 14 = nI n0 ∧ J 4 = nI q ∧ q < 1000 ∧ Q 8 n0 = nI c0) σ := by
    obtain ⟨J, Q, h1, h2, h3, h4, h5, c0, h6, h7⟩ := h
    exact ⟨c0, h6, J, Q, h1, h2, h3, h4, h5, h7⟩
  refine putX (c0 := c0) h' (fun J Q g => ⟨g.1, g.2.2.2⟩) (by omega) hn hn4 c v ?_
  rintro J Q ⟨g1, g2, g3, g4⟩
  exact ⟨g1, g2, g3, c0 + 1, by omega, by rw [updR_s, pk_us]⟩
theorem m_put (h : PM M dr a n0 dp B L Z r σ) (hZ : ZI Z) (hl : ∀ y, r = .inr y → (L ++ y.2).length < 520) (hB : B < 520) (hn : a.2.1.1 ≤ n0) (hn4 : n0 ≤ 4) (t : Tk) : Ok (fX10_put σ (M.1 0) (rcT t.1) t.2) (fun _ u => PM M dr a n0 dp (B + 1) L Z (tkP r t) u) := by
  rcases h.cs with ⟨q, rfl, g⟩ | ⟨y, rfl, g⟩
  · exact r_putF g hB hn hn4 _ _
  · refine (r_put g hZ (hl y rfl) hn hn4 t).imp (fun _ u g2 => ?_)
    show UR M dr a (NX n0 dp (L ++ (y.2 ++ [t])) Z) y.1 none u
    rw [← List.append_assoc]; exact g2
end
