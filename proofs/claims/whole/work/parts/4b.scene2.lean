/-! more of a scene: how often seen, highest, sharpest, flat, lost, mutual -/
def bestI (f : Nat → Int32) : Nat → Nat
  | 0 => 0
  | k + 1 => if f k ≤ f (bestI f k) then bestI f k else k
theorem bestI_lt (f : Nat → Int32) : ∀ k, 0 < k → bestI f k < k
  | 0, h => absurd h (by decide)
  | 1, _ => by
    unfold bestI
    split
    · exact Nat.zero_lt_one
    · exact Nat.zero_lt_one
  | k + 2, _ => by
    have ih := bestI_lt f (k + 1) (by omega)
    rw [bestI]
    split
    · omega
    · omega
def adjB (w c o : Nat) : Bool := decide (fab (c % w) (o % w) + fab (c / w) (o / w) = 1)
def bsN (w n c : Nat) : Nat → Option Nat
  | 0 => if c < w then none else some (c - w)
  | 1 => if c % w ≤ 0 then none else some (c - 1)
  | 2 => if w - 1 ≤ c % w then none else some (c + 1)
  | _ => if n ≤ c + w then none else some (c + w)
def adjT (w h c o : Nat) : Bool := decide (w < 2) || decide (h < 2) || decide (w * h ≤ c) || decide (w * h ≤ o) || ((adjB w c o) == (decide (bsN w (w * h) c 0 = some o) || decide (bsN w (w * h) c 1 = some o) || decide (bsN w (w * h) c 2 = some o) || decide (bsN w (w * h) c 3 = some o)))
theorem adj_d : ∀ w, w < 7 → ∀ h, h < 6 → ∀ c, c < 30 → ∀ o, o < 30 → adjT w h c o = true := by decide +kernel
def bsT (w h c k : Nat) : Bool := decide (w < 2) || decide (h < 2) || decide (w * h ≤ c) || (match bsN w (w * h) c k with
  | none => true
  | some o => decide (o < w * h))
theorem bs_d : ∀ w, w < 7 → ∀ h, h < 6 → ∀ c, c < 30 → ∀ k, k < 4 → bsT w h c k = true := by decide +kernel
theorem adj_iff {s : Scn} (ok : ScOK s) {c o : Nat} (hc : c < qC s) (ho : o < qC s) : adjB (qW s) c o = true ↔ ∃ k, k < 4 ∧ bsN (qW s) (qC s) c k = some o := by
  have h1 := ok.w
  have h2 := ok.r
  have h3 := ok.c30
  have e := ok.cw
  have q := adj_d (qW s) (by omega) (qH s) (by omega) c (by omega) o (by omega)
  simp only [adjT, Bool.or_eq_true, decide_eq_true_eq, beq_iff_eq] at q
  rw [← e] at q
  rcases q with (((q | q) | q) | q) | q
  · omega
  · omega
  · omega
  · omega
  · rw [q]
    simp only [Bool.or_eq_true, decide_eq_true_eq]
    constructor
    · rintro (((h | h) | h) | h)
      · exact ⟨0, by omega, h⟩
      · exact ⟨1, by omega, h⟩
      · exact ⟨2, by omega, h⟩
      · exact ⟨3, by omega, h⟩
    · rintro ⟨k, hk, h⟩
      match k, hk with
      | 0, _ => exact Or.inl (Or.inl (Or.inl h))
      | 1, _ => exact Or.inl (Or.inl (Or.inr h))
      | 2, _ => exact Or.inl (Or.inr h)
      | 3, _ => exact Or.inr h
      | k + 4, h => omega
theorem bs_lt {s : Scn} (ok : ScOK s) {c k o : Nat} (hc : c < qC s) (hk : k < 4) (h : bsN (qW s) (qC s) c k = some o) : o < qC s := by
  have h1 := ok.w
  have h2 := ok.r
  have h3 := ok.c30
  have e := ok.cw
  have q := bs_d (qW s) (by omega) (qH s) (by omega) c (by omega) k hk
  simp only [bsT, Bool.or_eq_true, decide_eq_true_eq] at q
  rw [← e, h] at q
  simp only [decide_eq_true_eq] at q
  omega
def oI : Option Nat → Int32
  | none => -1
  | some o => nI o
def likeB (s : Scn) (c : Nat) : Bool := anyB (fun o => adjB (qW s) c o && decide (qG s c = qG s o)) (qC s)
def prB (s : Scn) (L : Option LawF) (i j : Nat) : Bool := sees s L i (qP s j) && sees s L j (qP s i)
section
variable {K : Cfg} {I : Nat → Int32} {R : Nat → Nat → Int32} {dr : Int64} {b : Nat} {s : Scn} {σ : St} {q : Option Nat} {L : Option LawF}
theorem msk_0 {n : Nat} (hn : n ≤ 32) {p : Nat → Bool} (hp : ∀ i, p i = false) : 0 = msk p n := msk_ext hn (fun i _ => by rw [b_0, hp, Bool.and_false])
theorem v_seenBy (h : SV K I R dr b s σ) {v : Nat} (h1 : 1 ≤ v) (h4' : v ≤ 4) (hq : Rul K q L) : Ok (fX7_seenBy σ (K.1 b) (nI v) q) (fun r u => r = msk (fun c => decide (v ≤ fa_cnt (fun t => sees s L t c) (qT s))) (qC s) ∧ SV K I R dr b s u) := by
  have h30 := h.2.2.2.c30
  have h4 := h.2.2.2.t
  unfold fX7_seenBy
  refine Ok.f6 (qT s) 0 (fun k x1 x2 x3 x4 y t => x1 = msk (fun c => decide (1 ≤ fa_cnt (fun t => sees s L t c) k)) (qC s) ∧ x2 = msk (fun c => decide (2 ≤ fa_cnt (fun t => sees s L t c) k)) (qC s) ∧ x3 = msk (fun c => decide (3 ≤ fa_cnt (fun t => sees s L t c) k)) (qC s) ∧ x4 = msk (fun c => decide (4 ≤ fa_cnt (fun t => sees s L t c) k)) (qC s) ∧ y = nI k ∧ SV K I R dr b s t) (by omega) (by omega) ⟨msk_0 (by omega) (fun _ => rfl), msk_0 (by omega) (fun _ => rfl), msk_0 (by omega) (fun _ => rfl), msk_0 (by omega) (fun _ => rfl), rfl, h⟩ ?_ ?_
  · rintro j k x1 x2 x3 x4 y t hk ⟨rfl, rfl, rfl, rfl, rfl, g1⟩ hj
    refine Ok.r (v_towers g1) (Ok.bF (nI_ge hk (by omega)) (Ok.v (v_O g1) (v_sight g1 hk hq) ?_))
    rintro r2 t2 ⟨rfl, g2⟩
    refine Ok.n (Ok.n (Ok.n (Ok.n ?_)))
    rw [nI_1]
    have stp : ∀ m, 1 ≤ m → ∀ c, decide (m + 1 ≤ fa_cnt (fun t => sees s L t c) (k + 1)) = (decide (m + 1 ≤ fa_cnt (fun t => sees s L t c) k) || (decide (m ≤ fa_cnt (fun t => sees s L t c) k) && sees s L k c)) := by
      intro m hm c
      cases hs : sees s L k c
      · rw [fa_cnt_no (p := fun t => sees s L t c) hs, Bool.and_false, Bool.or_false]
      · rw [fa_cnt_yes (p := fun t => sees s L t c) hs, Bool.and_true, ← Bool.decide_or]
        exact decide_eq_decide.mpr (by omega)
    refine hj _ _ _ _ _ _ ⟨?_, ?_, ?_, ?_, rfl, g2⟩
    · rw [msk_or _ _ (by omega)]
      refine msk_cong (fun c _ => ?_)
      cases hs : sees s L k c
      · rw [fa_cnt_no (p := fun t => sees s L t c) hs, Bool.or_false]
      · rw [fa_cnt_yes (p := fun t => sees s L t c) hs, Bool.or_true]
        exact (decide_eq_true (by omega)).symm
    · rw [msk_and _ _ (by omega), msk_or _ _ (by omega)]
      exact msk_cong (fun c _ => (stp 1 (by omega) c).symm)
    · rw [msk_and _ _ (by omega), msk_or _ _ (by omega)]
      exact msk_cong (fun c _ => (stp 2 (by omega) c).symm)
    · rw [msk_and _ _ (by omega), msk_or _ _ (by omega)]
      exact msk_cong (fun c _ => (stp 3 (by omega) c).symm)
  · rintro j x1 x2 x3 x4 y t ⟨rfl, rfl, rfl, rfl, rfl, g1⟩
    refine Ok.r (v_towers g1) (Ok.bT (nI_le (Nat.le_refl _) (by omega)) ?_)
    refine Ok.bI (nI_eq (b := 1) (by omega) (by omega)) (fun e => ?_) (fun e => Ok.bI (nI_eq (b := 2) (by omega) (by omega)) (fun e => ?_) (fun e => Ok.bI (nI_eq (b := 3) (by omega) (by omega)) (fun e => ?_) (fun e => ?_)))
    · subst e; exact Ok.p ⟨rfl, g1⟩
    · subst e; exact Ok.p ⟨rfl, g1⟩
    · subst e; exact Ok.p ⟨rfl, g1⟩
    · have e : v = 4 := by omega
      subst e; exact Ok.p ⟨rfl, g1⟩
theorem v_highest (h : SV K I R dr b s σ) (sg : Int32) : fX7_highest σ (K.1 b) sg = some (nI (bestI (fun i => sg * nI (qG s i)) (qC s)), σ) := by
  have h30 := h.2.2.2.c30
  refine Ok.toE ?_
  unfold fX7_highest
  refine Ok.f2 (qC s) 1 (fun k x y => x = nI (bestI (fun i => sg * nI (qG s i)) k) ∧ y = nI k ∧ 1 ≤ k) (by omega) (by omega) ⟨by simp [bestI]; rfl, rfl, by omega⟩ ?_ ?_
  · rintro j k x y hk ⟨rfl, rfl, h1⟩ hj
    have hb := bestI_lt (fun i => sg * nI (qG s i)) k (by omega)
    refine Ok.r (v_cells h) (Ok.bF (nI_ge hk (by omega)) (Ok.r (v_ground h) (Ok.r (v_G h hk) (Ok.r (v_ground h) (Ok.r (v_G h (by omega)) (Ok.j1 ?_))))))
    rw [nI_1]
    refine Ok.b (fun e => ?_) (fun e => ?_)
    · exact hj _ _ ⟨by simp only [bestI, if_pos e], rfl, by omega⟩
    · exact hj _ _ ⟨by simp only [bestI, if_neg e], rfl, by omega⟩
  · rintro j x y ⟨rfl, rfl, _⟩
    exact Ok.r (v_cells h) (Ok.bT (nI_le (Nat.le_refl _) (by omega)) (Ok.p ⟨rfl, rfl⟩))
theorem v_sharpest (h : SV K I R dr b s σ) (sg : Int32) (hq : Rul K q L) : Ok (fX7_sharpest σ (K.1 b) sg q) (fun r u => r = nI (bestI (fun t => sg * bitC (msk (sees s L t) (qC s))) (qT s)) ∧ SV K I R dr b s u) := by
  have h30 := h.2.2.2.c30
  have h4 := h.2.2.2.t
  unfold fX7_sharpest
  refine Ok.f4 (qT s) 0 (fun k x1 x2 y t => ((k = 0 ∧ x1 = -1) ∨ (1 ≤ k ∧ x1 = nI (bestI (fun t => sg * bitC (msk (sees s L t) (qC s))) k) ∧ x2 = sg * bitC (msk (sees s L (bestI (fun t => sg * bitC (msk (sees s L t) (qC s))) k)) (qC s)))) ∧ y = nI k ∧ SV K I R dr b s t) (by omega) (by omega) ⟨Or.inl ⟨rfl, rfl⟩, rfl, h⟩ ?_ ?_
  · rintro j k x1 x2 y t hk ⟨hx, rfl, g1⟩ hj
    refine Ok.r (v_towers g1) (Ok.bF (nI_ge hk (by omega)) (Ok.v (v_O g1) (v_sight g1 hk hq) ?_))
    rintro r2 t2 ⟨rfl, g2⟩
    refine Ok.cE (f_bitC _ _) (Ok.n (Ok.j2 (Ok.j1 ?_)))
    rw [nI_1]
    rcases hx with ⟨rfl, rfl⟩ | ⟨h1, rfl, rfl⟩
    · refine Ok.bT rfl (hj _ _ _ _ ⟨Or.inr ⟨by omega, by simp [bestI], by simp [bestI]⟩, rfl, g2⟩)
    · have hb := bestI_lt (fun t => sg * bitC (msk (sees s L t) (qC s))) k (by omega)
      refine Ok.bF (fun e => ?_) ?_
      · have := nI_pos (n := bestI (fun t => sg * bitC (msk (sees s L t) (qC s))) k) (by omega)
        rw [e] at this
        exact this (by decide)
      refine Ok.b (fun e => ?_) (fun e => ?_)
      · exact hj _ _ _ _ ⟨Or.inr ⟨by omega, by simp only [bestI, if_pos e], by simp only [bestI, if_pos e]⟩, rfl, g2⟩
      · exact hj _ _ _ _ ⟨Or.inr ⟨by omega, by simp only [bestI, if_neg e], by simp only [bestI, if_neg e]⟩, rfl, g2⟩
  · rintro j x1 x2 y t ⟨hx, rfl, g1⟩
    rcases hx with ⟨h0, _⟩ | ⟨_, rfl, _⟩
    · omega
    · exact Ok.r (v_towers g1) (Ok.bT (nI_le (Nat.le_refl _) (by omega)) (Ok.p ⟨rfl, g1⟩))
theorem v_lost (h : SV K I R dr b s σ) : fX7_lost σ (K.1 b) = some (msk (fun c => decide (qG s c < qF s)) (qC s), σ) := by
  have h30 := h.2.2.2.c30
  have hF := h.2.2.2.f
  refine Ok.toE ?_
  unfold fX7_lost
  refine Ok.f2 (qC s) 0 (fun k x y => x = msk (fun c => decide (qG s c < qF s)) k ∧ y = nI k) (by omega) (by omega) ⟨rfl, rfl⟩ ?_ ?_
  · rintro j k x y hk ⟨rfl, rfl⟩ hj
    have hg := h.2.2.2.g hk
    refine Ok.r (v_cells h) (Ok.bF (nI_ge hk (by omega)) (Ok.r (v_ground h) (Ok.r (v_G h hk) (Ok.r (v_fog h) (Ok.j1 ?_)))))
    rw [nI_1]
    refine Ok.bI (nI_leI (by omega) (by omega)) (fun e => ?_) (fun e => ?_)
    · exact hj _ _ ⟨by simp only [msk]; rw [if_neg (by simp; omega)], rfl⟩
    · exact hj _ _ ⟨by simp only [msk]; rw [if_pos (by simp; omega)]; rfl, rfl⟩
  · rintro j x y ⟨rfl, rfl⟩
    exact Ok.r (v_cells h) (Ok.bT (nI_le (Nat.le_refl _) (by omega)) (Ok.p ⟨rfl, rfl⟩))
theorem v_beside (h : SV K I R dr b s σ) {c k : Nat} (hc : c < qC s) (hk : k < 4) : fX7_beside σ (K.1 b) (nI c) (nI k) = some (oI (bsN (qW s) (qC s) c k), σ) := by
  have h30 := h.2.2.2.c30
  have hw := h.2.2.2.w
  have hm := Nat.mod_lt c (show 0 < qW s by omega)
  refine Ok.toE ?_
  unfold fX7_beside
  refine Ok.r (v_wide h) (Ok.bT (show (1 : Int32) ≤ nI (qW s) from nI_le (a := 1) (by omega) (by omega)) (Ok.r (v_wide h) (Ok.bF (nI_ne0 (by omega) (by omega)) (Ok.nE (pk_rem (by omega) (by omega) (by omega)) ?_))))
  match k, hk with
  | 0, _ =>
    refine Ok.e (tbs_at 0 (by decide) rfl) (Ok.r (v_wide h) (Ok.bI (nI_ltI (by omega) (by omega)) (fun e => ?_) (fun e => ?_)))
    · exact Ok.p ⟨by simp [bsN, e, oI], rfl⟩
    · refine Ok.r (v_wide h) (Ok.p ⟨?_, rfl⟩)
      rw [pk_sub (by omega)]
      simp [bsN, e, oI]
  | 1, _ =>
    refine Ok.e (tbs_at 1 (by decide) rfl) (Ok.bI (nI_leI (b := 0) (by omega) (by omega)) (fun e => ?_) (fun e => ?_))
    · exact Ok.p ⟨by simp only [bsN, if_pos e, oI], rfl⟩
    · refine Ok.p ⟨?_, rfl⟩
      have : 1 ≤ c := by
        rcases Nat.eq_zero_or_pos c with z | z
        · subst z; simp at e
        · exact z
      rw [show (1 : Int32) = nI 1 from rfl, pk_sub this]
      simp only [bsN, if_neg e, oI]
  | 2, _ =>
    refine Ok.e (tbs_at 2 (by decide) rfl) (Ok.r (v_wide h) ?_)
    rw [show nI (qW s) - 1 = nI (qW s - 1) from pk_sub (b := 1) (by omega)]
    refine Ok.bI (nI_leI (by omega) (by omega)) (fun e => ?_) (fun e => ?_)
    · exact Ok.p ⟨by simp only [bsN, if_pos e, oI], rfl⟩
    · refine Ok.p ⟨?_, rfl⟩
      rw [nI_1]
      simp only [bsN, if_neg e, oI]
  | 3, _ =>
    refine Ok.e (tbs_out (Or.inr (show (0 : Int) + 3 ≤ (nI 3).toInt from by decide))) (Ok.r (v_wide h) (Ok.r (v_cells h) ?_))
    rw [nI_add]
    refine Ok.bI (nI_leI (by omega) (by omega)) (fun e => ?_) (fun e => ?_)
    · exact Ok.p ⟨by simp only [bsN, if_pos e, oI], rfl⟩
    · refine Ok.r (v_wide h) (Ok.p ⟨?_, rfl⟩)
      rw [nI_add]
      simp only [bsN, if_neg e, oI]
  | k + 4, h => omega
theorem v_hasO (h : SV K I R dr b s σ) {c k : Nat} (hc : c < qC s) (hk : k < 4) : fX7_hasCell σ (K.1 b) (oI (bsN (qW s) (qC s) c k)) = some (bI (bsN (qW s) (qC s) c k).isSome, σ) := by
  have h30 := h.2.2.2.c30
  cases e : bsN (qW s) (qC s) c k with
  | none =>
    unfold fX7_hasCell oI
    rw [if_pos (by decide)]; rfl
  | some o =>
    have ho := bs_lt h.2.2.2 hc hk e
    show fX7_hasCell σ (K.1 b) (nI o) = _
    rw [v_hasCell h (by omega), decide_eq_true ho]; rfl
theorem v_like (h : SV K I R dr b s σ) {c : Nat} (hc : c < qC s) : fX7_hasLikeBeside σ (K.1 b) (nI c) = some (bI (likeB s c), σ) := by
  have h30 := h.2.2.2.c30
  have ok := h.2.2.2
  have like_iff : likeB s c = true ↔ ∃ k, k < 4 ∧ ∃ o, bsN (qW s) (qC s) c k = some o ∧ qG s o = qG s c := by
    unfold likeB
    rw [anyB_iff]
    constructor
    · rintro ⟨o, ho, e⟩
      simp only [Bool.and_eq_true, decide_eq_true_eq] at e
      obtain ⟨k, hk, e2⟩ := (adj_iff ok hc ho).mp e.1
      exact ⟨k, hk, o, e2, e.2.symm⟩
    · rintro ⟨k, hk, o, e, e2⟩
      have ho := bs_lt ok hc hk e
      refine ⟨o, ho, ?_⟩
      simp only [Bool.and_eq_true, decide_eq_true_eq]
      exact ⟨(adj_iff ok hc ho).mpr ⟨k, hk, e⟩, e2.symm⟩
  refine Ok.toE ?_
  unfold fX7_hasLikeBeside
  refine Ok.f2 4 0 (fun k x t => x = nI k ∧ t = σ ∧ ∀ k', k' < k → ∀ o, bsN (qW s) (qC s) c k' = some o → qG s o ≠ qG s c) (by omega) (by omega) ⟨rfl, rfl, fun k' h => by omega⟩ ?_ ?_
  · rintro j k x t hk ⟨rfl, rfl, hn⟩ hj
    refine Ok.bF (show ¬ (nI 4 ≤ nI k) from nI_ge hk (by omega)) (Ok.vE (v_O h) (v_beside h hc hk) (Ok.vE (v_O h) (v_hasO h hc hk) (Ok.j1 ?_)))
    rw [nI_1]
    cases e : bsN (qW s) (qC s) c k with
    | none =>
      refine Ok.bT rfl (hj _ _ ⟨rfl, rfl, fun k' hk' o ho => ?_⟩)
      by_cases z : k' = k
      · subst z; rw [e] at ho; exact absurd ho (by simp)
      · exact hn k' (by omega) o ho
    | some o =>
      have ho := bs_lt ok hc hk e
      have g1 := ok.g ho
      have g2 := ok.g hc
      refine Ok.bF (show ¬ (1 : Int32) = 0 from by decide) (Ok.r (v_ground h) (Ok.r (v_G h ho) (Ok.r (v_ground h) (Ok.r (v_G h hc) (Ok.bI (nI_eq (by omega) (by omega)) (fun z => ?_) (fun z => ?_))))))
      · refine Ok.p ⟨?_, rfl⟩
        rw [like_iff.mpr ⟨k, hk, o, e, z⟩]; rfl
      · refine hj _ _ ⟨rfl, rfl, fun k' hk' o' ho' => ?_⟩
        by_cases z' : k' = k
        · subst z'; rw [e] at ho'; cases ho'; exact z
        · exact hn k' (by omega) o' ho'
  · rintro j x t ⟨rfl, rfl, hn⟩
    refine Ok.bT (by decide) (Ok.p ⟨?_, rfl⟩)
    have : likeB s c = false := by
      cases e : likeB s c
      · rfl
      · obtain ⟨k, hk, o, e1, e2⟩ := like_iff.mp e
        exact absurd e2 (hn k hk o e1)
    rw [this]; rfl
theorem v_flat (h : SV K I R dr b s σ) : fX7_flat σ (K.1 b) = some (nI (fa_cnt (likeB s) (qC s)), σ) := by
  have h30 := h.2.2.2.c30
  refine Ok.toE ?_
  unfold fX7_flat
  refine Ok.f3 (qC s) 0 (fun k x y t => x = nI (fa_cnt (likeB s) k) ∧ y = nI k ∧ t = σ) (by omega) (by omega) ⟨rfl, rfl, rfl⟩ ?_ ?_
  · rintro j k x y t hk ⟨rfl, rfl, rfl⟩ hj
    refine Ok.r (v_cells h) (Ok.bF (nI_ge hk (by omega)) (Ok.vE (v_O h) (v_like h hk) (Ok.j1 ?_)))
    rw [nI_1]
    refine Ok.bI bI_0 (fun e => ?_) (fun e => ?_)
    · exact hj _ _ _ ⟨by rw [fa_cnt_no e], rfl, rfl⟩
    · exact hj _ _ _ ⟨by rw [fa_cnt_yes (by simpa using e), nI_1], rfl, rfl⟩
  · rintro j x y t ⟨rfl, rfl, rfl⟩
    exact Ok.r (v_cells h) (Ok.bT (nI_le (Nat.le_refl _) (by omega)) (Ok.p ⟨rfl, rfl⟩))
def mutC (p : Nat → Nat → Bool) (n : Nat) : Nat := fb_sm (fun i => fa_cnt (fun d => p i (i + 1 + d)) (n - (i + 1))) n
theorem v_mutual (h : SV K I R dr b s σ) (hq : Rul K q L) : Ok (fX7_mutual σ (K.1 b) q) (fun r u => r = nI (mutC (prB s L) (qT s)) ∧ SV K I R dr b s u) := by
  have h30 := h.2.2.2.c30
  have h4 := h.2.2.2.t
  have ok := h.2.2.2
  unfold fX7_mutual
  refine Ok.f3 (qT s) 0 (fun k x y t => x = nI (fb_sm (fun i => fa_cnt (fun d => prB s L i (i + 1 + d)) (qT s - (i + 1))) k) ∧ y = nI k ∧ SV K I R dr b s t) (by omega) (by omega) ⟨rfl, rfl, h⟩ ?_ ?_
  · rintro j k x y t hk ⟨rfl, rfl, g1⟩ hj
    refine Ok.r (v_towers g1) (Ok.bF (nI_ge hk (by omega)) (Ok.nE (nI_1 k) ?_))
    refine Ok.f3 (qT s - (k + 1)) 0 (fun d x y t => x = nI (fb_sm (fun i => fa_cnt (fun d => prB s L i (i + 1 + d)) (qT s - (i + 1))) k + fa_cnt (fun d => prB s L k (k + 1 + d)) d) ∧ y = nI (k + 1 + d) ∧ SV K I R dr b s t) (by omega) (by omega) ⟨rfl, rfl, g1⟩ ?_ ?_
    · rintro j2 d x y t hd ⟨rfl, rfl, g2⟩ hj2
      have hlt : k + 1 + d < qT s := by omega
      refine Ok.r (v_towers g2) (Ok.bF (nI_ge hlt (by omega)) (Ok.r (v_places g2) (Ok.r (v_P g2 hlt) (Ok.v (v_O g2) (v_beholds g2 hk (ok.p hlt) hq) ?_))))
      rintro r3 t3 ⟨rfl, g3⟩
      refine Ok.j2 ?_
      rw [nI_1]
      refine Ok.bI bI_0 (fun e => ?_) (fun e => ?_)
      · exact hj2 _ _ _ ⟨by rw [fa_cnt_no (by simp [prB, e])], rfl, g3⟩
      · refine Ok.r (v_places g3) (Ok.r (v_P g3 hk) (Ok.v (v_O g3) (v_beholds g3 hlt (ok.p hk) hq) ?_))
        rintro r4 t4 ⟨rfl, g4⟩
        refine Ok.bI bI_0 (fun e2 => ?_) (fun e2 => ?_)
        · exact hj2 _ _ _ ⟨by rw [fa_cnt_no (by simp [prB, e2])], rfl, g4⟩
        · refine hj2 _ _ _ ⟨?_, rfl, g4⟩
          rw [fa_cnt_yes (p := fun d => prB s L k (k + 1 + d)) (n := d) (show prB s L k (k + 1 + d) = true by unfold prB; simp at e e2; rw [e, e2]; rfl), nI_1, Nat.add_assoc]
    · rintro j2 x y t ⟨rfl, rfl, g2⟩
      rw [nI_1]
      refine Ok.r (v_towers g2) (Ok.bT (nI_le (by omega) (by omega)) (hj _ _ _ ⟨by rw [fb_sm_succ], rfl, g2⟩))
  · rintro j x y t ⟨rfl, rfl, g1⟩
    exact Ok.r (v_towers g1) (Ok.bT (nI_le (Nat.le_refl _) (by omega)) (Ok.p ⟨rfl, g1⟩))
end
