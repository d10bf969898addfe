/-! what a law is worth: the class's evaluator as a plain function -/
theorem aI_n {σ : St} {a t z : Nat} {f : Nat → Int32} (h : σ.2.2 a = some (.inl (t, z, .inl f))) {i : Nat} (hi : i < z) (hz : z < 2 ^ 31) : aI t σ a (nI i) = some (f i) := by
  rw [aI_of h (inb_nI hi hz), nI_clamp (by omega)]
theorem sI_n {σ : St} {a t z : Nat} {f : Nat → Int32} (h : σ.2.2 a = some (.inl (t, z, .inl f))) {i : Nat} (hi : i < z) (hz : z < 2 ^ 31) (x : Int32) : sI t σ a (nI i) x = some (σ.1, σ.2.1, up σ.2.2 a (.inl (t, z, .inl (upd f i x)))) := by
  rw [sI_of h (inb_nI hi hz), nI_clamp (by omega)]
def hlC (v : Int64) : Int32 := if lg_cmp v 1000000 ≤ 0 then (if 0 ≤ lg_cmp v (-1000000) then v.toInt32 else -1000000) else 1000000
theorem f_held (σ : St) (v : Int64) : fX3_held σ v = some (hlC v, σ) := by
  unfold fX3_held hlC
  split
  · split <;> rfl
  · rfl
def jnC (sg l r : Int32) : Int32 := if sg = 38 then l &&& r else if sg = 42 then hlC (l.toInt64 * r.toInt64) else if sg = 43 then hlC (l.toInt64 + r.toInt64) else if sg = 45 then hlC (l.toInt64 - r.toInt64) else if sg = 47 then (if r = 0 then 0 else l / r) else if sg = 60 then (if r ≤ l then 0 else 1) else if sg = 61 then (if l = r then 1 else 0) else if sg = 62 then (if l ≤ r then 0 else 1) else l ||| r
theorem f_join (σ : St) (sg l r : Int32) : fX3_join σ sg l r = some (jnC sg l r, σ) := by
  by_cases hx : sg.toInt < 38 ∨ 38 + 25 ≤ sg.toInt
  · unfold fX3_join
    rw [tbs_out hx]
    have hne : ∀ v : Int32, 38 ≤ v.toInt → v.toInt < 63 → ¬ sg = v := fun v h1 h2 e => by rw [e] at hx; omega
    unfold jnC
    rw [if_neg (hne 38 (by decide) (by decide)), if_neg (hne 42 (by decide) (by decide)), if_neg (hne 43 (by decide) (by decide)), if_neg (hne 45 (by decide) (by decide)), if_neg (hne 47 (by decide) (by decide)), if_neg (hne 60 (by decide) (by decide)), if_neg (hne 61 (by decide) (by decide)), if_neg (hne 62 (by decide) (by decide))]
  · obtain ⟨j, hj, e⟩ : ∃ j : Nat, j < 25 ∧ sg.toInt = 38 + j := ⟨(sg.toInt - 38).toNat, by omega, by omega⟩
    have e' : sg = nI (38 + j) := by
      apply Int32.toInt_inj.mp
      rw [nI_toInt (by omega), e]; omega
    rw [e']
    have key : ∀ E, ([some (l &&& r, σ), some (l ||| r, σ), some (l ||| r, σ), some (l ||| r, σ), some (hlC (l.toInt64 * r.toInt64), σ), some (hlC (l.toInt64 + r.toInt64), σ), some (l ||| r, σ), some (hlC (l.toInt64 - r.toInt64), σ), some (l ||| r, σ), some ((if r = 0 then 0 else l / r), σ), some (l ||| r, σ), some (l ||| r, σ), some (l ||| r, σ), some (l ||| r, σ), some (l ||| r, σ), some (l ||| r, σ), some (l ||| r, σ), some (l ||| r, σ), some (l ||| r, σ), some (l ||| r, σ), some (l ||| r, σ), some (l ||| r, σ), some ((if r ≤ l then 0 else 1), σ), some ((if l = r then 1 else 0), σ), some ((if l ≤ r then 0 else 1), σ)] : List (Option (Int32 × St)))[j]? = some E → fX3_join σ (nI (38 + j)) l r = E := by
      intro E hE
      unfold fX3_join
      refine tbs_at j (by rw [nI_toInt (by omega)]; omega) ?_
      simp only [f_held, bd_some]
      rw [← hE]
      congr 1
      have i1 : (if r = 0 then some ((0 : Int32), σ) else if r = 0 then none else some (l / r, σ)) = some ((if r = 0 then 0 else l / r), σ) := by
        split <;> rfl
      have i2 : (if r ≤ l then some ((0 : Int32), σ) else some (1, σ)) = some ((if r ≤ l then 0 else 1), σ) := by
        split <;> rfl
      have i3 : (if l = r then some ((1 : Int32), σ) else some (0, σ)) = some ((if l = r then 1 else 0), σ) := by
        split <;> rfl
      have i4 : (if l ≤ r then some ((0 : Int32), σ) else some (1, σ)) = some ((if l ≤ r then 0 else 1), σ) := by
        split <;> rfl
      rw [i1, i2, i3, i4]
    apply key
    clear key e e' hx sg
    match j, hj with
    | 0, _ => rfl
    | 1, _ => rfl
    | 2, _ => rfl
    | 3, _ => rfl
    | 4, _ => rfl
    | 5, _ => rfl
    | 6, _ => rfl
    | 7, _ => rfl
    | 8, _ => rfl
    | 9, _ => rfl
    | 10, _ => rfl
    | 11, _ => rfl
    | 12, _ => rfl
    | 13, _ => rfl
    | 14, _ => rfl
    | 15, _ => rfl
    | 16, _ => rfl
    | 17, _ => rfl
    | 18, _ => rfl
    | 19, _ => rfl
    | 20, _ => rfl
    | 21, _ => rfl
    | 22, _ => rfl
    | 23, _ => rfl
    | 24, _ => rfl
    | j + 25, h => omega
def evS (sg v : Int32) (g : Nat → Int32) (st : List Int32) : List Int32 :=
  if sg = 35 then (if 40 ≤ st.length then st else if v < 0 then st else v :: st)
  else if sg = 64 then (if 40 ≤ st.length then st else if v < 0 then st else if 6 ≤ v then st else g v.toNatClampNeg :: st)
  else if sg = 33 then (match st with
    | [] => []
    | x :: q => (1 - x) :: q)
  else (match st with
    | [] => []
    | [x] => [x]
    | y :: x :: q => jnC sg x y :: q)
def sk0 : List Int32 → Bool
  | [] => false
  | x :: _ => decide (x = 0)
def evL (c g : Nat → Int32) : Nat → Nat → Bool → List Int32 → Int32
  | 0, _, _, _ => 0
  | d + 1, k, true, st => evL c g d (k + 1) (decide (¬ (c k &&& 255 = 59))) st
  | d + 1, k, false, st => if c k &&& 255 = 59 then st.headD 0 else if c k &&& 255 = 63 then evL c g d (k + 1) (sk0 st) [] else evL c g d (k + 1) false (evS (c k &&& 255) (c k >>> (8 &&& 31)) g st)
def evC (n : Nat) (c g : Nat → Int32) : Int32 := evL c g n 0 false []
def stR (f : Nat → Int32) : List Int32 → Prop
  | [] => True
  | x :: q => f q.length = x ∧ stR f q
theorem stR_upd {f : Nat → Int32} {i : Nat} {v : Int32} : ∀ {st : List Int32}, stR f st → st.length ≤ i → stR (upd f i v) st
  | [], _, _ => trivial
  | x :: q, h, hi => by
    simp only [List.length_cons] at hi
    exact ⟨(pk_un (by omega)).trans h.1, stR_upd h.2 (by omega)⟩
theorem evS_len (sg v : Int32) (g : Nat → Int32) (st : List Int32) (h : st.length ≤ 40) : (evS sg v g st).length ≤ 40 := by
  unfold evS
  split
  · split
    · exact h
    · split
      · exact h
      · simp only [List.length_cons]; omega
  · split
    · split
      · exact h
      · split
        · exact h
        · split
          · exact h
          · simp only [List.length_cons]; omega
    · split
      · split
        · exact h
        · exact h
      · split
        · exact h
        · exact h
        · simp only [List.length_cons] at h ⊢; omega
set_option maxHeartbeats 1000000 in
theorem w_worth {σ : St} {a ca sa pa n : Nat} {c st0 g : Nat → Int32} (h1 : σ.2.2 a = some (.inr (3, [.ref ca, .ref sa]))) (h2 : σ.2.2 ca = some (.inl (0, n, .inl c))) (h3 : σ.2.2 sa = some (.inl (0, 40, .inl st0))) (h4 : σ.2.2 pa = some (.inl (0, 6, .inl g))) (d1 : a ≠ sa) (d2 : ca ≠ sa) (d3 : pa ≠ sa) (hn : n < 19999) : Ok (fX3_worth σ a pa) (fun r t => r = evC n c g ∧ Sm (fun x => x = sa) σ t ∧ ∃ f, t.2.2 sa = some (.inl (0, 40, .inl f))) := by
  unfold fX3_worth
  refine Ok.m4 (fun d x1 x2 x3 t => ∃ k sk st f, k + d = n ∧ x1 = bI sk ∧ x2 = nI (List.length st) ∧ x3 = nI k ∧ st.length ≤ 40 ∧ stR f st ∧ evL c g d k sk st = evC n c g ∧ Sm (fun x => x = sa) σ t ∧ t.2.2 sa = some (.inl (0, 40, .inl f))) ?_ FU n 0 0 0 σ (by unfold FU; omega) ⟨0, false, [], st0, by omega, rfl, rfl, rfl, by simp, trivial, rfl, Sm.rf, h3⟩
  rintro j d x1 x2 x3 t ⟨k, sk, st, f, hk, rfl, rfl, rfl, hl, hR, hv, hs, hf⟩ hj
  have c1 : t.2.2 a = some (.inr (3, [.ref ca, .ref sa])) := (hs.2 a d1).trans h1
  have c2 : t.2.2 ca = some (.inl (0, n, .inl c)) := (hs.2 ca d2).trans h2
  have c4 : t.2.2 pa = some (.inl (0, 6, .inl g)) := (hs.2 pa d3).trans h4
  have r0 : gR 3 0 t a = some ca := gR_of c1 rfl
  have r1 : gR 3 1 t a = some sa := gR_of c1 rfl
  refine Ok.r r0 (Ok.r (v := nI n) (aN_of c2 (by decide)) (Ok.bI (nI_leI (by omega) (by omega)) (fun q => ?_) (fun q => ?_)))
  · have : d = 0 := by omega
    subst this
    exact Ok.p ⟨hv, hs, f, hf⟩
  have hsm : ∀ i v, Sm (fun x => x = sa) σ (t.1, t.2.1, up t.2.2 sa (.inl (0, 40, .inl (upd f i v)))) := fun i v => ⟨hs.1, fun x hx => (up_n _ _ hx).trans (hs.2 x hx)⟩
  obtain ⟨d, rfl⟩ : ∃ e, d = e + 1 := ⟨d - 1, by omega⟩
  refine Ok.r r0 (Ok.r (aI_n c2 (by omega) (by omega)) (Ok.n (Ok.r r0 (Ok.r (aI_n c2 (by omega) (by omega)) (Ok.n (Ok.j3 ?_))))))
  cases sk with
  | true =>
    refine Ok.bF (by decide) (Ok.j1 ?_)
    have e1 : evL c g (d + 1) k true st = evL c g d (k + 1) (decide (¬ (c k &&& 255 = 59))) st := rfl
    rw [e1] at hv
    refine Ok.b (fun q59 => ?_) (fun q59 => ?_)
    · rw [decide_eq_false (fun z => z q59)] at hv
      exact hj d _ _ _ _ (by omega) ⟨k + 1, false, st, f, by omega, rfl, rfl, nI_1 k, hl, hR, hv, hs, hf⟩
    · rw [decide_eq_true q59] at hv
      exact hj d _ _ _ _ (by omega) ⟨k + 1, true, st, f, by omega, rfl, rfl, nI_1 k, hl, hR, hv, hs, hf⟩
  | false =>
    refine Ok.bT (by decide) ?_
    have e1 : evL c g (d + 1) k false st = if c k &&& 255 = 59 then st.headD 0 else if c k &&& 255 = 63 then evL c g d (k + 1) (sk0 st) [] else evL c g d (k + 1) false (evS (c k &&& 255) (c k >>> (8 &&& 31)) g st) := rfl
    rw [e1] at hv
    refine Ok.b (fun q59 => ?_) (fun q59 => ?_)
    · rw [if_pos q59] at hv
      cases st with
      | nil => exact Ok.bT (by decide) (Ok.p ⟨hv, hs, f, hf⟩)
      | cons x q =>
        simp only [List.length_cons] at hl
        refine Ok.bF (nI_nle (by simp) (by simp only [List.length_cons]; omega)) (Ok.r r1 (Ok.r (v := x) ?_ (Ok.p ⟨hv, hs, f, hf⟩)))
        rw [List.length_cons, nI_pred, aI_n hf (by omega) (by omega), hR.1]
    · rw [if_neg q59] at hv
      refine Ok.b (fun q63 => ?_) (fun q63 => ?_)
      · rw [if_pos q63] at hv
        refine Ok.j1 (Ok.j1 ?_)
        cases st with
        | nil => exact Ok.bT (by decide) (hj d _ _ _ _ (by omega) ⟨k + 1, false, [], f, by omega, rfl, rfl, nI_1 k, by simp, trivial, hv, hs, hf⟩)
        | cons x q =>
          simp only [List.length_cons] at hl
          refine Ok.bF (nI_nle (by simp) (by simp only [List.length_cons]; omega)) (Ok.r r1 (Ok.r (v := x) ?_ ?_))
          · rw [List.length_cons, nI_pred, aI_n hf (by omega) (by omega), hR.1]
          · refine Ok.b (fun q0 => ?_) (fun q0 => ?_)
            · simp only [sk0, decide_eq_true q0] at hv
              exact hj d _ _ _ _ (by omega) ⟨k + 1, true, [], f, by omega, rfl, rfl, nI_1 k, by simp, trivial, hv, hs, hf⟩
            · simp only [sk0, decide_eq_false q0] at hv
              exact hj d _ _ _ _ (by omega) ⟨k + 1, false, [], f, by omega, rfl, rfl, nI_1 k, by simp, trivial, hv, hs, hf⟩
      · rw [if_neg q63] at hv
        have go : ∀ (st' : List Int32) (f' : Nat → Int32) (t' : St), evS (c k &&& 255) (c k >>> (8 &&& 31)) g st = st' → stR f' st' → Sm (fun x => x = sa) σ t' → t'.2.2 sa = some (.inl (0, 40, .inl f')) → Ok (j 0 (nI st'.length) (nI k + 1) t') (fun r t => r = evC n c g ∧ Sm (fun x => x = sa) σ t ∧ ∃ f, t.2.2 sa = some (.inl (0, 40, .inl f))) := by
          intro st' f' t' e2 hR' hs' hf'
          have hl' := evS_len (c k &&& 255) (c k >>> (8 &&& 31)) g st hl
          rw [e2] at hv hl'
          exact hj d _ _ _ _ (by omega) ⟨k + 1, false, st', f', by omega, rfl, rfl, nI_1 k, hl', hR', hv, hs', hf'⟩
        have ge40 : ((40 : Int32) ≤ nI st.length) ↔ 40 ≤ st.length := nI_leI (a := 40) (by omega) (by omega)
        have push : ∀ v, evS (c k &&& 255) (c k >>> (8 &&& 31)) g st = v :: st → st.length < 40 → Ok ((sI 0 t sa (nI st.length) v).bind (fun t25 => j (bI false) (nI st.length + 1) (nI k + 1) t25)) (fun r t => r = evC n c g ∧ Sm (fun x => x = sa) σ t ∧ ∃ f, t.2.2 sa = some (.inl (0, 40, .inl f))) := by
          intro v e2 h40
          rw [sI_n hf h40 (by omega), Option.bind_some, nI_1]
          exact go (v :: st) (upd f st.length v) _ e2 ⟨pk_us, stR_upd hR (Nat.le_refl _)⟩ (hsm _ _) (up_s _ _ _)
        refine Ok.j1 (Ok.b (fun q35 => ?_) (fun q35 => Ok.b (fun q64 => ?_) (fun q64 => Ok.b (fun q33 => ?_) (fun q33 => ?_))))
        · refine Ok.bI ge40 (fun p => ?_) (fun p => Ok.b (fun p2 => ?_) (fun p2 => ?_))
          · exact go st f t (by simp only [evS, if_pos q35, if_pos p]) hR hs hf
          · exact go st f t (by simp only [evS, if_pos q35, if_neg p, if_pos p2]) hR hs hf
          · exact Ok.j1 (Ok.bT q35 (Ok.r r1 (Ok.j3 (Ok.bT q35 (push _ (by simp only [evS, if_pos q35, if_neg p, if_neg p2]) (by omega))))))
        · refine Ok.bI ge40 (fun p => ?_) (fun p => Ok.b (fun p2 => ?_) (fun p2 => ?_))
          · exact go st f t (by simp only [evS, if_neg q35, if_pos q64, if_pos p]) hR hs hf
          · exact go st f t (by simp only [evS, if_neg q35, if_pos q64, if_neg p, if_pos p2]) hR hs hf
          · refine Ok.j1 (Ok.bF q35 (Ok.r (v := (6 : Int32)) (aN_of c4 (by decide)) (Ok.b (fun p3 => ?_) (fun p3 => ?_))))
            · exact go st f t (by simp only [evS, if_neg q35, if_pos q64, if_neg p, if_neg p2, if_pos p3]) hR hs hf
            · refine Ok.r r1 (Ok.j3 (Ok.bF q35 (Ok.r (aI_of c4 (inb_of p2 (Int32.not_le.mp p3) (by decide))) (push _ ?_ (by omega)))))
              simp only [evS, if_neg q35, if_pos q64, if_neg p, if_neg p2, if_neg p3]
        · cases st with
          | nil => exact Ok.bT (by decide) (go [] f t (by simp only [evS, if_neg q35, if_neg q64, if_pos q33]) hR hs hf)
          | cons x q =>
            have hl2 := hl
            simp only [List.length_cons] at hl2
            refine Ok.bF (nI_nle (by simp) (by omega)) (Ok.r r1 (Ok.r r1 (Ok.r (v := x) ?_ ?_)))
            · rw [List.length_cons, nI_pred, aI_n hf (by omega) (by omega), hR.1]
            · rw [show nI (List.length (x :: q)) - 1 = nI q.length from by rw [List.length_cons, nI_pred], sI_n hf (by omega) (by omega), Option.bind_some]
              exact go ((1 - x) :: q) (upd f q.length (1 - x)) _ (by simp only [evS, if_neg q35, if_neg q64, if_pos q33]) ⟨pk_us, stR_upd hR.2 (Nat.le_refl _)⟩ (hsm _ _) (up_s _ _ _)
        · cases st with
          | nil => exact Ok.bT (by decide) (go [] f t (by simp only [evS, if_neg q35, if_neg q64, if_neg q33]) hR hs hf)
          | cons y q0 =>
            cases q0 with
            | nil => exact Ok.bT (show nI 1 ≤ 1 from by decide) (go [y] f t (by simp only [evS, if_neg q35, if_neg q64, if_neg q33]) hR hs hf)
            | cons x q =>
              have hl2 := hl
              simp only [List.length_cons] at hl2
              have e2 : nI (List.length (y :: x :: q)) - 2 = nI q.length := by
                rw [show (2 : Int32) = nI 2 from rfl, pk_sub (by simp only [List.length_cons]; omega)]; rfl
              have e3 : nI (List.length (y :: x :: q)) - 1 = nI (q.length + 1) := by
                rw [List.length_cons, nI_pred]; rfl
              have n1 : ¬ (nI (List.length (y :: x :: q)) ≤ 1) := by
                rw [show (1 : Int32) = nI 1 from rfl, nI_leI (by omega) (by omega)]; simp only [List.length_cons]; omega
              refine Ok.bF n1 (Ok.r r1 (Ok.r r1 (Ok.r (v := x) ?_ (Ok.r r1 (Ok.r (v := y) ?_ (Ok.cE (f_join t _ x y) ?_))))))
              · rw [e2, aI_n hf (by omega) (by omega), hR.2.1]
              · rw [e3, aI_n hf (by omega) (by omega)]
                exact congrArg some hR.1
              · rw [e2, sI_n hf (by omega) (by omega), Option.bind_some, show nI (List.length (y :: x :: q)) + (-1) = nI (List.length (jnC (c k &&& 255) x y :: q)) from pk_m1 _]
                exact go (jnC (c k &&& 255) x y :: q) (upd f q.length (jnC (c k &&& 255) x y)) _ (by simp only [evS, if_neg q35, if_neg q64, if_neg q33]) ⟨pk_us, stR_upd hR.2.2 (Nat.le_refl _)⟩ (hsm _ _) (up_s _ _ _)
