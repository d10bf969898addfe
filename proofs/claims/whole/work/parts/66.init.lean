/-! Both objects as they are made -/
/-- n cells, all new: where they lie, what they hold -/
def hp (Z : Rm) (n : Nat) (E : Nat → Nat × aE) (σ : St) : Prop := σ.1 = Z ∧ (∀ i, i < n → Z.2 (E i).1 = none ∧ σ.2.2 (E i).1 = some (E i).2) ∧ (∀ i j, i < n → j < n → (E i).1 = (E j).1 → i = j) ∧ ∀ z e, σ.2.2 z = some e → ∃ i, i < n ∧ (E i).1 = z
def uE (E : Nat → Nat × aE) (i : Nat) (x : Nat × aE) : Nat → Nat × aE := fun k => cond (Nat.beq k i) x (E k)
theorem uE_s {E : Nat → Nat × aE} {i : Nat} {x : Nat × aE} : uE E i x i = x := by unfold uE; rw [show Nat.beq i i = true from Nat.beq_refl i]; rfl
theorem uE_n {E : Nat → Nat × aE} {i k : Nat} {x : Nat × aE} (h : k ≠ i) : uE E i x k = E k := by
  unfold uE
  cases e : Nat.beq k i with
  | true => exact absurd (Nat.eq_of_beq_eq_true e) h
  | false => rfl
theorem hp_0 {Z : Rm} {q : Nat} {e : aE} {E : Nat → Nat × aE} (h : nf (Z, [], fun _ => none) q) : hp Z 1 (uE E 0 (q, e)) (nw (Z, [], fun _ => none) q e) := by
  refine ⟨rfl, fun i hi => ?_, fun i j hi hj _ => by omega, fun z e' he => ?_⟩
  · have : i = 0 := by omega
    subst this
    rw [uE_s]
    exact ⟨h.2.2, nw_s⟩
  · by_cases q' : z = q
    · exact ⟨0, by omega, by rw [uE_s]; exact q'.symm⟩
    · rw [nw_n q'] at he; cases he
theorem HP.nw' {Z : Rm} {n : Nat} {E : Nat → Nat × aE} {σ : St} (h : hp Z n E σ) {e : aE} {P : Nat → Prop} (k : ∀ q, hp Z (n + 1) (uE E n (q, e)) (nw σ q e) → P q) : ∀ q, nf σ q → P q := by
  intro q hq
  refine k q ⟨h.1, fun i hi => ?_, fun i j hi hj e' => ?_, fun z e' he => ?_⟩
  · by_cases w : i = n
    · subst w
      rw [uE_s]
      refine ⟨?_, nw_s⟩
      have := hq.2.2
      rw [h.1] at this
      exact this
    · rw [uE_n w]
      obtain ⟨h1, h2⟩ := h.2.1 i (by omega)
      refine ⟨h1, ?_⟩
      rw [nw_n (fun z => ?_)]
      · exact h2
      · rw [z, hq.2.1] at h2; cases h2
  · have old : ∀ i, i < n → (E i).1 ≠ q := fun i hi z => by
      have := (h.2.1 i hi).2
      rw [z, hq.2.1] at this; cases this
    by_cases w : i = n
    · by_cases w2 : j = n
      · omega
      · rw [w, uE_s, uE_n w2] at e'
        exact absurd e'.symm (old j (by omega))
    · by_cases w2 : j = n
      · rw [w2, uE_s, uE_n w] at e'
        exact absurd e' (old i (by omega))
      · rw [uE_n w, uE_n w2] at e'
        exact h.2.2.1 i j (by omega) (by omega) e'
  · by_cases w : z = q
    · exact ⟨n, by omega, by rw [uE_s]; exact w.symm⟩
    · rw [nw_n w] at he
      obtain ⟨i, hi, ei⟩ := h.2.2.2 z e' he
      exact ⟨i, by omega, by rw [uE_n (by omega)]; exact ei⟩
theorem HP.pv {Z : Rm} {n : Nat} {E : Nat → Nat × aE} {σ : St} (h : hp Z n E σ) (i ci kf : Nat) (v : Value) {a : Nat} {fs fs' : List Value} (hi : E i = (a, .inr (ci, fs))) (hn : Nat.ble (i + 1) n = true ∧ Nat.ble (kf + 1) fs.length = true) (hf : fs.set kf v = fs') {P : St → Prop} (k : ∀ t, hp Z n (uE E i (a, .inr (ci, fs'))) t → P t) : ∃ t, pV ci kf σ a v = some t ∧ P t := by
  subst hf
  have hin : i < n := Nat.le_of_ble_eq_true hn.1
  have hk : kf < fs.length := Nat.le_of_ble_eq_true hn.2
  obtain ⟨h1, h2⟩ := h.2.1 i hin
  rw [hi] at h1 h2
  refine ⟨_, pV_of h2 hk v, k _ ⟨h.1, fun j hj => ?_, fun j l hj hl e' => ?_, fun z e' he => ?_⟩⟩
  · by_cases w : j = i
    · subst w
      rw [uE_s]
      exact ⟨h1, up_s _ _ _⟩
    · rw [uE_n w]
      obtain ⟨k1, k2⟩ := h.2.1 j hj
      refine ⟨k1, (up_n _ _ (fun z => w (h.2.2.1 j i hj hin (by rw [hi]; exact z)))).trans k2⟩
  · have f1 : ∀ j, (uE E i (a, Sum.inr (ci, fs.set kf v)) j).1 = (E j).1 := fun j => by
      by_cases w : j = i
      · subst w; rw [uE_s, hi]
      · rw [uE_n w]
    rw [f1, f1] at e'
    exact h.2.2.1 j l hj hl e'
  · by_cases w : z = a
    · exact ⟨i, hin, by rw [uE_s]; exact w.symm⟩
    · obtain ⟨j, hj, ej⟩ := h.2.2.2 z e' ((up_n _ _ w).symm.trans he)
      refine ⟨j, hj, ?_⟩
      rw [uE_n (fun q => w (by rw [← ej, q, hi]))]
      exact ej
theorem HP.gr {Z : Rm} {n : Nat} {E : Nat → Nat × aE} {σ : St} (h : hp Z n E σ) (i ci kf q : Nat) {a : Nat} {fs : List Value} (hi : E i = (a, .inr (ci, fs))) (hn : Nat.ble (i + 1) n = true ∧ fs[kf]? = some (.ref q)) {P : Nat → Prop} (k : P q) : ∃ t, gR ci kf σ a = some t ∧ P t := by
  obtain ⟨h1, h2⟩ := h.2.1 i (Nat.le_of_ble_eq_true hn.1)
  rw [hi] at h2
  exact ⟨q, gR_of h2 hn.2, k⟩

/-- the state of both at the start -/
def I0 (k : Nat) : Int32 := if k = 5 then -1 else if k = 6 then 3 else if k = 22 then -1 else if k = 220 then 1 else if k = 340 then 1 else if k = 460 then 1 else 0
def J0 (k : Nat) : Int32 := if k = 30 then -1 else if k = 31 then 3 else 0
def s00 : Scn := ((fun f => if f = 0 then 1 else 0), (fun _ => 0), (fun _ => 0), (fun _ => 0), fun _ => 0)
def a00 : Abs := ((0, fun _ => 0), (0, (fun _ _ => 0), none), (3, fun _ => 0), ((s00, []), s00, [], none, (0, (fun _ => 0), (fun _ => 0), fun _ => false), (0, (fun _ => 0), fun _ => 0)))
def posM (k : Nat) : Nat := 45 + ([0, 1, 6, 7, 8, 9, 10, 11, 12, 15, 16, 17, 18, 19, 20, 23, 24, 25, 28, 29, 32, 35, 36, 37, 38, 39, 41, 42, 44] : List Nat).idxOf k
theorem fin_0 {Z : Rm} {E : Nat → Nat × aE} {σ : St} (hz : zOK Z) (h : hp Z 75 E σ) (hC : ∀ k, k < 45 → (E k).2 = cellC (fun k => (E k).1) I0 (fun _ _ => 0) 0 (fun _ => none) k) (hM : ∀ k, domM k = true → (E (posM k)).2 = cellM (fun k => (E (posM k)).1) J0 (fun _ _ => 0) 0 k) (hO : (E 74).2 = .inl (3, 1, .inr (.inl (fun _ => 0)))) : RelX (E 0).1 (E 45).1 (E 74).1 σ := by
  obtain ⟨h1, h2, h3, h4⟩ := h
  have pm : ∀ k, domM k = true → 45 ≤ posM k ∧ posM k < 74 := by
    intro k hk
    have hm : k ∈ ([0, 1, 6, 7, 8, 9, 10, 11, 12, 15, 16, 17, 18, 19, 20, 23, 24, 25, 28, 29, 32, 35, 36, 37, 38, 39, 41, 42, 44] : List Nat) := by unfold domM at hk; simpa using hk
    have := List.idxOf_lt_length_of_mem hm
    have hl : ([0, 1, 6, 7, 8, 9, 10, 11, 12, 15, 16, 17, 18, 19, 20, 23, 24, 25, 28, 29, 32, 35, 36, 37, 38, 39, 41, 42, 44] : List Nat).length = 29 := rfl
    unfold posM
    omega
  have pj : ∀ i j, domM i = true → domM j = true → posM i = posM j → i = j := by
    intro i j hi hj e
    have hm : i ∈ ([0, 1, 6, 7, 8, 9, 10, 11, 12, 15, 16, 17, 18, 19, 20, 23, 24, 25, 28, 29, 32, 35, 36, 37, 38, 39, 41, 42, 44] : List Nat) := by unfold domM at hi; simpa using hi
    have hm2 : j ∈ ([0, 1, 6, 7, 8, 9, 10, 11, 12, 15, 16, 17, 18, 19, 20, 23, 24, 25, 28, 29, 32, 35, 36, 37, 38, 39, 41, 42, 44] : List Nat) := by unfold domM at hj; simpa using hj
    unfold posM at e
    have e' := Nat.add_left_cancel e
    have g1 := List.getElem_idxOf (List.idxOf_lt_length_of_mem hm)
    have g2 := List.getElem_idxOf (List.idxOf_lt_length_of_mem hm2)
    rw [← g1, ← g2]
    congr 1
  have lw0 : lwOf (fun _ => 0) 0 = fun _ => none := funext (fun i => if_neg (Nat.not_lt_zero i))
  have cc : CV ((fun k => (E k).1), (fun _ => 0), 0, (fun _ => 0), (fun _ _ => 0), σ) I0 (fun _ _ => 0) 0 σ := by
    refine ⟨fun _ _ => 0, fun _ _ => rfl, ⟨fun i j hi hj e => ?_, fun k hk => ?_⟩, ⟨fun i j hi => absurd hi (Nat.not_lt_zero _), fun i hi => absurd hi (Nat.not_lt_zero _), fun i hi => absurd hi (Nat.not_lt_zero _)⟩, Sm.rf⟩
    · have hi' : i < 45 := of_decide_eq_true hi
      have hj' : j < 45 := of_decide_eq_true hj
      exact h3 i j (by omega) (by omega) e
    · have hk' : k < 45 := of_decide_eq_true hk
      rw [show lwOf (((fun k => (E k).1), (fun _ => 0), 0, (fun _ => 0), (fun _ _ => 0), σ) : Cfg).2.1 (((fun k => (E k).1), (fun _ => 0), 0, (fun _ => 0), (fun _ _ => 0), σ) : Cfg).2.2.1 = fun _ => none from lw0]
      exact (h2 k (by omega)).2.trans (congrArg some (hC k hk'))
  have mm : MV ((fun k => (E (posM k)).1), σ) J0 (fun _ _ => 0) 0 σ := by
    refine ⟨fun _ _ => 0, fun _ _ => rfl, ⟨fun i j hi hj e => ?_, fun k hk => ?_⟩, Sm.rf⟩
    · exact pj i j hi hj (h3 _ _ (by have := pm i hi; omega) (by have := pm j hj; omega) e)
    · exact (h2 _ (by have := pm k hk; omega)).2.trans (congrArg some (hM k hk))
  have kset : ∀ z, setK ((fun k => (E k).1), (fun _ => 0), 0, (fun _ => 0), (fun _ _ => 0), σ) z → ∃ k, k < 45 ∧ z = (E k).1 := by
    rintro z (⟨k, hk, e⟩ | ⟨i, hi, _⟩)
    · exact ⟨k, of_decide_eq_true hk, e⟩
    · exact absurd hi (Nat.not_lt_zero _)
  have mset : ∀ z, setM (fun k => (E (posM k)).1) z → ∃ k, 45 ≤ k ∧ k < 74 ∧ z = (E k).1 := by
    rintro z ⟨k, hk, e⟩
    exact ⟨posM k, (pm k hk).1, (pm k hk).2, e⟩
  refine ⟨((fun k => (E k).1), (fun _ => 0), 0, (fun _ => 0), (fun _ _ => 0), σ), ((fun k => (E (posM k)).1), σ), 0, a00, fun _ => 0, ⟨rfl, rfl⟩, ⟨I0, _, cc, ?_⟩, ⟨J0, _, mm, ?_⟩, ⟨fun i hi => absurd hi (Nat.not_lt_zero i), Or.inl ⟨rfl, rfl, rfl, rfl, rfl, rfl, rfl, rfl, rfl⟩⟩, ⟨by show (0 : Nat) ≤ 9999; omega, fun e he => (by cases he), fun e he => by cases he⟩, fun z hz hm => ?_, fun j hj => ?_, ?_, fun q => ?_, fun q => ?_⟩
  · have sc : ∀ b, b = 11 ∨ b = 17 → ScR I0 (fun _ _ => 0) b s00 := by
      intro b hb
      refine ⟨fun f hf => ?_, fun i hi => absurd hi (Nat.not_lt_zero i), fun t ht => absurd ht (Nat.not_lt_zero t)⟩
      rcases hb with rfl | rfl
      · match f, hf with
        | 0, _ => rfl
        | 1, _ => rfl
        | 2, _ => rfl
        | 3, _ => rfl
        | 4, _ => rfl
        | 5, _ => rfl
        | 6, _ => rfl
        | 7, _ => rfl
        | 8, _ => rfl
        | f + 9, h => omega
      · match f, hf with
        | 0, _ => rfl
        | 1, _ => rfl
        | 2, _ => rfl
        | 3, _ => rfl
        | 4, _ => rfl
        | 5, _ => rfl
        | 6, _ => rfl
        | 7, _ => rfl
        | 8, _ => rfl
        | f + 9, h => omega
    exact ⟨⟨rfl, by decide, fun i hi => absurd hi (Nat.not_lt_zero i)⟩, ⟨rfl, by decide, rfl, rfl, fun i e => (by cases e), fun i hi => absurd hi (Nat.not_lt_zero i)⟩, ⟨rfl, by decide, fun _ _ => rfl⟩, ⟨sc 11 (Or.inl rfl), fun i e q => by have q' : ([] : List Ent)[i]? = some e := q; simp at q'⟩, sc 17 (Or.inr rfl), ⟨0, by decide, rfl, rfl, by decide, fun j e q => by have q' : ([] : List Snp)[j]? = some e := q; simp at q'⟩, Or.inl ⟨rfl, rfl⟩, ⟨rfl, by decide, fun k hk => absurd hk (Nat.not_lt_zero k)⟩, ⟨rfl, by decide, fun k hk => absurd hk (Nat.not_lt_zero k)⟩⟩
  · exact ⟨⟨rfl, by decide, fun i hi => absurd hi (Nat.not_lt_zero i)⟩, ⟨rfl, by decide, rfl, fun i e => (by cases e), fun i hi => absurd hi (Nat.not_lt_zero i)⟩, ⟨rfl, by decide, fun _ _ => rfl⟩, ⟨⟨rfl, rfl, fun q => absurd q (Nat.not_lt_zero _), fun t ht => absurd ht (Nat.not_lt_zero t)⟩, ⟨fun i hi => absurd hi (Nat.not_lt_zero i), fun t ht => absurd ht (Nat.not_lt_zero t), rfl, rfl, rfl, rfl, rfl, fun i x q => by have q' : ([] : List Ent)[i]? = some x := q; simp at q'⟩⟩, ⟨fun i hi => absurd hi (Nat.not_lt_zero i), rfl, fun t ht => absurd ht (Nat.not_lt_zero t)⟩, ⟨rfl, by decide, fun j e q => by have q' : ([] : List Snp)[j]? = some e := q; simp at q'⟩, Or.inl ⟨rfl, rfl⟩, ⟨rfl, by decide, fun k hk => absurd hk (Nat.not_lt_zero k)⟩, ⟨rfl, by decide, fun k hk => absurd hk (Nat.not_lt_zero k)⟩⟩
  · obtain ⟨k, hk, rfl⟩ := kset z hz
    obtain ⟨l, l1, l2, e⟩ := mset _ hm
    have := h3 k l (by omega) (by omega) e
    omega
  · have hzj := hz j hj
    rw [h1]
    have no : ∀ i, i < 75 → (E i).1 ≠ Z.1 j := fun i hi e => by
      have := (h2 i hi).1
      rw [e, hzj] at this; cases this
    have sn : σ.2.2 (Z.1 j) = none := by
      cases e : σ.2.2 (Z.1 j) with
      | none => rfl
      | some x =>
        obtain ⟨i, hi, ei⟩ := h4 _ x e
        exact absurd ei (no i hi)
    refine ⟨?_, fun q => ?_, fun q => ?_⟩
    · unfold rd
      rw [sn, h1]
      exact hzj
    · obtain ⟨k, hk, e⟩ := kset _ q
      exact no k (by omega) e.symm
    · obtain ⟨l, l1, l2, e⟩ := mset _ q
      exact no l (by omega) e.symm
  · exact (h2 74 (by omega)).2.trans (congrArg some hO)
  · obtain ⟨k, hk, e⟩ := kset _ q
    have := h3 74 k (by omega) (by omega) e
    omega
  · obtain ⟨l, l1, l2, e⟩ := mset _ q
    have := h3 74 l (by omega) (by omega) e
    omega
set_option maxHeartbeats 4000000 in
set_option maxRecDepth 100000 in
theorem init_ok : initOK RelX := by
  intro Z hZ q0 hq0
  have h0 : hp Z 1 (uE (fun _ => (0, .inr (0, []))) 0 (q0, (.inr (9, [.null, .null, .null, .null, .int 0, .int 0, .int 0, .null, .null, .null, .null, .null, .null, .null, .null, .long 0])))) (nw (Z, [], fun _ => none) q0 (.inr (9, [.null, .null, .null, .null, .int 0, .int 0, .int 0, .null, .null, .null, .null, .null, .null, .null, .null, .long 0]))) := hp_0 hq0
  try unfold wX9_init
  refine HP.nw' h0 (e := (.inr (8, [.null, .int 0, .int 0, .int 0]))) (fun q1 h1 => ?_)
  try unfold wX8_init
  refine HP.nw' h1 (e := (.inl (0, 240, .inl (fun _ => 0)))) (fun q2 h2 => ?_)
  refine HP.pv h2 1 8 0 (.ref q2) (fs := [.null, .int 0, .int 0, .int 0]) (fs' := [(.ref q2), .int 0, .int 0, .int 0]) rfl ⟨rfl, rfl⟩ rfl (fun t3 h3 => ?_)
  refine HP.pv h3 1 8 1 (.int 0) (fs := [(.ref q2), .int 0, .int 0, .int 0]) (fs' := [(.ref q2), (.int 0), .int 0, .int 0]) rfl ⟨rfl, rfl⟩ rfl (fun t4 h4 => ?_)
  refine HP.pv h4 1 8 2 (.int ((-1))) (fs := [(.ref q2), (.int 0), .int 0, .int 0]) (fs' := [(.ref q2), (.int 0), (.int ((-1))), .int 0]) rfl ⟨rfl, rfl⟩ rfl (fun t5 h5 => ?_)
  refine HP.pv h5 1 8 3 (.int 0) (fs := [(.ref q2), (.int 0), (.int ((-1))), .int 0]) (fs' := [(.ref q2), (.int 0), (.int ((-1))), (.int 0)]) rfl ⟨rfl, rfl⟩ rfl (fun t6 h6 => ?_)
  refine HP.pv h6 0 9 0 (.ref q1) (fs := [.null, .null, .null, .null, .int 0, .int 0, .int 0, .null, .null, .null, .null, .null, .null, .null, .null, .long 0]) (fs' := [(.ref q1), .null, .null, .null, .int 0, .int 0, .int 0, .null, .null, .null, .null, .null, .null, .null, .null, .long 0]) rfl ⟨rfl, rfl⟩ rfl (fun t7 h7 => ?_)
  refine HP.nw' h7 (e := (.inr (2, [.null, .null, .null, .null, .int 0, .int 0, .int 0, .int 0]))) (fun q3 h8 => ?_)
  refine HP.gr h8 0 9 0 q1 rfl ⟨rfl, rfl⟩ ?_
  try unfold wX2_init
  refine HP.nw' h8 (e := (.inl (0, 4, .inl (fun _ => 0)))) (fun q4 h9 => ?_)
  refine HP.pv h9 3 2 1 (.ref q4) (fs := [.null, .null, .null, .null, .int 0, .int 0, .int 0, .int 0]) (fs' := [.null, (.ref q4), .null, .null, .int 0, .int 0, .int 0, .int 0]) rfl ⟨rfl, rfl⟩ rfl (fun t10 h10 => ?_)
  refine HP.nw' h10 (e := (.inl (0, 16, .inl (fun _ => 0)))) (fun q5 h11 => ?_)
  refine HP.pv h11 3 2 2 (.ref q5) (fs := [.null, (.ref q4), .null, .null, .int 0, .int 0, .int 0, .int 0]) (fs' := [.null, (.ref q4), (.ref q5), .null, .int 0, .int 0, .int 0, .int 0]) rfl ⟨rfl, rfl⟩ rfl (fun t12 h12 => ?_)
  refine HP.nw' h12 (e := (.inl (0, 30, .inl (fun _ => 0)))) (fun q6 h13 => ?_)
  refine HP.pv h13 3 2 3 (.ref q6) (fs := [.null, (.ref q4), (.ref q5), .null, .int 0, .int 0, .int 0, .int 0]) (fs' := [.null, (.ref q4), (.ref q5), (.ref q6), .int 0, .int 0, .int 0, .int 0]) rfl ⟨rfl, rfl⟩ rfl (fun t14 h14 => ?_)
  refine HP.pv h14 3 2 4 (.int 0) (fs := [.null, (.ref q4), (.ref q5), (.ref q6), .int 0, .int 0, .int 0, .int 0]) (fs' := [.null, (.ref q4), (.ref q5), (.ref q6), (.int 0), .int 0, .int 0, .int 0]) rfl ⟨rfl, rfl⟩ rfl (fun t15 h15 => ?_)
  refine HP.pv h15 3 2 5 (.int 0) (fs := [.null, (.ref q4), (.ref q5), (.ref q6), (.int 0), .int 0, .int 0, .int 0]) (fs' := [.null, (.ref q4), (.ref q5), (.ref q6), (.int 0), (.int 0), .int 0, .int 0]) rfl ⟨rfl, rfl⟩ rfl (fun t16 h16 => ?_)
  refine HP.pv h16 3 2 6 (.int 0) (fs := [.null, (.ref q4), (.ref q5), (.ref q6), (.int 0), (.int 0), .int 0, .int 0]) (fs' := [.null, (.ref q4), (.ref q5), (.ref q6), (.int 0), (.int 0), (.int 0), .int 0]) rfl ⟨rfl, rfl⟩ rfl (fun t17 h17 => ?_)
  refine HP.pv h17 3 2 7 (.int 0) (fs := [.null, (.ref q4), (.ref q5), (.ref q6), (.int 0), (.int 0), (.int 0), .int 0]) (fs' := [.null, (.ref q4), (.ref q5), (.ref q6), (.int 0), (.int 0), (.int 0), (.int 0)]) rfl ⟨rfl, rfl⟩ rfl (fun t18 h18 => ?_)
  refine HP.pv h18 3 2 0 (.ref q1) (fs := [.null, (.ref q4), (.ref q5), (.ref q6), (.int 0), (.int 0), (.int 0), (.int 0)]) (fs' := [(.ref q1), (.ref q4), (.ref q5), (.ref q6), (.int 0), (.int 0), (.int 0), (.int 0)]) rfl ⟨rfl, rfl⟩ rfl (fun t19 h19 => ?_)
  refine HP.pv h19 0 9 1 (.ref q3) (fs := [(.ref q1), .null, .null, .null, .int 0, .int 0, .int 0, .null, .null, .null, .null, .null, .null, .null, .null, .long 0]) (fs' := [(.ref q1), (.ref q3), .null, .null, .int 0, .int 0, .int 0, .null, .null, .null, .null, .null, .null, .null, .null, .long 0]) rfl ⟨rfl, rfl⟩ rfl (fun t20 h20 => ?_)
  refine HP.nw' h20 (e := (.inr (4, [.null, .null, .int 0]))) (fun q7 h21 => ?_)
  refine HP.gr h21 0 9 0 q1 rfl ⟨rfl, rfl⟩ ?_
  try unfold wX4_init
  refine HP.nw' h21 (e := (.inl (0, 240, .inl (fun _ => 0)))) (fun q8 h22 => ?_)
  refine HP.pv h22 7 4 1 (.ref q8) (fs := [.null, .null, .int 0]) (fs' := [.null, (.ref q8), .int 0]) rfl ⟨rfl, rfl⟩ rfl (fun t23 h23 => ?_)
  refine HP.pv h23 7 4 2 (.int 0) (fs := [.null, (.ref q8), .int 0]) (fs' := [.null, (.ref q8), (.int 0)]) rfl ⟨rfl, rfl⟩ rfl (fun t24 h24 => ?_)
  refine HP.pv h24 7 4 0 (.ref q1) (fs := [.null, (.ref q8), (.int 0)]) (fs' := [(.ref q1), (.ref q8), (.int 0)]) rfl ⟨rfl, rfl⟩ rfl (fun t25 h25 => ?_)
  refine HP.pv h25 0 9 2 (.ref q7) (fs := [(.ref q1), (.ref q3), .null, .null, .int 0, .int 0, .int 0, .null, .null, .null, .null, .null, .null, .null, .null, .long 0]) (fs' := [(.ref q1), (.ref q3), (.ref q7), .null, .int 0, .int 0, .int 0, .null, .null, .null, .null, .null, .null, .null, .null, .long 0]) rfl ⟨rfl, rfl⟩ rfl (fun t26 h26 => ?_)
  refine HP.nw' h26 (e := (.inl (2, 4, .inr (.inr (.inr (.inr (fun _ => none))))))) (fun q9 h27 => ?_)
  refine HP.pv h27 0 9 3 (.ref q9) (fs := [(.ref q1), (.ref q3), (.ref q7), .null, .int 0, .int 0, .int 0, .null, .null, .null, .null, .null, .null, .null, .null, .long 0]) (fs' := [(.ref q1), (.ref q3), (.ref q7), (.ref q9), .int 0, .int 0, .int 0, .null, .null, .null, .null, .null, .null, .null, .null, .long 0]) rfl ⟨rfl, rfl⟩ rfl (fun t28 h28 => ?_)
  refine HP.pv h28 0 9 4 (.int 0) (fs := [(.ref q1), (.ref q3), (.ref q7), (.ref q9), .int 0, .int 0, .int 0, .null, .null, .null, .null, .null, .null, .null, .null, .long 0]) (fs' := [(.ref q1), (.ref q3), (.ref q7), (.ref q9), (.int 0), .int 0, .int 0, .null, .null, .null, .null, .null, .null, .null, .null, .long 0]) rfl ⟨rfl, rfl⟩ rfl (fun t29 h29 => ?_)
  refine HP.pv h29 0 9 5 (.int ((-1))) (fs := [(.ref q1), (.ref q3), (.ref q7), (.ref q9), (.int 0), .int 0, .int 0, .null, .null, .null, .null, .null, .null, .null, .null, .long 0]) (fs' := [(.ref q1), (.ref q3), (.ref q7), (.ref q9), (.int 0), (.int ((-1))), .int 0, .null, .null, .null, .null, .null, .null, .null, .null, .long 0]) rfl ⟨rfl, rfl⟩ rfl (fun t30 h30 => ?_)
  refine HP.pv h30 0 9 6 (.int 3) (fs := [(.ref q1), (.ref q3), (.ref q7), (.ref q9), (.int 0), (.int ((-1))), .int 0, .null, .null, .null, .null, .null, .null, .null, .null, .long 0]) (fs' := [(.ref q1), (.ref q3), (.ref q7), (.ref q9), (.int 0), (.int ((-1))), (.int 3), .null, .null, .null, .null, .null, .null, .null, .null, .long 0]) rfl ⟨rfl, rfl⟩ rfl (fun t31 h31 => ?_)
  refine HP.nw' h31 (e := (.inl (0, 5, .inl (fun _ => 0)))) (fun q10 h32 => ?_)
  refine HP.pv h32 0 9 7 (.ref q10) (fs := [(.ref q1), (.ref q3), (.ref q7), (.ref q9), (.int 0), (.int ((-1))), (.int 3), .null, .null, .null, .null, .null, .null, .null, .null, .long 0]) (fs' := [(.ref q1), (.ref q3), (.ref q7), (.ref q9), (.int 0), (.int ((-1))), (.int 3), (.ref q10), .null, .null, .null, .null, .null, .null, .null, .long 0]) rfl ⟨rfl, rfl⟩ rfl (fun t33 h33 => ?_)
  refine HP.nw' h33 (e := (.inr (7, [.int 0, .int 0, .int 0, .int 0, .int 0, .int 0, .int 0, .int 0, .int 0, .null, .null, .null, .null, .null]))) (fun q11 h34 => ?_)
  try unfold wX7_init
  refine HP.pv h34 11 7 0 (.int 1) (fs := [.int 0, .int 0, .int 0, .int 0, .int 0, .int 0, .int 0, .int 0, .int 0, .null, .null, .null, .null, .null]) (fs' := [(.int 1), .int 0, .int 0, .int 0, .int 0, .int 0, .int 0, .int 0, .int 0, .null, .null, .null, .null, .null]) rfl ⟨rfl, rfl⟩ rfl (fun t35 h35 => ?_)
  refine HP.pv h35 11 7 1 (.int 0) (fs := [(.int 1), .int 0, .int 0, .int 0, .int 0, .int 0, .int 0, .int 0, .int 0, .null, .null, .null, .null, .null]) (fs' := [(.int 1), (.int 0), .int 0, .int 0, .int 0, .int 0, .int 0, .int 0, .int 0, .null, .null, .null, .null, .null]) rfl ⟨rfl, rfl⟩ rfl (fun t36 h36 => ?_)
  refine HP.pv h36 11 7 2 (.int 0) (fs := [(.int 1), (.int 0), .int 0, .int 0, .int 0, .int 0, .int 0, .int 0, .int 0, .null, .null, .null, .null, .null]) (fs' := [(.int 1), (.int 0), (.int 0), .int 0, .int 0, .int 0, .int 0, .int 0, .int 0, .null, .null, .null, .null, .null]) rfl ⟨rfl, rfl⟩ rfl (fun t37 h37 => ?_)
  refine HP.pv h37 11 7 3 (.int 0) (fs := [(.int 1), (.int 0), (.int 0), .int 0, .int 0, .int 0, .int 0, .int 0, .int 0, .null, .null, .null, .null, .null]) (fs' := [(.int 1), (.int 0), (.int 0), (.int 0), .int 0, .int 0, .int 0, .int 0, .int 0, .null, .null, .null, .null, .null]) rfl ⟨rfl, rfl⟩ rfl (fun t38 h38 => ?_)
  refine HP.pv h38 11 7 4 (.int 0) (fs := [(.int 1), (.int 0), (.int 0), (.int 0), .int 0, .int 0, .int 0, .int 0, .int 0, .null, .null, .null, .null, .null]) (fs' := [(.int 1), (.int 0), (.int 0), (.int 0), (.int 0), .int 0, .int 0, .int 0, .int 0, .null, .null, .null, .null, .null]) rfl ⟨rfl, rfl⟩ rfl (fun t39 h39 => ?_)
  refine HP.pv h39 11 7 5 (.int 0) (fs := [(.int 1), (.int 0), (.int 0), (.int 0), (.int 0), .int 0, .int 0, .int 0, .int 0, .null, .null, .null, .null, .null]) (fs' := [(.int 1), (.int 0), (.int 0), (.int 0), (.int 0), (.int 0), .int 0, .int 0, .int 0, .null, .null, .null, .null, .null]) rfl ⟨rfl, rfl⟩ rfl (fun t40 h40 => ?_)
  refine HP.pv h40 11 7 6 (.int 0) (fs := [(.int 1), (.int 0), (.int 0), (.int 0), (.int 0), (.int 0), .int 0, .int 0, .int 0, .null, .null, .null, .null, .null]) (fs' := [(.int 1), (.int 0), (.int 0), (.int 0), (.int 0), (.int 0), (.int 0), .int 0, .int 0, .null, .null, .null, .null, .null]) rfl ⟨rfl, rfl⟩ rfl (fun t41 h41 => ?_)
  refine HP.pv h41 11 7 7 (.int 0) (fs := [(.int 1), (.int 0), (.int 0), (.int 0), (.int 0), (.int 0), (.int 0), .int 0, .int 0, .null, .null, .null, .null, .null]) (fs' := [(.int 1), (.int 0), (.int 0), (.int 0), (.int 0), (.int 0), (.int 0), (.int 0), .int 0, .null, .null, .null, .null, .null]) rfl ⟨rfl, rfl⟩ rfl (fun t42 h42 => ?_)
  refine HP.pv h42 11 7 8 (.int 0) (fs := [(.int 1), (.int 0), (.int 0), (.int 0), (.int 0), (.int 0), (.int 0), (.int 0), .int 0, .null, .null, .null, .null, .null]) (fs' := [(.int 1), (.int 0), (.int 0), (.int 0), (.int 0), (.int 0), (.int 0), (.int 0), (.int 0), .null, .null, .null, .null, .null]) rfl ⟨rfl, rfl⟩ rfl (fun t43 h43 => ?_)
  refine HP.nw' h43 (e := (.inl (0, 30, .inl (fun _ => 0)))) (fun q12 h44 => ?_)
  refine HP.pv h44 11 7 9 (.ref q12) (fs := [(.int 1), (.int 0), (.int 0), (.int 0), (.int 0), (.int 0), (.int 0), (.int 0), (.int 0), .null, .null, .null, .null, .null]) (fs' := [(.int 1), (.int 0), (.int 0), (.int 0), (.int 0), (.int 0), (.int 0), (.int 0), (.int 0), (.ref q12), .null, .null, .null, .null]) rfl ⟨rfl, rfl⟩ rfl (fun t45 h45 => ?_)
  refine HP.nw' h45 (e := (.inl (0, 4, .inl (fun _ => 0)))) (fun q13 h46 => ?_)
  refine HP.pv h46 11 7 10 (.ref q13) (fs := [(.int 1), (.int 0), (.int 0), (.int 0), (.int 0), (.int 0), (.int 0), (.int 0), (.int 0), (.ref q12), .null, .null, .null, .null]) (fs' := [(.int 1), (.int 0), (.int 0), (.int 0), (.int 0), (.int 0), (.int 0), (.int 0), (.int 0), (.ref q12), (.ref q13), .null, .null, .null]) rfl ⟨rfl, rfl⟩ rfl (fun t47 h47 => ?_)
  refine HP.nw' h47 (e := (.inl (0, 4, .inl (fun _ => 0)))) (fun q14 h48 => ?_)
  refine HP.pv h48 11 7 11 (.ref q14) (fs := [(.int 1), (.int 0), (.int 0), (.int 0), (.int 0), (.int 0), (.int 0), (.int 0), (.int 0), (.ref q12), (.ref q13), .null, .null, .null]) (fs' := [(.int 1), (.int 0), (.int 0), (.int 0), (.int 0), (.int 0), (.int 0), (.int 0), (.int 0), (.ref q12), (.ref q13), (.ref q14), .null, .null]) rfl ⟨rfl, rfl⟩ rfl (fun t49 h49 => ?_)
  refine HP.nw' h49 (e := (.inl (0, 4, .inl (fun _ => 0)))) (fun q15 h50 => ?_)
  refine HP.pv h50 11 7 12 (.ref q15) (fs := [(.int 1), (.int 0), (.int 0), (.int 0), (.int 0), (.int 0), (.int 0), (.int 0), (.int 0), (.ref q12), (.ref q13), (.ref q14), .null, .null]) (fs' := [(.int 1), (.int 0), (.int 0), (.int 0), (.int 0), (.int 0), (.int 0), (.int 0), (.int 0), (.ref q12), (.ref q13), (.ref q14), (.ref q15), .null]) rfl ⟨rfl, rfl⟩ rfl (fun t51 h51 => ?_)
  refine HP.nw' h51 (e := (.inl (0, 6, .inl (fun _ => 0)))) (fun q16 h52 => ?_)
  refine HP.pv h52 11 7 13 (.ref q16) (fs := [(.int 1), (.int 0), (.int 0), (.int 0), (.int 0), (.int 0), (.int 0), (.int 0), (.int 0), (.ref q12), (.ref q13), (.ref q14), (.ref q15), .null]) (fs' := [(.int 1), (.int 0), (.int 0), (.int 0), (.int 0), (.int 0), (.int 0), (.int 0), (.int 0), (.ref q12), (.ref q13), (.ref q14), (.ref q15), (.ref q16)]) rfl ⟨rfl, rfl⟩ rfl (fun t53 h53 => ?_)
  refine HP.pv h53 0 9 8 (.ref q11) (fs := [(.ref q1), (.ref q3), (.ref q7), (.ref q9), (.int 0), (.int ((-1))), (.int 3), (.ref q10), .null, .null, .null, .null, .null, .null, .null, .long 0]) (fs' := [(.ref q1), (.ref q3), (.ref q7), (.ref q9), (.int 0), (.int ((-1))), (.int 3), (.ref q10), (.ref q11), .null, .null, .null, .null, .null, .null, .long 0]) rfl ⟨rfl, rfl⟩ rfl (fun t54 h54 => ?_)
  refine HP.nw' h54 (e := (.inr (7, [.int 0, .int 0, .int 0, .int 0, .int 0, .int 0, .int 0, .int 0, .int 0, .null, .null, .null, .null, .null]))) (fun q17 h55 => ?_)
  try unfold wX7_init
  refine HP.pv h55 17 7 0 (.int 1) (fs := [.int 0, .int 0, .int 0, .int 0, .int 0, .int 0, .int 0, .int 0, .int 0, .null, .null, .null, .null, .null]) (fs' := [(.int 1), .int 0, .int 0, .int 0, .int 0, .int 0, .int 0, .int 0, .int 0, .null, .null, .null, .null, .null]) rfl ⟨rfl, rfl⟩ rfl (fun t56 h56 => ?_)
  refine HP.pv h56 17 7 1 (.int 0) (fs := [(.int 1), .int 0, .int 0, .int 0, .int 0, .int 0, .int 0, .int 0, .int 0, .null, .null, .null, .null, .null]) (fs' := [(.int 1), (.int 0), .int 0, .int 0, .int 0, .int 0, .int 0, .int 0, .int 0, .null, .null, .null, .null, .null]) rfl ⟨rfl, rfl⟩ rfl (fun t57 h57 => ?_)
  refine HP.pv h57 17 7 2 (.int 0) (fs := [(.int 1), (.int 0), .int 0, .int 0, .int 0, .int 0, .int 0, .int 0, .int 0, .null, .null, .null, .null, .null]) (fs' := [(.int 1), (.int 0), (.int 0), .int 0, .int 0, .int 0, .int 0, .int 0, .int 0, .null, .null, .null, .null, .null]) rfl ⟨rfl, rfl⟩ rfl (fun t58 h58 => ?_)
  refine HP.pv h58 17 7 3 (.int 0) (fs := [(.int 1), (.int 0), (.int 0), .int 0, .int 0, .int 0, .int 0, .int 0, .int 0, .null, .null, .null, .null, .null]) (fs' := [(.int 1), (.int 0), (.int 0), (.int 0), .int 0, .int 0, .int 0, .int 0, .int 0, .null, .null, .null, .null, .null]) rfl ⟨rfl, rfl⟩ rfl (fun t59 h59 => ?_)
  refine HP.pv h59 17 7 4 (.int 0) (fs := [(.int 1), (.int 0), (.int 0), (.int 0), .int 0, .int 0, .int 0, .int 0, .int 0, .null, .null, .null, .null, .null]) (fs' := [(.int 1), (.int 0), (.int 0), (.int 0), (.int 0), .int 0, .int 0, .int 0, .int 0, .null, .null, .null, .null, .null]) rfl ⟨rfl, rfl⟩ rfl (fun t60 h60 => ?_)
  refine HP.pv h60 17 7 5 (.int 0) (fs := [(.int 1), (.int 0), (.int 0), (.int 0), (.int 0), .int 0, .int 0, .int 0, .int 0, .null, .null, .null, .null, .null]) (fs' := [(.int 1), (.int 0), (.int 0), (.int 0), (.int 0), (.int 0), .int 0, .int 0, .int 0, .null, .null, .null, .null, .null]) rfl ⟨rfl, rfl⟩ rfl (fun t61 h61 => ?_)
  refine HP.pv h61 17 7 6 (.int 0) (fs := [(.int 1), (.int 0), (.int 0), (.int 0), (.int 0), (.int 0), .int 0, .int 0, .int 0, .null, .null, .null, .null, .null]) (fs' := [(.int 1), (.int 0), (.int 0), (.int 0), (.int 0), (.int 0), (.int 0), .int 0, .int 0, .null, .null, .null, .null, .null]) rfl ⟨rfl, rfl⟩ rfl (fun t62 h62 => ?_)
  refine HP.pv h62 17 7 7 (.int 0) (fs := [(.int 1), (.int 0), (.int 0), (.int 0), (.int 0), (.int 0), (.int 0), .int 0, .int 0, .null, .null, .null, .null, .null]) (fs' := [(.int 1), (.int 0), (.int 0), (.int 0), (.int 0), (.int 0), (.int 0), (.int 0), .int 0, .null, .null, .null, .null, .null]) rfl ⟨rfl, rfl⟩ rfl (fun t63 h63 => ?_)
  refine HP.pv h63 17 7 8 (.int 0) (fs := [(.int 1), (.int 0), (.int 0), (.int 0), (.int 0), (.int 0), (.int 0), (.int 0), .int 0, .null, .null, .null, .null, .null]) (fs' := [(.int 1), (.int 0), (.int 0), (.int 0), (.int 0), (.int 0), (.int 0), (.int 0), (.int 0), .null, .null, .null, .null, .null]) rfl ⟨rfl, rfl⟩ rfl (fun t64 h64 => ?_)
  refine HP.nw' h64 (e := (.inl (0, 30, .inl (fun _ => 0)))) (fun q18 h65 => ?_)
  refine HP.pv h65 17 7 9 (.ref q18) (fs := [(.int 1), (.int 0), (.int 0), (.int 0), (.int 0), (.int 0), (.int 0), (.int 0), (.int 0), .null, .null, .null, .null, .null]) (fs' := [(.int 1), (.int 0), (.int 0), (.int 0), (.int 0), (.int 0), (.int 0), (.int 0), (.int 0), (.ref q18), .null, .null, .null, .null]) rfl ⟨rfl, rfl⟩ rfl (fun t66 h66 => ?_)
  refine HP.nw' h66 (e := (.inl (0, 4, .inl (fun _ => 0)))) (fun q19 h67 => ?_)
  refine HP.pv h67 17 7 10 (.ref q19) (fs := [(.int 1), (.int 0), (.int 0), (.int 0), (.int 0), (.int 0), (.int 0), (.int 0), (.int 0), (.ref q18), .null, .null, .null, .null]) (fs' := [(.int 1), (.int 0), (.int 0), (.int 0), (.int 0), (.int 0), (.int 0), (.int 0), (.int 0), (.ref q18), (.ref q19), .null, .null, .null]) rfl ⟨rfl, rfl⟩ rfl (fun t68 h68 => ?_)
  refine HP.nw' h68 (e := (.inl (0, 4, .inl (fun _ => 0)))) (fun q20 h69 => ?_)
  refine HP.pv h69 17 7 11 (.ref q20) (fs := [(.int 1), (.int 0), (.int 0), (.int 0), (.int 0), (.int 0), (.int 0), (.int 0), (.int 0), (.ref q18), (.ref q19), .null, .null, .null]) (fs' := [(.int 1), (.int 0), (.int 0), (.int 0), (.int 0), (.int 0), (.int 0), (.int 0), (.int 0), (.ref q18), (.ref q19), (.ref q20), .null, .null]) rfl ⟨rfl, rfl⟩ rfl (fun t70 h70 => ?_)
  refine HP.nw' h70 (e := (.inl (0, 4, .inl (fun _ => 0)))) (fun q21 h71 => ?_)
  refine HP.pv h71 17 7 12 (.ref q21) (fs := [(.int 1), (.int 0), (.int 0), (.int 0), (.int 0), (.int 0), (.int 0), (.int 0), (.int 0), (.ref q18), (.ref q19), (.ref q20), .null, .null]) (fs' := [(.int 1), (.int 0), (.int 0), (.int 0), (.int 0), (.int 0), (.int 0), (.int 0), (.int 0), (.ref q18), (.ref q19), (.ref q20), (.ref q21), .null]) rfl ⟨rfl, rfl⟩ rfl (fun t72 h72 => ?_)
  refine HP.nw' h72 (e := (.inl (0, 6, .inl (fun _ => 0)))) (fun q22 h73 => ?_)
  refine HP.pv h73 17 7 13 (.ref q22) (fs := [(.int 1), (.int 0), (.int 0), (.int 0), (.int 0), (.int 0), (.int 0), (.int 0), (.int 0), (.ref q18), (.ref q19), (.ref q20), (.ref q21), .null]) (fs' := [(.int 1), (.int 0), (.int 0), (.int 0), (.int 0), (.int 0), (.int 0), (.int 0), (.int 0), (.ref q18), (.ref q19), (.ref q20), (.ref q21), (.ref q22)]) rfl ⟨rfl, rfl⟩ rfl (fun t74 h74 => ?_)
  refine HP.pv h74 0 9 9 (.ref q17) (fs := [(.ref q1), (.ref q3), (.ref q7), (.ref q9), (.int 0), (.int ((-1))), (.int 3), (.ref q10), (.ref q11), .null, .null, .null, .null, .null, .null, .long 0]) (fs' := [(.ref q1), (.ref q3), (.ref q7), (.ref q9), (.int 0), (.int ((-1))), (.int 3), (.ref q10), (.ref q11), (.ref q17), .null, .null, .null, .null, .null, .long 0]) rfl ⟨rfl, rfl⟩ rfl (fun t75 h75 => ?_)
  refine HP.nw' h75 (e := (.inr (7, [.int 0, .int 0, .int 0, .int 0, .int 0, .int 0, .int 0, .int 0, .int 0, .null, .null, .null, .null, .null]))) (fun q23 h76 => ?_)
  try unfold wX7_init
  refine HP.pv h76 23 7 0 (.int 1) (fs := [.int 0, .int 0, .int 0, .int 0, .int 0, .int 0, .int 0, .int 0, .int 0, .null, .null, .null, .null, .null]) (fs' := [(.int 1), .int 0, .int 0, .int 0, .int 0, .int 0, .int 0, .int 0, .int 0, .null, .null, .null, .null, .null]) rfl ⟨rfl, rfl⟩ rfl (fun t77 h77 => ?_)
  refine HP.pv h77 23 7 1 (.int 0) (fs := [(.int 1), .int 0, .int 0, .int 0, .int 0, .int 0, .int 0, .int 0, .int 0, .null, .null, .null, .null, .null]) (fs' := [(.int 1), (.int 0), .int 0, .int 0, .int 0, .int 0, .int 0, .int 0, .int 0, .null, .null, .null, .null, .null]) rfl ⟨rfl, rfl⟩ rfl (fun t78 h78 => ?_)
  refine HP.pv h78 23 7 2 (.int 0) (fs := [(.int 1), (.int 0), .int 0, .int 0, .int 0, .int 0, .int 0, .int 0, .int 0, .null, .null, .null, .null, .null]) (fs' := [(.int 1), (.int 0), (.int 0), .int 0, .int 0, .int 0, .int 0, .int 0, .int 0, .null, .null, .null, .null, .null]) rfl ⟨rfl, rfl⟩ rfl (fun t79 h79 => ?_)
  refine HP.pv h79 23 7 3 (.int 0) (fs := [(.int 1), (.int 0), (.int 0), .int 0, .int 0, .int 0, .int 0, .int 0, .int 0, .null, .null, .null, .null, .null]) (fs' := [(.int 1), (.int 0), (.int 0), (.int 0), .int 0, .int 0, .int 0, .int 0, .int 0, .null, .null, .null, .null, .null]) rfl ⟨rfl, rfl⟩ rfl (fun t80 h80 => ?_)
  refine HP.pv h80 23 7 4 (.int 0) (fs := [(.int 1), (.int 0), (.int 0), (.int 0), .int 0, .int 0, .int 0, .int 0, .int 0, .null, .null, .null, .null, .null]) (fs' := [(.int 1), (.int 0), (.int 0), (.int 0), (.int 0), .int 0, .int 0, .int 0, .int 0, .null, .null, .null, .null, .null]) rfl ⟨rfl, rfl⟩ rfl (fun t81 h81 => ?_)
  refine HP.pv h81 23 7 5 (.int 0) (fs := [(.int 1), (.int 0), (.int 0), (.int 0), (.int 0), .int 0, .int 0, .int 0, .int 0, .null, .null, .null, .null, .null]) (fs' := [(.int 1), (.int 0), (.int 0), (.int 0), (.int 0), (.int 0), .int 0, .int 0, .int 0, .null, .null, .null, .null, .null]) rfl ⟨rfl, rfl⟩ rfl (fun t82 h82 => ?_)
  refine HP.pv h82 23 7 6 (.int 0) (fs := [(.int 1), (.int 0), (.int 0), (.int 0), (.int 0), (.int 0), .int 0, .int 0, .int 0, .null, .null, .null, .null, .null]) (fs' := [(.int 1), (.int 0), (.int 0), (.int 0), (.int 0), (.int 0), (.int 0), .int 0, .int 0, .null, .null, .null, .null, .null]) rfl ⟨rfl, rfl⟩ rfl (fun t83 h83 => ?_)
  refine HP.pv h83 23 7 7 (.int 0) (fs := [(.int 1), (.int 0), (.int 0), (.int 0), (.int 0), (.int 0), (.int 0), .int 0, .int 0, .null, .null, .null, .null, .null]) (fs' := [(.int 1), (.int 0), (.int 0), (.int 0), (.int 0), (.int 0), (.int 0), (.int 0), .int 0, .null, .null, .null, .null, .null]) rfl ⟨rfl, rfl⟩ rfl (fun t84 h84 => ?_)
  refine HP.pv h84 23 7 8 (.int 0) (fs := [(.int 1), (.int 0), (.int 0), (.int 0), (.int 0), (.int 0), (.int 0), (.int 0), .int 0, .null, .null, .null, .null, .null]) (fs' := [(.int 1), (.int 0), (.int 0), (.int 0), (.int 0), (.int 0), (.int 0), (.int 0), (.int 0), .null, .null, .null, .null, .null]) rfl ⟨rfl, rfl⟩ rfl (fun t85 h85 => ?_)
  refine HP.nw' h85 (e := (.inl (0, 30, .inl (fun _ => 0)))) (fun q24 h86 => ?_)
  refine HP.pv h86 23 7 9 (.ref q24) (fs := [(.int 1), (.int 0), (.int 0), (.int 0), (.int 0), (.int 0), (.int 0), (.int 0), (.int 0), .null, .null, .null, .null, .null]) (fs' := [(.int 1), (.int 0), (.int 0), (.int 0), (.int 0), (.int 0), (.int 0), (.int 0), (.int 0), (.ref q24), .null, .null, .null, .null]) rfl ⟨rfl, rfl⟩ rfl (fun t87 h87 => ?_)
  refine HP.nw' h87 (e := (.inl (0, 4, .inl (fun _ => 0)))) (fun q25 h88 => ?_)
  refine HP.pv h88 23 7 10 (.ref q25) (fs := [(.int 1), (.int 0), (.int 0), (.int 0), (.int 0), (.int 0), (.int 0), (.int 0), (.int 0), (.ref q24), .null, .null, .null, .null]) (fs' := [(.int 1), (.int 0), (.int 0), (.int 0), (.int 0), (.int 0), (.int 0), (.int 0), (.int 0), (.ref q24), (.ref q25), .null, .null, .null]) rfl ⟨rfl, rfl⟩ rfl (fun t89 h89 => ?_)
  refine HP.nw' h89 (e := (.inl (0, 4, .inl (fun _ => 0)))) (fun q26 h90 => ?_)
  refine HP.pv h90 23 7 11 (.ref q26) (fs := [(.int 1), (.int 0), (.int 0), (.int 0), (.int 0), (.int 0), (.int 0), (.int 0), (.int 0), (.ref q24), (.ref q25), .null, .null, .null]) (fs' := [(.int 1), (.int 0), (.int 0), (.int 0), (.int 0), (.int 0), (.int 0), (.int 0), (.int 0), (.ref q24), (.ref q25), (.ref q26), .null, .null]) rfl ⟨rfl, rfl⟩ rfl (fun t91 h91 => ?_)
  refine HP.nw' h91 (e := (.inl (0, 4, .inl (fun _ => 0)))) (fun q27 h92 => ?_)
  refine HP.pv h92 23 7 12 (.ref q27) (fs := [(.int 1), (.int 0), (.int 0), (.int 0), (.int 0), (.int 0), (.int 0), (.int 0), (.int 0), (.ref q24), (.ref q25), (.ref q26), .null, .null]) (fs' := [(.int 1), (.int 0), (.int 0), (.int 0), (.int 0), (.int 0), (.int 0), (.int 0), (.int 0), (.ref q24), (.ref q25), (.ref q26), (.ref q27), .null]) rfl ⟨rfl, rfl⟩ rfl (fun t93 h93 => ?_)
  refine HP.nw' h93 (e := (.inl (0, 6, .inl (fun _ => 0)))) (fun q28 h94 => ?_)
  refine HP.pv h94 23 7 13 (.ref q28) (fs := [(.int 1), (.int 0), (.int 0), (.int 0), (.int 0), (.int 0), (.int 0), (.int 0), (.int 0), (.ref q24), (.ref q25), (.ref q26), (.ref q27), .null]) (fs' := [(.int 1), (.int 0), (.int 0), (.int 0), (.int 0), (.int 0), (.int 0), (.int 0), (.int 0), (.ref q24), (.ref q25), (.ref q26), (.ref q27), (.ref q28)]) rfl ⟨rfl, rfl⟩ rfl (fun t95 h95 => ?_)
  refine HP.pv h95 0 9 10 (.ref q23) (fs := [(.ref q1), (.ref q3), (.ref q7), (.ref q9), (.int 0), (.int ((-1))), (.int 3), (.ref q10), (.ref q11), (.ref q17), .null, .null, .null, .null, .null, .long 0]) (fs' := [(.ref q1), (.ref q3), (.ref q7), (.ref q9), (.int 0), (.int ((-1))), (.int 3), (.ref q10), (.ref q11), (.ref q17), (.ref q23), .null, .null, .null, .null, .long 0]) rfl ⟨rfl, rfl⟩ rfl (fun t96 h96 => ?_)
  refine HP.nw' h96 (e := (.inr (5, [.null, .int 0, .int 0, .null, .null, .null, .int 0]))) (fun q29 h97 => ?_)
  try unfold wX5_init
  refine HP.nw' h97 (e := (.inl (0, 1720, .inl (fun _ => 0)))) (fun q30 h98 => ?_)
  refine HP.pv h98 29 5 0 (.ref q30) (fs := [.null, .int 0, .int 0, .null, .null, .null, .int 0]) (fs' := [(.ref q30), .int 0, .int 0, .null, .null, .null, .int 0]) rfl ⟨rfl, rfl⟩ rfl (fun t99 h99 => ?_)
  refine HP.pv h99 29 5 1 (.int 0) (fs := [(.ref q30), .int 0, .int 0, .null, .null, .null, .int 0]) (fs' := [(.ref q30), (.int 0), .int 0, .null, .null, .null, .int 0]) rfl ⟨rfl, rfl⟩ rfl (fun t100 h100 => ?_)
  refine HP.pv h100 29 5 2 (.int 0) (fs := [(.ref q30), (.int 0), .int 0, .null, .null, .null, .int 0]) (fs' := [(.ref q30), (.int 0), (.int 0), .null, .null, .null, .int 0]) rfl ⟨rfl, rfl⟩ rfl (fun t101 h101 => ?_)
  refine HP.nw' h101 (e := (.inl (0, 128, .inl (fun _ => 0)))) (fun q31 h102 => ?_)
  refine HP.pv h102 29 5 3 (.ref q31) (fs := [(.ref q30), (.int 0), (.int 0), .null, .null, .null, .int 0]) (fs' := [(.ref q30), (.int 0), (.int 0), (.ref q31), .null, .null, .int 0]) rfl ⟨rfl, rfl⟩ rfl (fun t103 h103 => ?_)
  refine HP.nw' h103 (e := (.inl (0, 128, .inl (fun _ => 0)))) (fun q32 h104 => ?_)
  refine HP.pv h104 29 5 4 (.ref q32) (fs := [(.ref q30), (.int 0), (.int 0), (.ref q31), .null, .null, .int 0]) (fs' := [(.ref q30), (.int 0), (.int 0), (.ref q31), (.ref q32), .null, .int 0]) rfl ⟨rfl, rfl⟩ rfl (fun t105 h105 => ?_)
  refine HP.nw' h105 (e := (.inl (0, 43, .inl (fun _ => 0)))) (fun q33 h106 => ?_)
  refine HP.pv h106 29 5 5 (.ref q33) (fs := [(.ref q30), (.int 0), (.int 0), (.ref q31), (.ref q32), .null, .int 0]) (fs' := [(.ref q30), (.int 0), (.int 0), (.ref q31), (.ref q32), (.ref q33), .int 0]) rfl ⟨rfl, rfl⟩ rfl (fun t107 h107 => ?_)
  refine HP.pv h107 29 5 6 (.int 0) (fs := [(.ref q30), (.int 0), (.int 0), (.ref q31), (.ref q32), (.ref q33), .int 0]) (fs' := [(.ref q30), (.int 0), (.int 0), (.ref q31), (.ref q32), (.ref q33), (.int 0)]) rfl ⟨rfl, rfl⟩ rfl (fun t108 h108 => ?_)
  refine HP.pv h108 0 9 11 (.ref q29) (fs := [(.ref q1), (.ref q3), (.ref q7), (.ref q9), (.int 0), (.int ((-1))), (.int 3), (.ref q10), (.ref q11), (.ref q17), (.ref q23), .null, .null, .null, .null, .long 0]) (fs' := [(.ref q1), (.ref q3), (.ref q7), (.ref q9), (.int 0), (.int ((-1))), (.int 3), (.ref q10), (.ref q11), (.ref q17), (.ref q23), (.ref q29), .null, .null, .null, .long 0]) rfl ⟨rfl, rfl⟩ rfl (fun t109 h109 => ?_)
  refine HP.nw' h109 (e := (.inr (1, [.null, .null, .null, .int 0, .null, .null, .int 0]))) (fun q34 h110 => ?_)
  try unfold wX1_init
  refine HP.nw' h110 (e := (.inl (0, 10, .inl (fun _ => 0)))) (fun q35 h111 => ?_)
  refine HP.pv h111 34 1 0 (.ref q35) (fs := [.null, .null, .null, .int 0, .null, .null, .int 0]) (fs' := [(.ref q35), .null, .null, .int 0, .null, .null, .int 0]) rfl ⟨rfl, rfl⟩ rfl (fun t112 h112 => ?_)
  refine HP.nw' h112 (e := (.inl (0, 10, .inl (fun _ => 0)))) (fun q36 h113 => ?_)
  refine HP.pv h113 34 1 1 (.ref q36) (fs := [(.ref q35), .null, .null, .int 0, .null, .null, .int 0]) (fs' := [(.ref q35), (.ref q36), .null, .int 0, .null, .null, .int 0]) rfl ⟨rfl, rfl⟩ rfl (fun t114 h114 => ?_)
  refine HP.nw' h114 (e := (.inl (1, 10, .inl (fun _ => 0)))) (fun q37 h115 => ?_)
  refine HP.pv h115 34 1 2 (.ref q37) (fs := [(.ref q35), (.ref q36), .null, .int 0, .null, .null, .int 0]) (fs' := [(.ref q35), (.ref q36), (.ref q37), .int 0, .null, .null, .int 0]) rfl ⟨rfl, rfl⟩ rfl (fun t116 h116 => ?_)
  refine HP.pv h116 34 1 3 (.int 0) (fs := [(.ref q35), (.ref q36), (.ref q37), .int 0, .null, .null, .int 0]) (fs' := [(.ref q35), (.ref q36), (.ref q37), (.int 0), .null, .null, .int 0]) rfl ⟨rfl, rfl⟩ rfl (fun t117 h117 => ?_)
  refine HP.nw' h117 (e := (.inl (0, 10, .inl (fun _ => 0)))) (fun q38 h118 => ?_)
  refine HP.pv h118 34 1 4 (.ref q38) (fs := [(.ref q35), (.ref q36), (.ref q37), (.int 0), .null, .null, .int 0]) (fs' := [(.ref q35), (.ref q36), (.ref q37), (.int 0), (.ref q38), .null, .int 0]) rfl ⟨rfl, rfl⟩ rfl (fun t119 h119 => ?_)
  refine HP.nw' h119 (e := (.inl (0, 10, .inl (fun _ => 0)))) (fun q39 h120 => ?_)
  refine HP.pv h120 34 1 5 (.ref q39) (fs := [(.ref q35), (.ref q36), (.ref q37), (.int 0), (.ref q38), .null, .int 0]) (fs' := [(.ref q35), (.ref q36), (.ref q37), (.int 0), (.ref q38), (.ref q39), .int 0]) rfl ⟨rfl, rfl⟩ rfl (fun t121 h121 => ?_)
  refine HP.pv h121 34 1 6 (.int 0) (fs := [(.ref q35), (.ref q36), (.ref q37), (.int 0), (.ref q38), (.ref q39), .int 0]) (fs' := [(.ref q35), (.ref q36), (.ref q37), (.int 0), (.ref q38), (.ref q39), (.int 0)]) rfl ⟨rfl, rfl⟩ rfl (fun t122 h122 => ?_)
  refine HP.pv h122 0 9 12 (.ref q34) (fs := [(.ref q1), (.ref q3), (.ref q7), (.ref q9), (.int 0), (.int ((-1))), (.int 3), (.ref q10), (.ref q11), (.ref q17), (.ref q23), (.ref q29), .null, .null, .null, .long 0]) (fs' := [(.ref q1), (.ref q3), (.ref q7), (.ref q9), (.int 0), (.int ((-1))), (.int 3), (.ref q10), (.ref q11), (.ref q17), (.ref q23), (.ref q29), (.ref q34), .null, .null, .long 0]) rfl ⟨rfl, rfl⟩ rfl (fun t123 h123 => ?_)
  refine HP.nw' h123 (e := (.inr (6, [.null]))) (fun q40 h124 => ?_)
  try unfold wX6_init
  refine HP.nw' h124 (e := (.inl (0, 30, .inl (fun _ => 0)))) (fun q41 h125 => ?_)
  refine HP.pv h125 40 6 0 (.ref q41) (fs := [.null]) (fs' := [(.ref q41)]) rfl ⟨rfl, rfl⟩ rfl (fun t126 h126 => ?_)
  refine HP.pv h126 0 9 13 (.ref q40) (fs := [(.ref q1), (.ref q3), (.ref q7), (.ref q9), (.int 0), (.int ((-1))), (.int 3), (.ref q10), (.ref q11), (.ref q17), (.ref q23), (.ref q29), (.ref q34), .null, .null, .long 0]) (fs' := [(.ref q1), (.ref q3), (.ref q7), (.ref q9), (.int 0), (.int ((-1))), (.int 3), (.ref q10), (.ref q11), (.ref q17), (.ref q23), (.ref q29), (.ref q34), (.ref q40), .null, .long 0]) rfl ⟨rfl, rfl⟩ rfl (fun t127 h127 => ?_)
  refine HP.nw' h127 (e := (.inr (0, [.null, .null]))) (fun q42 h128 => ?_)
  try unfold wX0_init
  refine HP.nw' h128 (e := (.inl (0, 4, .inl (fun _ => 0)))) (fun q43 h129 => ?_)
  refine HP.pv h129 42 0 0 (.ref q43) (fs := [.null, .null]) (fs' := [(.ref q43), .null]) rfl ⟨rfl, rfl⟩ rfl (fun t130 h130 => ?_)
  refine HP.nw' h130 (e := (.inl (0, 4, .inl (fun _ => 0)))) (fun q44 h131 => ?_)
  refine HP.pv h131 42 0 1 (.ref q44) (fs := [(.ref q43), .null]) (fs' := [(.ref q43), (.ref q44)]) rfl ⟨rfl, rfl⟩ rfl (fun t132 h132 => ?_)
  refine HP.pv h132 0 9 14 (.ref q42) (fs := [(.ref q1), (.ref q3), (.ref q7), (.ref q9), (.int 0), (.int ((-1))), (.int 3), (.ref q10), (.ref q11), (.ref q17), (.ref q23), (.ref q29), (.ref q34), (.ref q40), .null, .long 0]) (fs' := [(.ref q1), (.ref q3), (.ref q7), (.ref q9), (.int 0), (.int ((-1))), (.int 3), (.ref q10), (.ref q11), (.ref q17), (.ref q23), (.ref q29), (.ref q34), (.ref q40), (.ref q42), .long 0]) rfl ⟨rfl, rfl⟩ rfl (fun t133 h133 => ?_)
  refine HP.pv h133 0 9 15 (.long 0) (fs := [(.ref q1), (.ref q3), (.ref q7), (.ref q9), (.int 0), (.int ((-1))), (.int 3), (.ref q10), (.ref q11), (.ref q17), (.ref q23), (.ref q29), (.ref q34), (.ref q40), (.ref q42), .long 0]) (fs' := [(.ref q1), (.ref q3), (.ref q7), (.ref q9), (.int 0), (.int ((-1))), (.int 3), (.ref q10), (.ref q11), (.ref q17), (.ref q23), (.ref q29), (.ref q34), (.ref q40), (.ref q42), (.long 0)]) rfl ⟨rfl, rfl⟩ rfl (fun t134 h134 => ?_)
  refine HP.nw' h134 (e := (.inr (10, [.int 0, .null, .int 0, .int 0, .int 0, .int 0, .null, .null, .null, .null, .null, .null, .null, .int 0, .int 0, .null, .null, .null, .null, .null, .null, .int 0, .int 0, .null, .null, .null, .int 0, .int 0, .null, .null, .int 0, .int 0, .null, .int 0, .long 0, .null, .null, .null, .null, .null, .int 0, .null, .null, .int 0, .null, .int 0]))) (fun q45 h135 => ?_)
  try unfold wX10_init
  refine HP.nw' h135 (e := (.inl (0, 240, .inl (fun _ => 0)))) (fun q46 h136 => ?_)
  refine HP.pv h136 45 10 1 (.ref q46) (fs := [.int 0, .null, .int 0, .int 0, .int 0, .int 0, .null, .null, .null, .null, .null, .null, .null, .int 0, .int 0, .null, .null, .null, .null, .null, .null, .int 0, .int 0, .null, .null, .null, .int 0, .int 0, .null, .null, .int 0, .int 0, .null, .int 0, .long 0, .null, .null, .null, .null, .null, .int 0, .null, .null, .int 0, .null, .int 0]) (fs' := [.int 0, (.ref q46), .int 0, .int 0, .int 0, .int 0, .null, .null, .null, .null, .null, .null, .null, .int 0, .int 0, .null, .null, .null, .null, .null, .null, .int 0, .int 0, .null, .null, .null, .int 0, .int 0, .null, .null, .int 0, .int 0, .null, .int 0, .long 0, .null, .null, .null, .null, .null, .int 0, .null, .null, .int 0, .null, .int 0]) rfl ⟨rfl, rfl⟩ rfl (fun t137 h137 => ?_)
  refine HP.nw' h137 (e := (.inl (0, 2600, .inl (fun _ => 0)))) (fun q47 h138 => ?_)
  refine HP.pv h138 45 10 6 (.ref q47) (fs := [.int 0, (.ref q46), .int 0, .int 0, .int 0, .int 0, .null, .null, .null, .null, .null, .null, .null, .int 0, .int 0, .null, .null, .null, .null, .null, .null, .int 0, .int 0, .null, .null, .null, .int 0, .int 0, .null, .null, .int 0, .int 0, .null, .int 0, .long 0, .null, .null, .null, .null, .null, .int 0, .null, .null, .int 0, .null, .int 0]) (fs' := [.int 0, (.ref q46), .int 0, .int 0, .int 0, .int 0, (.ref q47), .null, .null, .null, .null, .null, .null, .int 0, .int 0, .null, .null, .null, .null, .null, .null, .int 0, .int 0, .null, .null, .null, .int 0, .int 0, .null, .null, .int 0, .int 0, .null, .int 0, .long 0, .null, .null, .null, .null, .null, .int 0, .null, .null, .int 0, .null, .int 0]) rfl ⟨rfl, rfl⟩ rfl (fun t139 h139 => ?_)
  refine HP.nw' h139 (e := (.inl (0, 2600, .inl (fun _ => 0)))) (fun q48 h140 => ?_)
  refine HP.pv h140 45 10 7 (.ref q48) (fs := [.int 0, (.ref q46), .int 0, .int 0, .int 0, .int 0, (.ref q47), .null, .null, .null, .null, .null, .null, .int 0, .int 0, .null, .null, .null, .null, .null, .null, .int 0, .int 0, .null, .null, .null, .int 0, .int 0, .null, .null, .int 0, .int 0, .null, .int 0, .long 0, .null, .null, .null, .null, .null, .int 0, .null, .null, .int 0, .null, .int 0]) (fs' := [.int 0, (.ref q46), .int 0, .int 0, .int 0, .int 0, (.ref q47), (.ref q48), .null, .null, .null, .null, .null, .int 0, .int 0, .null, .null, .null, .null, .null, .null, .int 0, .int 0, .null, .null, .null, .int 0, .int 0, .null, .null, .int 0, .int 0, .null, .int 0, .long 0, .null, .null, .null, .null, .null, .int 0, .null, .null, .int 0, .null, .int 0]) rfl ⟨rfl, rfl⟩ rfl (fun t141 h141 => ?_)
  refine HP.nw' h141 (e := (.inl (0, 5, .inl (fun _ => 0)))) (fun q49 h142 => ?_)
  refine HP.pv h142 45 10 8 (.ref q49) (fs := [.int 0, (.ref q46), .int 0, .int 0, .int 0, .int 0, (.ref q47), (.ref q48), .null, .null, .null, .null, .null, .int 0, .int 0, .null, .null, .null, .null, .null, .null, .int 0, .int 0, .null, .null, .null, .int 0, .int 0, .null, .null, .int 0, .int 0, .null, .int 0, .long 0, .null, .null, .null, .null, .null, .int 0, .null, .null, .int 0, .null, .int 0]) (fs' := [.int 0, (.ref q46), .int 0, .int 0, .int 0, .int 0, (.ref q47), (.ref q48), (.ref q49), .null, .null, .null, .null, .int 0, .int 0, .null, .null, .null, .null, .null, .null, .int 0, .int 0, .null, .null, .null, .int 0, .int 0, .null, .null, .int 0, .int 0, .null, .int 0, .long 0, .null, .null, .null, .null, .null, .int 0, .null, .null, .int 0, .null, .int 0]) rfl ⟨rfl, rfl⟩ rfl (fun t143 h143 => ?_)
  refine HP.nw' h143 (e := (.inl (0, 5, .inl (fun _ => 0)))) (fun q50 h144 => ?_)
  refine HP.pv h144 45 10 9 (.ref q50) (fs := [.int 0, (.ref q46), .int 0, .int 0, .int 0, .int 0, (.ref q47), (.ref q48), (.ref q49), .null, .null, .null, .null, .int 0, .int 0, .null, .null, .null, .null, .null, .null, .int 0, .int 0, .null, .null, .null, .int 0, .int 0, .null, .null, .int 0, .int 0, .null, .int 0, .long 0, .null, .null, .null, .null, .null, .int 0, .null, .null, .int 0, .null, .int 0]) (fs' := [.int 0, (.ref q46), .int 0, .int 0, .int 0, .int 0, (.ref q47), (.ref q48), (.ref q49), (.ref q50), .null, .null, .null, .int 0, .int 0, .null, .null, .null, .null, .null, .null, .int 0, .int 0, .null, .null, .null, .int 0, .int 0, .null, .null, .int 0, .int 0, .null, .int 0, .long 0, .null, .null, .null, .null, .null, .int 0, .null, .null, .int 0, .null, .int 0]) rfl ⟨rfl, rfl⟩ rfl (fun t145 h145 => ?_)
  refine HP.nw' h145 (e := (.inl (0, 700, .inl (fun _ => 0)))) (fun q51 h146 => ?_)
  refine HP.pv h146 45 10 10 (.ref q51) (fs := [.int 0, (.ref q46), .int 0, .int 0, .int 0, .int 0, (.ref q47), (.ref q48), (.ref q49), (.ref q50), .null, .null, .null, .int 0, .int 0, .null, .null, .null, .null, .null, .null, .int 0, .int 0, .null, .null, .null, .int 0, .int 0, .null, .null, .int 0, .int 0, .null, .int 0, .long 0, .null, .null, .null, .null, .null, .int 0, .null, .null, .int 0, .null, .int 0]) (fs' := [.int 0, (.ref q46), .int 0, .int 0, .int 0, .int 0, (.ref q47), (.ref q48), (.ref q49), (.ref q50), (.ref q51), .null, .null, .int 0, .int 0, .null, .null, .null, .null, .null, .null, .int 0, .int 0, .null, .null, .null, .int 0, .int 0, .null, .null, .int 0, .int 0, .null, .int 0, .long 0, .null, .null, .null, .null, .null, .int 0, .null, .null, .int 0, .null, .int 0]) rfl ⟨rfl, rfl⟩ rfl (fun t147 h147 => ?_)
  refine HP.nw' h147 (e := (.inl (0, 700, .inl (fun _ => 0)))) (fun q52 h148 => ?_)
  refine HP.pv h148 45 10 11 (.ref q52) (fs := [.int 0, (.ref q46), .int 0, .int 0, .int 0, .int 0, (.ref q47), (.ref q48), (.ref q49), (.ref q50), (.ref q51), .null, .null, .int 0, .int 0, .null, .null, .null, .null, .null, .null, .int 0, .int 0, .null, .null, .null, .int 0, .int 0, .null, .null, .int 0, .int 0, .null, .int 0, .long 0, .null, .null, .null, .null, .null, .int 0, .null, .null, .int 0, .null, .int 0]) (fs' := [.int 0, (.ref q46), .int 0, .int 0, .int 0, .int 0, (.ref q47), (.ref q48), (.ref q49), (.ref q50), (.ref q51), (.ref q52), .null, .int 0, .int 0, .null, .null, .null, .null, .null, .null, .int 0, .int 0, .null, .null, .null, .int 0, .int 0, .null, .null, .int 0, .int 0, .null, .int 0, .long 0, .null, .null, .null, .null, .null, .int 0, .null, .null, .int 0, .null, .int 0]) rfl ⟨rfl, rfl⟩ rfl (fun t149 h149 => ?_)
  refine HP.nw' h149 (e := (.inl (0, 700, .inl (fun _ => 0)))) (fun q53 h150 => ?_)
  refine HP.pv h150 45 10 12 (.ref q53) (fs := [.int 0, (.ref q46), .int 0, .int 0, .int 0, .int 0, (.ref q47), (.ref q48), (.ref q49), (.ref q50), (.ref q51), (.ref q52), .null, .int 0, .int 0, .null, .null, .null, .null, .null, .null, .int 0, .int 0, .null, .null, .null, .int 0, .int 0, .null, .null, .int 0, .int 0, .null, .int 0, .long 0, .null, .null, .null, .null, .null, .int 0, .null, .null, .int 0, .null, .int 0]) (fs' := [.int 0, (.ref q46), .int 0, .int 0, .int 0, .int 0, (.ref q47), (.ref q48), (.ref q49), (.ref q50), (.ref q51), (.ref q52), (.ref q53), .int 0, .int 0, .null, .null, .null, .null, .null, .null, .int 0, .int 0, .null, .null, .null, .int 0, .int 0, .null, .null, .int 0, .int 0, .null, .int 0, .long 0, .null, .null, .null, .null, .null, .int 0, .null, .null, .int 0, .null, .int 0]) rfl ⟨rfl, rfl⟩ rfl (fun t151 h151 => ?_)
  refine HP.nw' h151 (e := (.inl (0, 6, .inl (fun _ => 0)))) (fun q54 h152 => ?_)
  refine HP.pv h152 45 10 15 (.ref q54) (fs := [.int 0, (.ref q46), .int 0, .int 0, .int 0, .int 0, (.ref q47), (.ref q48), (.ref q49), (.ref q50), (.ref q51), (.ref q52), (.ref q53), .int 0, .int 0, .null, .null, .null, .null, .null, .null, .int 0, .int 0, .null, .null, .null, .int 0, .int 0, .null, .null, .int 0, .int 0, .null, .int 0, .long 0, .null, .null, .null, .null, .null, .int 0, .null, .null, .int 0, .null, .int 0]) (fs' := [.int 0, (.ref q46), .int 0, .int 0, .int 0, .int 0, (.ref q47), (.ref q48), (.ref q49), (.ref q50), (.ref q51), (.ref q52), (.ref q53), .int 0, .int 0, (.ref q54), .null, .null, .null, .null, .null, .int 0, .int 0, .null, .null, .null, .int 0, .int 0, .null, .null, .int 0, .int 0, .null, .int 0, .long 0, .null, .null, .null, .null, .null, .int 0, .null, .null, .int 0, .null, .int 0]) rfl ⟨rfl, rfl⟩ rfl (fun t153 h153 => ?_)
  refine HP.nw' h153 (e := (.inl (0, 80, .inl (fun _ => 0)))) (fun q55 h154 => ?_)
  refine HP.pv h154 45 10 16 (.ref q55) (fs := [.int 0, (.ref q46), .int 0, .int 0, .int 0, .int 0, (.ref q47), (.ref q48), (.ref q49), (.ref q50), (.ref q51), (.ref q52), (.ref q53), .int 0, .int 0, (.ref q54), .null, .null, .null, .null, .null, .int 0, .int 0, .null, .null, .null, .int 0, .int 0, .null, .null, .int 0, .int 0, .null, .int 0, .long 0, .null, .null, .null, .null, .null, .int 0, .null, .null, .int 0, .null, .int 0]) (fs' := [.int 0, (.ref q46), .int 0, .int 0, .int 0, .int 0, (.ref q47), (.ref q48), (.ref q49), (.ref q50), (.ref q51), (.ref q52), (.ref q53), .int 0, .int 0, (.ref q54), (.ref q55), .null, .null, .null, .null, .int 0, .int 0, .null, .null, .null, .int 0, .int 0, .null, .null, .int 0, .int 0, .null, .int 0, .long 0, .null, .null, .null, .null, .null, .int 0, .null, .null, .int 0, .null, .int 0]) rfl ⟨rfl, rfl⟩ rfl (fun t155 h155 => ?_)
  refine HP.nw' h155 (e := (.inl (0, 4, .inl (fun _ => 0)))) (fun q56 h156 => ?_)
  refine HP.pv h156 45 10 17 (.ref q56) (fs := [.int 0, (.ref q46), .int 0, .int 0, .int 0, .int 0, (.ref q47), (.ref q48), (.ref q49), (.ref q50), (.ref q51), (.ref q52), (.ref q53), .int 0, .int 0, (.ref q54), (.ref q55), .null, .null, .null, .null, .int 0, .int 0, .null, .null, .null, .int 0, .int 0, .null, .null, .int 0, .int 0, .null, .int 0, .long 0, .null, .null, .null, .null, .null, .int 0, .null, .null, .int 0, .null, .int 0]) (fs' := [.int 0, (.ref q46), .int 0, .int 0, .int 0, .int 0, (.ref q47), (.ref q48), (.ref q49), (.ref q50), (.ref q51), (.ref q52), (.ref q53), .int 0, .int 0, (.ref q54), (.ref q55), (.ref q56), .null, .null, .null, .int 0, .int 0, .null, .null, .null, .int 0, .int 0, .null, .null, .int 0, .int 0, .null, .int 0, .long 0, .null, .null, .null, .null, .null, .int 0, .null, .null, .int 0, .null, .int 0]) rfl ⟨rfl, rfl⟩ rfl (fun t157 h157 => ?_)
  refine HP.nw' h157 (e := (.inl (0, 30, .inl (fun _ => 0)))) (fun q57 h158 => ?_)
  refine HP.pv h158 45 10 18 (.ref q57) (fs := [.int 0, (.ref q46), .int 0, .int 0, .int 0, .int 0, (.ref q47), (.ref q48), (.ref q49), (.ref q50), (.ref q51), (.ref q52), (.ref q53), .int 0, .int 0, (.ref q54), (.ref q55), (.ref q56), .null, .null, .null, .int 0, .int 0, .null, .null, .null, .int 0, .int 0, .null, .null, .int 0, .int 0, .null, .int 0, .long 0, .null, .null, .null, .null, .null, .int 0, .null, .null, .int 0, .null, .int 0]) (fs' := [.int 0, (.ref q46), .int 0, .int 0, .int 0, .int 0, (.ref q47), (.ref q48), (.ref q49), (.ref q50), (.ref q51), (.ref q52), (.ref q53), .int 0, .int 0, (.ref q54), (.ref q55), (.ref q56), (.ref q57), .null, .null, .int 0, .int 0, .null, .null, .null, .int 0, .int 0, .null, .null, .int 0, .int 0, .null, .int 0, .long 0, .null, .null, .null, .null, .null, .int 0, .null, .null, .int 0, .null, .int 0]) rfl ⟨rfl, rfl⟩ rfl (fun t159 h159 => ?_)
  refine HP.nw' h159 (e := (.inl (0, 5, .inl (fun _ => 0)))) (fun q58 h160 => ?_)
  refine HP.pv h160 45 10 19 (.ref q58) (fs := [.int 0, (.ref q46), .int 0, .int 0, .int 0, .int 0, (.ref q47), (.ref q48), (.ref q49), (.ref q50), (.ref q51), (.ref q52), (.ref q53), .int 0, .int 0, (.ref q54), (.ref q55), (.ref q56), (.ref q57), .null, .null, .int 0, .int 0, .null, .null, .null, .int 0, .int 0, .null, .null, .int 0, .int 0, .null, .int 0, .long 0, .null, .null, .null, .null, .null, .int 0, .null, .null, .int 0, .null, .int 0]) (fs' := [.int 0, (.ref q46), .int 0, .int 0, .int 0, .int 0, (.ref q47), (.ref q48), (.ref q49), (.ref q50), (.ref q51), (.ref q52), (.ref q53), .int 0, .int 0, (.ref q54), (.ref q55), (.ref q56), (.ref q57), (.ref q58), .null, .int 0, .int 0, .null, .null, .null, .int 0, .int 0, .null, .null, .int 0, .int 0, .null, .int 0, .long 0, .null, .null, .null, .null, .null, .int 0, .null, .null, .int 0, .null, .int 0]) rfl ⟨rfl, rfl⟩ rfl (fun t161 h161 => ?_)
  refine HP.nw' h161 (e := (.inl (0, 16, .inl (fun _ => 0)))) (fun q59 h162 => ?_)
  refine HP.pv h162 45 10 20 (.ref q59) (fs := [.int 0, (.ref q46), .int 0, .int 0, .int 0, .int 0, (.ref q47), (.ref q48), (.ref q49), (.ref q50), (.ref q51), (.ref q52), (.ref q53), .int 0, .int 0, (.ref q54), (.ref q55), (.ref q56), (.ref q57), (.ref q58), .null, .int 0, .int 0, .null, .null, .null, .int 0, .int 0, .null, .null, .int 0, .int 0, .null, .int 0, .long 0, .null, .null, .null, .null, .null, .int 0, .null, .null, .int 0, .null, .int 0]) (fs' := [.int 0, (.ref q46), .int 0, .int 0, .int 0, .int 0, (.ref q47), (.ref q48), (.ref q49), (.ref q50), (.ref q51), (.ref q52), (.ref q53), .int 0, .int 0, (.ref q54), (.ref q55), (.ref q56), (.ref q57), (.ref q58), (.ref q59), .int 0, .int 0, .null, .null, .null, .int 0, .int 0, .null, .null, .int 0, .int 0, .null, .int 0, .long 0, .null, .null, .null, .null, .null, .int 0, .null, .null, .int 0, .null, .int 0]) rfl ⟨rfl, rfl⟩ rfl (fun t163 h163 => ?_)
  refine HP.nw' h163 (e := (.inl (0, 4, .inl (fun _ => 0)))) (fun q60 h164 => ?_)
  refine HP.pv h164 45 10 23 (.ref q60) (fs := [.int 0, (.ref q46), .int 0, .int 0, .int 0, .int 0, (.ref q47), (.ref q48), (.ref q49), (.ref q50), (.ref q51), (.ref q52), (.ref q53), .int 0, .int 0, (.ref q54), (.ref q55), (.ref q56), (.ref q57), (.ref q58), (.ref q59), .int 0, .int 0, .null, .null, .null, .int 0, .int 0, .null, .null, .int 0, .int 0, .null, .int 0, .long 0, .null, .null, .null, .null, .null, .int 0, .null, .null, .int 0, .null, .int 0]) (fs' := [.int 0, (.ref q46), .int 0, .int 0, .int 0, .int 0, (.ref q47), (.ref q48), (.ref q49), (.ref q50), (.ref q51), (.ref q52), (.ref q53), .int 0, .int 0, (.ref q54), (.ref q55), (.ref q56), (.ref q57), (.ref q58), (.ref q59), .int 0, .int 0, (.ref q60), .null, .null, .int 0, .int 0, .null, .null, .int 0, .int 0, .null, .int 0, .long 0, .null, .null, .null, .null, .null, .int 0, .null, .null, .int 0, .null, .int 0]) rfl ⟨rfl, rfl⟩ rfl (fun t165 h165 => ?_)
  refine HP.nw' h165 (e := (.inl (0, 30, .inl (fun _ => 0)))) (fun q61 h166 => ?_)
  refine HP.pv h166 45 10 24 (.ref q61) (fs := [.int 0, (.ref q46), .int 0, .int 0, .int 0, .int 0, (.ref q47), (.ref q48), (.ref q49), (.ref q50), (.ref q51), (.ref q52), (.ref q53), .int 0, .int 0, (.ref q54), (.ref q55), (.ref q56), (.ref q57), (.ref q58), (.ref q59), .int 0, .int 0, (.ref q60), .null, .null, .int 0, .int 0, .null, .null, .int 0, .int 0, .null, .int 0, .long 0, .null, .null, .null, .null, .null, .int 0, .null, .null, .int 0, .null, .int 0]) (fs' := [.int 0, (.ref q46), .int 0, .int 0, .int 0, .int 0, (.ref q47), (.ref q48), (.ref q49), (.ref q50), (.ref q51), (.ref q52), (.ref q53), .int 0, .int 0, (.ref q54), (.ref q55), (.ref q56), (.ref q57), (.ref q58), (.ref q59), .int 0, .int 0, (.ref q60), (.ref q61), .null, .int 0, .int 0, .null, .null, .int 0, .int 0, .null, .int 0, .long 0, .null, .null, .null, .null, .null, .int 0, .null, .null, .int 0, .null, .int 0]) rfl ⟨rfl, rfl⟩ rfl (fun t167 h167 => ?_)
  refine HP.nw' h167 (e := (.inl (0, 16, .inl (fun _ => 0)))) (fun q62 h168 => ?_)
  refine HP.pv h168 45 10 25 (.ref q62) (fs := [.int 0, (.ref q46), .int 0, .int 0, .int 0, .int 0, (.ref q47), (.ref q48), (.ref q49), (.ref q50), (.ref q51), (.ref q52), (.ref q53), .int 0, .int 0, (.ref q54), (.ref q55), (.ref q56), (.ref q57), (.ref q58), (.ref q59), .int 0, .int 0, (.ref q60), (.ref q61), .null, .int 0, .int 0, .null, .null, .int 0, .int 0, .null, .int 0, .long 0, .null, .null, .null, .null, .null, .int 0, .null, .null, .int 0, .null, .int 0]) (fs' := [.int 0, (.ref q46), .int 0, .int 0, .int 0, .int 0, (.ref q47), (.ref q48), (.ref q49), (.ref q50), (.ref q51), (.ref q52), (.ref q53), .int 0, .int 0, (.ref q54), (.ref q55), (.ref q56), (.ref q57), (.ref q58), (.ref q59), .int 0, .int 0, (.ref q60), (.ref q61), (.ref q62), .int 0, .int 0, .null, .null, .int 0, .int 0, .null, .int 0, .long 0, .null, .null, .null, .null, .null, .int 0, .null, .null, .int 0, .null, .int 0]) rfl ⟨rfl, rfl⟩ rfl (fun t169 h169 => ?_)
  refine HP.nw' h169 (e := (.inl (0, 223, .inl (fun _ => 0)))) (fun q63 h170 => ?_)
  refine HP.pv h170 45 10 28 (.ref q63) (fs := [.int 0, (.ref q46), .int 0, .int 0, .int 0, .int 0, (.ref q47), (.ref q48), (.ref q49), (.ref q50), (.ref q51), (.ref q52), (.ref q53), .int 0, .int 0, (.ref q54), (.ref q55), (.ref q56), (.ref q57), (.ref q58), (.ref q59), .int 0, .int 0, (.ref q60), (.ref q61), (.ref q62), .int 0, .int 0, .null, .null, .int 0, .int 0, .null, .int 0, .long 0, .null, .null, .null, .null, .null, .int 0, .null, .null, .int 0, .null, .int 0]) (fs' := [.int 0, (.ref q46), .int 0, .int 0, .int 0, .int 0, (.ref q47), (.ref q48), (.ref q49), (.ref q50), (.ref q51), (.ref q52), (.ref q53), .int 0, .int 0, (.ref q54), (.ref q55), (.ref q56), (.ref q57), (.ref q58), (.ref q59), .int 0, .int 0, (.ref q60), (.ref q61), (.ref q62), .int 0, .int 0, (.ref q63), .null, .int 0, .int 0, .null, .int 0, .long 0, .null, .null, .null, .null, .null, .int 0, .null, .null, .int 0, .null, .int 0]) rfl ⟨rfl, rfl⟩ rfl (fun t171 h171 => ?_)
  refine HP.nw' h171 (e := (.inl (0, 5, .inl (fun _ => 0)))) (fun q64 h172 => ?_)
  refine HP.pv h172 45 10 29 (.ref q64) (fs := [.int 0, (.ref q46), .int 0, .int 0, .int 0, .int 0, (.ref q47), (.ref q48), (.ref q49), (.ref q50), (.ref q51), (.ref q52), (.ref q53), .int 0, .int 0, (.ref q54), (.ref q55), (.ref q56), (.ref q57), (.ref q58), (.ref q59), .int 0, .int 0, (.ref q60), (.ref q61), (.ref q62), .int 0, .int 0, (.ref q63), .null, .int 0, .int 0, .null, .int 0, .long 0, .null, .null, .null, .null, .null, .int 0, .null, .null, .int 0, .null, .int 0]) (fs' := [.int 0, (.ref q46), .int 0, .int 0, .int 0, .int 0, (.ref q47), (.ref q48), (.ref q49), (.ref q50), (.ref q51), (.ref q52), (.ref q53), .int 0, .int 0, (.ref q54), (.ref q55), (.ref q56), (.ref q57), (.ref q58), (.ref q59), .int 0, .int 0, (.ref q60), (.ref q61), (.ref q62), .int 0, .int 0, (.ref q63), (.ref q64), .int 0, .int 0, .null, .int 0, .long 0, .null, .null, .null, .null, .null, .int 0, .null, .null, .int 0, .null, .int 0]) rfl ⟨rfl, rfl⟩ rfl (fun t173 h173 => ?_)
  refine HP.pv h173 45 10 30 (.int ((-1))) (fs := [.int 0, (.ref q46), .int 0, .int 0, .int 0, .int 0, (.ref q47), (.ref q48), (.ref q49), (.ref q50), (.ref q51), (.ref q52), (.ref q53), .int 0, .int 0, (.ref q54), (.ref q55), (.ref q56), (.ref q57), (.ref q58), (.ref q59), .int 0, .int 0, (.ref q60), (.ref q61), (.ref q62), .int 0, .int 0, (.ref q63), (.ref q64), .int 0, .int 0, .null, .int 0, .long 0, .null, .null, .null, .null, .null, .int 0, .null, .null, .int 0, .null, .int 0]) (fs' := [.int 0, (.ref q46), .int 0, .int 0, .int 0, .int 0, (.ref q47), (.ref q48), (.ref q49), (.ref q50), (.ref q51), (.ref q52), (.ref q53), .int 0, .int 0, (.ref q54), (.ref q55), (.ref q56), (.ref q57), (.ref q58), (.ref q59), .int 0, .int 0, (.ref q60), (.ref q61), (.ref q62), .int 0, .int 0, (.ref q63), (.ref q64), (.int ((-1))), .int 0, .null, .int 0, .long 0, .null, .null, .null, .null, .null, .int 0, .null, .null, .int 0, .null, .int 0]) rfl ⟨rfl, rfl⟩ rfl (fun t174 h174 => ?_)
  refine HP.pv h174 45 10 31 (.int 3) (fs := [.int 0, (.ref q46), .int 0, .int 0, .int 0, .int 0, (.ref q47), (.ref q48), (.ref q49), (.ref q50), (.ref q51), (.ref q52), (.ref q53), .int 0, .int 0, (.ref q54), (.ref q55), (.ref q56), (.ref q57), (.ref q58), (.ref q59), .int 0, .int 0, (.ref q60), (.ref q61), (.ref q62), .int 0, .int 0, (.ref q63), (.ref q64), (.int ((-1))), .int 0, .null, .int 0, .long 0, .null, .null, .null, .null, .null, .int 0, .null, .null, .int 0, .null, .int 0]) (fs' := [.int 0, (.ref q46), .int 0, .int 0, .int 0, .int 0, (.ref q47), (.ref q48), (.ref q49), (.ref q50), (.ref q51), (.ref q52), (.ref q53), .int 0, .int 0, (.ref q54), (.ref q55), (.ref q56), (.ref q57), (.ref q58), (.ref q59), .int 0, .int 0, (.ref q60), (.ref q61), (.ref q62), .int 0, .int 0, (.ref q63), (.ref q64), (.int ((-1))), (.int 3), .null, .int 0, .long 0, .null, .null, .null, .null, .null, .int 0, .null, .null, .int 0, .null, .int 0]) rfl ⟨rfl, rfl⟩ rfl (fun t175 h175 => ?_)
  refine HP.nw' h175 (e := (.inl (0, 8920, .inl (fun _ => 0)))) (fun q65 h176 => ?_)
  refine HP.pv h176 45 10 32 (.ref q65) (fs := [.int 0, (.ref q46), .int 0, .int 0, .int 0, .int 0, (.ref q47), (.ref q48), (.ref q49), (.ref q50), (.ref q51), (.ref q52), (.ref q53), .int 0, .int 0, (.ref q54), (.ref q55), (.ref q56), (.ref q57), (.ref q58), (.ref q59), .int 0, .int 0, (.ref q60), (.ref q61), (.ref q62), .int 0, .int 0, (.ref q63), (.ref q64), (.int ((-1))), (.int 3), .null, .int 0, .long 0, .null, .null, .null, .null, .null, .int 0, .null, .null, .int 0, .null, .int 0]) (fs' := [.int 0, (.ref q46), .int 0, .int 0, .int 0, .int 0, (.ref q47), (.ref q48), (.ref q49), (.ref q50), (.ref q51), (.ref q52), (.ref q53), .int 0, .int 0, (.ref q54), (.ref q55), (.ref q56), (.ref q57), (.ref q58), (.ref q59), .int 0, .int 0, (.ref q60), (.ref q61), (.ref q62), .int 0, .int 0, (.ref q63), (.ref q64), (.int ((-1))), (.int 3), (.ref q65), .int 0, .long 0, .null, .null, .null, .null, .null, .int 0, .null, .null, .int 0, .null, .int 0]) rfl ⟨rfl, rfl⟩ rfl (fun t177 h177 => ?_)
  refine HP.nw' h177 (e := (.inl (0, 30, .inl (fun _ => 0)))) (fun q66 h178 => ?_)
  refine HP.pv h178 45 10 35 (.ref q66) (fs := [.int 0, (.ref q46), .int 0, .int 0, .int 0, .int 0, (.ref q47), (.ref q48), (.ref q49), (.ref q50), (.ref q51), (.ref q52), (.ref q53), .int 0, .int 0, (.ref q54), (.ref q55), (.ref q56), (.ref q57), (.ref q58), (.ref q59), .int 0, .int 0, (.ref q60), (.ref q61), (.ref q62), .int 0, .int 0, (.ref q63), (.ref q64), (.int ((-1))), (.int 3), (.ref q65), .int 0, .long 0, .null, .null, .null, .null, .null, .int 0, .null, .null, .int 0, .null, .int 0]) (fs' := [.int 0, (.ref q46), .int 0, .int 0, .int 0, .int 0, (.ref q47), (.ref q48), (.ref q49), (.ref q50), (.ref q51), (.ref q52), (.ref q53), .int 0, .int 0, (.ref q54), (.ref q55), (.ref q56), (.ref q57), (.ref q58), (.ref q59), .int 0, .int 0, (.ref q60), (.ref q61), (.ref q62), .int 0, .int 0, (.ref q63), (.ref q64), (.int ((-1))), (.int 3), (.ref q65), .int 0, .long 0, (.ref q66), .null, .null, .null, .null, .int 0, .null, .null, .int 0, .null, .int 0]) rfl ⟨rfl, rfl⟩ rfl (fun t179 h179 => ?_)
  refine HP.nw' h179 (e := (.inl (0, 30, .inl (fun _ => 0)))) (fun q67 h180 => ?_)
  refine HP.pv h180 45 10 36 (.ref q67) (fs := [.int 0, (.ref q46), .int 0, .int 0, .int 0, .int 0, (.ref q47), (.ref q48), (.ref q49), (.ref q50), (.ref q51), (.ref q52), (.ref q53), .int 0, .int 0, (.ref q54), (.ref q55), (.ref q56), (.ref q57), (.ref q58), (.ref q59), .int 0, .int 0, (.ref q60), (.ref q61), (.ref q62), .int 0, .int 0, (.ref q63), (.ref q64), (.int ((-1))), (.int 3), (.ref q65), .int 0, .long 0, (.ref q66), .null, .null, .null, .null, .int 0, .null, .null, .int 0, .null, .int 0]) (fs' := [.int 0, (.ref q46), .int 0, .int 0, .int 0, .int 0, (.ref q47), (.ref q48), (.ref q49), (.ref q50), (.ref q51), (.ref q52), (.ref q53), .int 0, .int 0, (.ref q54), (.ref q55), (.ref q56), (.ref q57), (.ref q58), (.ref q59), .int 0, .int 0, (.ref q60), (.ref q61), (.ref q62), .int 0, .int 0, (.ref q63), (.ref q64), (.int ((-1))), (.int 3), (.ref q65), .int 0, .long 0, (.ref q66), (.ref q67), .null, .null, .null, .int 0, .null, .null, .int 0, .null, .int 0]) rfl ⟨rfl, rfl⟩ rfl (fun t181 h181 => ?_)
  refine HP.nw' h181 (e := (.inl (0, 10, .inl (fun _ => 0)))) (fun q68 h182 => ?_)
  refine HP.pv h182 45 10 37 (.ref q68) (fs := [.int 0, (.ref q46), .int 0, .int 0, .int 0, .int 0, (.ref q47), (.ref q48), (.ref q49), (.ref q50), (.ref q51), (.ref q52), (.ref q53), .int 0, .int 0, (.ref q54), (.ref q55), (.ref q56), (.ref q57), (.ref q58), (.ref q59), .int 0, .int 0, (.ref q60), (.ref q61), (.ref q62), .int 0, .int 0, (.ref q63), (.ref q64), (.int ((-1))), (.int 3), (.ref q65), .int 0, .long 0, (.ref q66), (.ref q67), .null, .null, .null, .int 0, .null, .null, .int 0, .null, .int 0]) (fs' := [.int 0, (.ref q46), .int 0, .int 0, .int 0, .int 0, (.ref q47), (.ref q48), (.ref q49), (.ref q50), (.ref q51), (.ref q52), (.ref q53), .int 0, .int 0, (.ref q54), (.ref q55), (.ref q56), (.ref q57), (.ref q58), (.ref q59), .int 0, .int 0, (.ref q60), (.ref q61), (.ref q62), .int 0, .int 0, (.ref q63), (.ref q64), (.int ((-1))), (.int 3), (.ref q65), .int 0, .long 0, (.ref q66), (.ref q67), (.ref q68), .null, .null, .int 0, .null, .null, .int 0, .null, .int 0]) rfl ⟨rfl, rfl⟩ rfl (fun t183 h183 => ?_)
  refine HP.nw' h183 (e := (.inl (0, 10, .inl (fun _ => 0)))) (fun q69 h184 => ?_)
  refine HP.pv h184 45 10 38 (.ref q69) (fs := [.int 0, (.ref q46), .int 0, .int 0, .int 0, .int 0, (.ref q47), (.ref q48), (.ref q49), (.ref q50), (.ref q51), (.ref q52), (.ref q53), .int 0, .int 0, (.ref q54), (.ref q55), (.ref q56), (.ref q57), (.ref q58), (.ref q59), .int 0, .int 0, (.ref q60), (.ref q61), (.ref q62), .int 0, .int 0, (.ref q63), (.ref q64), (.int ((-1))), (.int 3), (.ref q65), .int 0, .long 0, (.ref q66), (.ref q67), (.ref q68), .null, .null, .int 0, .null, .null, .int 0, .null, .int 0]) (fs' := [.int 0, (.ref q46), .int 0, .int 0, .int 0, .int 0, (.ref q47), (.ref q48), (.ref q49), (.ref q50), (.ref q51), (.ref q52), (.ref q53), .int 0, .int 0, (.ref q54), (.ref q55), (.ref q56), (.ref q57), (.ref q58), (.ref q59), .int 0, .int 0, (.ref q60), (.ref q61), (.ref q62), .int 0, .int 0, (.ref q63), (.ref q64), (.int ((-1))), (.int 3), (.ref q65), .int 0, .long 0, (.ref q66), (.ref q67), (.ref q68), (.ref q69), .null, .int 0, .null, .null, .int 0, .null, .int 0]) rfl ⟨rfl, rfl⟩ rfl (fun t185 h185 => ?_)
  refine HP.nw' h185 (e := (.inl (1, 10, .inl (fun _ => 0)))) (fun q70 h186 => ?_)
  refine HP.pv h186 45 10 39 (.ref q70) (fs := [.int 0, (.ref q46), .int 0, .int 0, .int 0, .int 0, (.ref q47), (.ref q48), (.ref q49), (.ref q50), (.ref q51), (.ref q52), (.ref q53), .int 0, .int 0, (.ref q54), (.ref q55), (.ref q56), (.ref q57), (.ref q58), (.ref q59), .int 0, .int 0, (.ref q60), (.ref q61), (.ref q62), .int 0, .int 0, (.ref q63), (.ref q64), (.int ((-1))), (.int 3), (.ref q65), .int 0, .long 0, (.ref q66), (.ref q67), (.ref q68), (.ref q69), .null, .int 0, .null, .null, .int 0, .null, .int 0]) (fs' := [.int 0, (.ref q46), .int 0, .int 0, .int 0, .int 0, (.ref q47), (.ref q48), (.ref q49), (.ref q50), (.ref q51), (.ref q52), (.ref q53), .int 0, .int 0, (.ref q54), (.ref q55), (.ref q56), (.ref q57), (.ref q58), (.ref q59), .int 0, .int 0, (.ref q60), (.ref q61), (.ref q62), .int 0, .int 0, (.ref q63), (.ref q64), (.int ((-1))), (.int 3), (.ref q65), .int 0, .long 0, (.ref q66), (.ref q67), (.ref q68), (.ref q69), (.ref q70), .int 0, .null, .null, .int 0, .null, .int 0]) rfl ⟨rfl, rfl⟩ rfl (fun t187 h187 => ?_)
  refine HP.nw' h187 (e := (.inl (0, 10, .inl (fun _ => 0)))) (fun q71 h188 => ?_)
  refine HP.pv h188 45 10 41 (.ref q71) (fs := [.int 0, (.ref q46), .int 0, .int 0, .int 0, .int 0, (.ref q47), (.ref q48), (.ref q49), (.ref q50), (.ref q51), (.ref q52), (.ref q53), .int 0, .int 0, (.ref q54), (.ref q55), (.ref q56), (.ref q57), (.ref q58), (.ref q59), .int 0, .int 0, (.ref q60), (.ref q61), (.ref q62), .int 0, .int 0, (.ref q63), (.ref q64), (.int ((-1))), (.int 3), (.ref q65), .int 0, .long 0, (.ref q66), (.ref q67), (.ref q68), (.ref q69), (.ref q70), .int 0, .null, .null, .int 0, .null, .int 0]) (fs' := [.int 0, (.ref q46), .int 0, .int 0, .int 0, .int 0, (.ref q47), (.ref q48), (.ref q49), (.ref q50), (.ref q51), (.ref q52), (.ref q53), .int 0, .int 0, (.ref q54), (.ref q55), (.ref q56), (.ref q57), (.ref q58), (.ref q59), .int 0, .int 0, (.ref q60), (.ref q61), (.ref q62), .int 0, .int 0, (.ref q63), (.ref q64), (.int ((-1))), (.int 3), (.ref q65), .int 0, .long 0, (.ref q66), (.ref q67), (.ref q68), (.ref q69), (.ref q70), .int 0, (.ref q71), .null, .int 0, .null, .int 0]) rfl ⟨rfl, rfl⟩ rfl (fun t189 h189 => ?_)
  refine HP.nw' h189 (e := (.inl (0, 10, .inl (fun _ => 0)))) (fun q72 h190 => ?_)
  refine HP.pv h190 45 10 42 (.ref q72) (fs := [.int 0, (.ref q46), .int 0, .int 0, .int 0, .int 0, (.ref q47), (.ref q48), (.ref q49), (.ref q50), (.ref q51), (.ref q52), (.ref q53), .int 0, .int 0, (.ref q54), (.ref q55), (.ref q56), (.ref q57), (.ref q58), (.ref q59), .int 0, .int 0, (.ref q60), (.ref q61), (.ref q62), .int 0, .int 0, (.ref q63), (.ref q64), (.int ((-1))), (.int 3), (.ref q65), .int 0, .long 0, (.ref q66), (.ref q67), (.ref q68), (.ref q69), (.ref q70), .int 0, (.ref q71), .null, .int 0, .null, .int 0]) (fs' := [.int 0, (.ref q46), .int 0, .int 0, .int 0, .int 0, (.ref q47), (.ref q48), (.ref q49), (.ref q50), (.ref q51), (.ref q52), (.ref q53), .int 0, .int 0, (.ref q54), (.ref q55), (.ref q56), (.ref q57), (.ref q58), (.ref q59), .int 0, .int 0, (.ref q60), (.ref q61), (.ref q62), .int 0, .int 0, (.ref q63), (.ref q64), (.int ((-1))), (.int 3), (.ref q65), .int 0, .long 0, (.ref q66), (.ref q67), (.ref q68), (.ref q69), (.ref q70), .int 0, (.ref q71), (.ref q72), .int 0, .null, .int 0]) rfl ⟨rfl, rfl⟩ rfl (fun t191 h191 => ?_)
  refine HP.nw' h191 (e := (.inl (0, 223, .inl (fun _ => 0)))) (fun q73 h192 => ?_)
  refine HP.pv h192 45 10 44 (.ref q73) (fs := [.int 0, (.ref q46), .int 0, .int 0, .int 0, .int 0, (.ref q47), (.ref q48), (.ref q49), (.ref q50), (.ref q51), (.ref q52), (.ref q53), .int 0, .int 0, (.ref q54), (.ref q55), (.ref q56), (.ref q57), (.ref q58), (.ref q59), .int 0, .int 0, (.ref q60), (.ref q61), (.ref q62), .int 0, .int 0, (.ref q63), (.ref q64), (.int ((-1))), (.int 3), (.ref q65), .int 0, .long 0, (.ref q66), (.ref q67), (.ref q68), (.ref q69), (.ref q70), .int 0, (.ref q71), (.ref q72), .int 0, .null, .int 0]) (fs' := [.int 0, (.ref q46), .int 0, .int 0, .int 0, .int 0, (.ref q47), (.ref q48), (.ref q49), (.ref q50), (.ref q51), (.ref q52), (.ref q53), .int 0, .int 0, (.ref q54), (.ref q55), (.ref q56), (.ref q57), (.ref q58), (.ref q59), .int 0, .int 0, (.ref q60), (.ref q61), (.ref q62), .int 0, .int 0, (.ref q63), (.ref q64), (.int ((-1))), (.int 3), (.ref q65), .int 0, .long 0, (.ref q66), (.ref q67), (.ref q68), (.ref q69), (.ref q70), .int 0, (.ref q71), (.ref q72), .int 0, (.ref q73), .int 0]) rfl ⟨rfl, rfl⟩ rfl (fun t193 h193 => ?_)
  refine HP.nw' h193 (e := (.inl (3, 1, .inr (.inl (fun _ => 0))))) (fun q74 h194 => ?_)
  refine fin_0 hZ h194 ?_ ?_ rfl
  · intro k hk
    match k, hk with
    | 0, _ => rfl
    | 1, _ => rfl
    | 2, _ => rfl
    | 3, _ => rfl
    | 4, _ => rfl
    | 5, _ => rfl
    | 6, _ => rfl
    | 7, _ => rfl
    | 8, _ => rfl
    | 9, _ => rfl
    | 10, _ => rfl
    | 11, _ => rfl
    | 12, _ => rfl
    | 13, _ => rfl
    | 14, _ => rfl
    | 15, _ => rfl
    | 16, _ => rfl
    | 17, _ => rfl
    | 18, _ => rfl
    | 19, _ => rfl
    | 20, _ => rfl
    | 21, _ => rfl
    | 22, _ => rfl
    | 23, _ => rfl
    | 24, _ => rfl
    | 25, _ => rfl
    | 26, _ => rfl
    | 27, _ => rfl
    | 28, _ => rfl
    | 29, _ => rfl
    | 30, _ => rfl
    | 31, _ => rfl
    | 32, _ => rfl
    | 33, _ => rfl
    | 34, _ => rfl
    | 35, _ => rfl
    | 36, _ => rfl
    | 37, _ => rfl
    | 38, _ => rfl
    | 39, _ => rfl
    | 40, _ => rfl
    | 41, _ => rfl
    | 42, _ => rfl
    | 43, _ => rfl
    | 44, _ => rfl
    | k + 45, h => omega
  · intro k hk
    have hm : k ∈ ([0, 1, 6, 7, 8, 9, 10, 11, 12, 15, 16, 17, 18, 19, 20, 23, 24, 25, 28, 29, 32, 35, 36, 37, 38, 39, 41, 42, 44] : List Nat) := by unfold domM at hk; simpa using hk
    simp only [List.mem_cons, List.not_mem_nil, or_false] at hm
    rcases hm with rfl | rfl | rfl | rfl | rfl | rfl | rfl | rfl | rfl | rfl | rfl | rfl | rfl | rfl | rfl | rfl | rfl | rfl | rfl | rfl | rfl | rfl | rfl | rfl | rfl | rfl | rfl | rfl | rfl
    · rfl
    · rfl
    · rfl
    · rfl
    · rfl
    · rfl
    · rfl
    · rfl
    · rfl
    · rfl
    · rfl
    · rfl
    · rfl
    · rfl
    · rfl
    · rfl
    · rfl
    · rfl
    · rfl
    · rfl
    · rfl
    · rfl
    · rfl
    · rfl
    · rfl
    · rfl
    · rfl
    · rfl
    · rfl
