/-! What a LAW is worth: the whole text on both sides -/
def clV (g : Nat → Int32) : List Clz → Int32
  | [] => 0
  | c :: l => match c.1 with
    | none => (fC g c.2 []).headD 0
    | some W => if (fC g W []).headD 0 = 0 then clV g l else (fC g c.2 []).headD 0
section
variable {g c v : Nat → Int32}
theorem evL_run : ∀ (W : List Tk) (k d : Nat) (st : List Int32), (∀ i t, W[i]? = some t → c (k + i) = enT t) → (∀ t ∈ W, tkV t) → evL c g (W.length + d) k false st = evL c g d (k + W.length) false (fC g W st)
  | [], k, d, st, h, hv => by simp [fC]
  | t :: W, k, d, st, h, hv => by
    have ht := hv t List.mem_cons_self
    have e0 : c k = enT t := h 0 t rfl
    obtain ⟨d1, d2⟩ := ht.d
    rw [show (t :: W).length + d = (W.length + d) + 1 by simp only [List.length_cons]; omega]
    have e1 : evL c g (W.length + d + 1) k false st = if c k &&& 255 = 59 then st.headD 0 else if c k &&& 255 = 63 then evL c g (W.length + d) (k + 1) (sk0 st) [] else evL c g (W.length + d) (k + 1) false (evS (c k &&& 255) (c k >>> (8 &&& 31)) g st) := rfl
    rw [e1, e0, d1, d2, if_neg ht.1, if_neg ht.2.1]
    rw [evL_run W (k + 1) d _ (fun i u e => by rw [show k + 1 + i = k + (i + 1) by omega]; exact h (i + 1) u e) (fun u hu => hv u (List.mem_cons_of_mem _ hu))]
    rw [show k + 1 + W.length = k + (t :: W).length by simp only [List.length_cons]; omega]
    rfl
theorem evL_skip : ∀ (W : List Tk) (k d : Nat) (st : List Int32), (∀ i t, W[i]? = some t → c (k + i) = enT t) → (∀ t ∈ W, tkV t) → evL c g (W.length + d) k true st = evL c g d (k + W.length) true st
  | [], k, d, st, h, hv => by simp
  | t :: W, k, d, st, h, hv => by
    have ht := hv t List.mem_cons_self
    have e0 : c k = enT t := h 0 t rfl
    obtain ⟨d1, d2⟩ := ht.d
    rw [show (t :: W).length + d = (W.length + d) + 1 by simp only [List.length_cons]; omega]
    have e1 : evL c g (W.length + d + 1) k true st = evL c g (W.length + d) (k + 1) (decide (¬ (c k &&& 255 = 59))) st := rfl
    rw [e1, e0, d1, decide_eq_true ht.1]
    rw [evL_skip W (k + 1) d _ (fun i u e => by rw [show k + 1 + i = k + (i + 1) by omega]; exact h (i + 1) u e) (fun u hu => hv u (List.mem_cons_of_mem _ hu))]
    rw [show k + 1 + W.length = k + (t :: W).length by simp only [List.length_cons]; omega]
theorem gl {W V : List Tk} {k : Nat} (h : ∀ i t, (W ++ V)[i]? = some t → c (k + i) = enT t) : (∀ i t, W[i]? = some t → c (k + i) = enT t) ∧ ∀ i t, V[i]? = some t → c (k + W.length + i) = enT t := by
  refine ⟨fun i t e => h i t ?_, fun i t e => ?_⟩
  · have hi := (List.getElem?_eq_some_iff.mp e).1
    rw [List.getElem?_append_left hi]; exact e
  · rw [Nat.add_assoc]
    refine h (W.length + i) t ?_
    rw [List.getElem?_append_right (by omega), Nat.add_sub_cancel_left]; exact e
theorem ev_semi {k d : Nat} {st : List Int32} (h : c k = enT (59, 0)) : evL c g (d + 1) k false st = st.headD 0 ∧ evL c g (d + 1) k true st = evL c g d (k + 1) false st := by
  have e : enT (59, 0) &&& 255 = 59 := by decide
  constructor
  · show (if c k &&& 255 = 59 then st.headD 0 else _) = _
    rw [h, if_pos e]
  · show evL c g d (k + 1) (decide (¬ (c k &&& 255 = 59))) st = _
    rw [h, e]; rfl
theorem ev_ask {k d : Nat} {st : List Int32} (h : c k = enT (63, 0)) : evL c g (d + 1) k false st = evL c g d (k + 1) (sk0 st) [] := by
  show (if c k &&& 255 = 59 then st.headD 0 else if c k &&& 255 = 63 then _ else _) = _
  rw [h, if_neg (by decide), if_pos (by decide)]
theorem ev_class : ∀ (l : List Clz) (k : Nat), (∀ i t, (l.flatMap clC)[i]? = some t → c (k + i) = enT t) → (∀ x ∈ l, ClOK g x) → evL c g (l.flatMap clC).length k false [] = clV g l
  | [], k, h, hv => rfl
  | x :: l, k, h, hv => by
    obtain ⟨x1, S⟩ := x
    obtain ⟨hS, hW⟩ := hv (x1, S) List.mem_cons_self
    have ih := fun k h => ev_class l k h (fun y hy => hv y (List.mem_cons_of_mem _ hy))
    obtain ⟨v, pv, cv, _⟩ := hS.2.2 [] (by simp)
    rw [List.flatMap_cons] at h ⊢
    cases x1 with
    | none =>
      have ec : clC (none, S) ++ l.flatMap clC = S ++ ([(59, 0)] ++ l.flatMap clC) := by simp [clC]
      rw [ec] at h ⊢
      obtain ⟨h1, h2⟩ := gl h
      have e0 : c (k + S.length) = enT (59, 0) := h2 0 _ rfl
      rw [List.length_append, evL_run S k _ [] h1 hS.1, List.length_append, show [((59 : Int32), (0 : Int32))].length = 1 from rfl, Nat.add_comm 1, (ev_semi e0).1]
      rfl
    | some W =>
      obtain ⟨w, pw, cw, _⟩ := (hW W rfl).2.2 [] (by simp)
      have ec : clC (some W, S) ++ l.flatMap clC = W ++ ([(63, 0)] ++ (S ++ ([(59, 0)] ++ l.flatMap clC))) := by simp [clC]
      rw [ec] at h ⊢
      obtain ⟨h1, h2⟩ := gl h
      have e0 : c (k + W.length) = enT (63, 0) := h2 0 _ rfl
      obtain ⟨_, h3⟩ := gl h2
      obtain ⟨h4, h5⟩ := gl h3
      have e1 : c (k + W.length + 1 + S.length) = enT (59, 0) := h5 0 _ rfl
      obtain ⟨_, h6⟩ := gl h5
      rw [List.length_append, evL_run W k _ [] h1 (hW W rfl).1, List.length_append, show [((63 : Int32), (0 : Int32))].length = 1 from rfl, Nat.add_comm 1, ev_ask e0, cw]
      rw [List.length_append, List.length_append, show [((59 : Int32), (0 : Int32))].length = 1 from rfl, Nat.add_comm 1]
      show _ = if (fC g W []).headD 0 = 0 then clV g l else (fC g S []).headD 0
      rw [cw]
      show evL c g _ _ (decide (w = 0)) [] = if w = 0 then clV g l else (fC g S []).headD 0
      by_cases q : w = 0
      · rw [if_pos q, decide_eq_true q, evL_skip (c := c) S (k + W.length + 1) ((l.flatMap clC).length + 1) [] h4 hS.1, (ev_semi e1).2]
        exact ih _ h6
      · rw [if_neg q, decide_eq_false q, evL_run (c := c) S (k + W.length + 1) ((l.flatMap clC).length + 1) [] h4 hS.1, (ev_semi e1).1]
theorem evW_f : ∀ (W : List Tk) (k : Nat) (st : List Int32), (∀ i t, W[i]? = some t → c (k + i) = rcT t.1 ∧ v (k + i) = t.2) → evW c v g W.length k st = (fM g W st).bind ev1
  | [], k, st, h => rfl
  | t :: W, k, st, h => by
    obtain ⟨e1, e2⟩ := h 0 t rfl
    have e1' : c k = rcT t.1 := e1
    have e2' : v k = t.2 := e2
    have ih : ∀ st, evW c v g W.length (k + 1) st = (fM g W st).bind ev1 := fun st => evW_f W (k + 1) st (fun i u e => by rw [show k + 1 + i = k + (i + 1) by omega]; exact h (i + 1) u e)
    show evW c v g (W.length + 1) k st = ((stM g t st).bind (fM g W)).bind ev1
    rw [evW_s, e1', e2']
    unfold stM
    by_cases q0 : rcT t.1 = 0
    · rw [if_pos q0, if_pos q0]
      by_cases q : st.length < 80
      · rw [if_pos q, if_pos q, ih]; rfl
      · rw [if_neg q, if_neg q]; rfl
    rw [if_neg q0, if_neg q0]
    by_cases q1 : rcT t.1 = 1
    · rw [if_pos q1, if_pos q1]
      by_cases q : st.length < 80 ∧ ¬ t.2 < 0 ∧ t.2 < 6
      · rw [if_pos q, if_pos q, ih]; rfl
      · rw [if_neg q, if_neg q]; rfl
    rw [if_neg q1, if_neg q1]
    by_cases q9 : rcT t.1 = 9
    · rw [if_pos q9, if_pos q9]
      cases st with
      | nil => rfl
      | cons x q => exact ih _
    · rw [if_neg q9, if_neg q9]
      cases st with
      | nil => rfl
      | cons y q =>
        cases q with
        | nil => rfl
        | cons x q => exact ih _
theorem evW_v {n : Nat} {W : List Tk} {P : Int32 → Prop} {k : Nat} (hS : Sem g n W P) (hn : n ≤ 40) (h : ∀ i t, W[i]? = some t → c (k + i) = rcT t.1 ∧ v (k + i) = t.2) : evW c v g W.length k [] = some ((fC g W []).headD 0) := by
  obtain ⟨w, _, cw, mw⟩ := hS.2.2 [] (by simpa using hn)
  rw [evW_f W k [] h, mw, cw]
  rfl
theorem gm {W V : List Tk} {k : Nat} (h : ∀ i t, (W ++ V)[i]? = some t → c (k + i) = rcT t.1 ∧ v (k + i) = t.2) : (∀ i t, W[i]? = some t → c (k + i) = rcT t.1 ∧ v (k + i) = t.2) ∧ ∀ i t, V[i]? = some t → c (k + W.length + i) = rcT t.1 ∧ v (k + W.length + i) = t.2 := by
  refine ⟨fun i t e => h i t ?_, fun i t e => ?_⟩
  · have hi := (List.getElem?_eq_some_iff.mp e).1
    rw [List.getElem?_append_left hi]; exact e
  · rw [Nat.add_assoc]
    refine h (W.length + i) t ?_
    rw [List.getElem?_append_right (by omega), Nat.add_sub_cancel_left]; exact e
theorem evQ_f {tf sf st : Nat → Int32} {n0 : Nat} : ∀ (l : List Clz) (i o : Nat), o + (l.flatMap clM).length ≤ 520 → (∀ j t, (l.flatMap clM)[j]? = some t → c (520 * n0 + o + j) = rcT t.1 ∧ v (520 * n0 + o + j) = t.2) → (∀ j x, l[j]? = some x → tf (140 * n0 + (i + j)) = nI (o + ofL l j) ∧ sf (140 * n0 + (i + j)) = nI (o + ofL l j + (x.1.getD []).length) ∧ st (140 * n0 + (i + j)) = nI (o + ofL l j + (x.1.getD []).length + x.2.length)) → (∀ x ∈ l, ClOK g x) → evQ c v tf sf st g n0 l.length i = some (clV g l)
  | [], i, o, _, _, _, _ => rfl
  | x :: l, i, o, h520, h, hz, hv => by
    obtain ⟨x1, S⟩ := x
    obtain ⟨hS, hW⟩ := hv (x1, S) List.mem_cons_self
    rw [List.flatMap_cons] at h h520
    rw [List.length_append] at h520
    have hlen : (clM (x1, S)).length = (x1.getD []).length + S.length := by unfold clM; rw [List.length_append]
    obtain ⟨h1, h2⟩ := gm h
    have e : clM (x1, S) = x1.getD [] ++ S := rfl
    rw [e] at h1
    obtain ⟨h3, h4⟩ := gm h1
    have ih := evQ_f l (i + 1) (o + (clM (x1, S)).length) (by omega) (fun j t e => by rw [← Nat.add_assoc]; exact h2 j t e) (fun j y e => by
      have q := hz (j + 1) y e
      have eo : ofL ((x1, S) :: l) (j + 1) = (clM (x1, S)).length + ofL l j := by
        unfold ofL
        rw [List.take_succ_cons, List.flatMap_cons, List.length_append]
      rw [eo] at q
      rw [show i + 1 + j = i + (j + 1) by omega, show o + (clM (x1, S)).length + ofL l j = o + ((clM (x1, S)).length + ofL l j) by omega]
      exact q) (fun y hy => hv y (List.mem_cons_of_mem _ hy))
    obtain ⟨z1, z2, z3⟩ := hz 0 (x1, S) rfl
    have o0 : ofL ((x1, S) :: l) 0 = 0 := rfl
    rw [o0, Nat.add_zero] at z1 z2 z3
    rw [Nat.add_zero] at z1 z2 z3
    have z2 : sf (140 * n0 + i) = nI (o + (x1.getD []).length) := z2
    have z3 : st (140 * n0 + i) = nI (o + (x1.getD []).length + S.length) := z3
    show evQ c v tf sf st g n0 (l.length + 1) i = _
    unfold evQ
    rw [z1, z2, z3, nI_clamp (by omega), nI_clamp (by omega), nI_clamp (by omega)]
    have ev2 : evW c v g (o + (x1.getD []).length + S.length - (o + (x1.getD []).length)) (520 * n0 + (o + (x1.getD []).length)) [] = some ((fC g S []).headD 0) := by
      rw [Nat.add_sub_cancel_left, ← Nat.add_assoc]
      exact evW_v hS (Nat.le_refl _) h4
    rw [ev2]
    cases x1 with
    | none =>
      have e0 : nI o = nI (o + ((none : Option (List Tk)).getD []).length) := rfl
      rw [if_pos e0]
      rfl
    | some W =>
      have hWn : W ≠ [] := (hW W rfl).2.1
      have hWl : 0 < W.length := List.length_pos_iff.mpr hWn
      have eg : (some W).getD [] = W := rfl
      rw [eg] at hlen h3 ⊢
      have ne : ¬ nI o = nI (o + W.length) := fun q => by
        have := congrArg Int32.toInt q
        rw [nI_toInt (by omega), nI_toInt (by omega)] at this
        omega
      rw [if_neg ne, Nat.add_sub_cancel_left, evW_v (hW W rfl) (Nat.le_refl _) h3, Option.bind_some]
      show _ = some (if (fC g W []).headD 0 = 0 then clV g l else (fC g S []).headD 0)
      by_cases q : (fC g W []).headD 0 = 0
      · rw [if_pos q, if_pos q]; exact ih
      · rw [if_neg q, if_neg q]
end
theorem ofL_le2 {l : List Clz} {i : Nat} {c : Clz} (h : l[i]? = some c) : ofL l i + (c.1.getD []).length + c.2.length ≤ (l.flatMap clM).length := by
  have hi := (List.getElem?_eq_some_iff.mp h).1
  have e1 : l = l.take i ++ l.drop i := (List.take_append_drop i l).symm
  have e2 : l.drop i = c :: l.drop (i + 1) := by
    rw [List.drop_eq_getElem_cons hi]
    congr 1
    exact (List.getElem?_eq_some_iff.mp h).2
  rw [e2] at e1
  unfold ofL
  have e3 : (l.flatMap clM).length = ((l.take i).flatMap clM).length + ((clM c).length + ((l.drop (i + 1)).flatMap clM).length) := by
    conv => lhs; rw [e1]
    rw [List.flatMap_append, List.length_append, List.flatMap_cons, List.length_append]
  rw [e3]
  unfold clM
  simp only [List.length_append]
  omega
/-- the LAW that a text is: in the class its code, in the reference its rows -/
theorem law_both {T : Tap} {l : List Clz} (hl : lawT T = .inr l) {c : Nat → Int32} (hc : ∀ i t, (l.flatMap clC)[i]? = some t → c i = enT t) {Q : Nat → Nat → Int32} {n0 : Nat} (h240 : (l.flatMap clM).length ≤ 240) (hn : 2 * l.length ≤ 240) (hQ : ∀ i t, (l.flatMap clM)[i]? = some t → Q 6 (520 * n0 + i) = rcT t.1 ∧ Q 7 (520 * n0 + i) = t.2) (hZ : ZL n0 l Q) : LawM Q n0 (evC (l.flatMap clC).length c) := by
  refine ⟨l.length, by omega, hZ.1, fun i hi => ?_, fun g hg => ?_⟩
  · obtain ⟨x, hx⟩ : ∃ x, l[i]? = some x := ⟨l[i], List.getElem?_eq_getElem hi⟩
    obtain ⟨z1, z2, z3⟩ := hZ.2 i x hx
    have := ofL_le2 hx
    exact ⟨_, _, _, by omega, by omega, by omega, z1, z2, z3⟩
  · have hv := sem_lw hg 241 0 l hl
    rw [evQ_f (o := 0) l 0 (by omega) (fun j t e => by rw [Nat.add_zero]; exact hQ j t e) (fun j x e => by simp only [Nat.zero_add]; exact hZ.2 j x e) hv]
    unfold evC
    rw [ev_class l 0 (fun i t e => by rw [Nat.zero_add]; exact hc i t e) hv]
