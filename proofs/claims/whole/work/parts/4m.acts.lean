/-! acts, by the abstract state alone -/
theorem okC {d : Lnd} (ok : NoLd d ∨ LdOK d) : qC (dN d) ≤ 30 ∧ qT (dN d) ≤ 4 ∧ qU (dN d) ≤ 19999 ∧ (qC (dN d) = 0 → qT (dN d) = 0) ∧ (0 < qC (dN d) → LdOK d) ∧ (0 < qT (dN d) → LdOK d) := by
  rcases ok with n | ok
  · refine ⟨by rw [n.1]; omega, by rw [n.2.1]; omega, by rw [n.2.2.1]; omega, fun _ => n.2.1, fun q => ?_, fun q => ?_⟩
    · rw [n.1] at q; omega
    · rw [n.2.1] at q; omega
  · have okn : ScOK (dN d) := ok.1.1
    have h1 := okn.c30
    have h2 := okn.t
    exact ⟨h1.1, h2.2, okn.u, fun q => by omega, fun _ => ok, fun _ => ok⟩
theorem rngI {v : Int32} (lo hi : Nat) (hl : lo < 2 ^ 31) (hh : hi < 2 ^ 31) (h1 : ¬ v < nI lo) (h2 : ¬ nI hi < v) : ∃ j, lo ≤ j ∧ j ≤ hi ∧ v = nI j := by
  rw [Int32.lt_iff_toInt_lt, nI_toInt hl] at h1
  rw [Int32.lt_iff_toInt_lt, nI_toInt hh] at h2
  obtain ⟨j, hj, rfl⟩ := nI_of (x := v) (fun q => by rw [Int32.lt_iff_toInt_lt] at q; have : (0 : Int32).toInt = 0 := rfl; omega)
  rw [nI_toInt hj] at h1 h2
  exact ⟨j, by omega, by omega, rfl⟩
theorem oath_d : ∀ B, B < 16 → ∀ t, t < 4 → nI B ^^^ (1 <<< (nI t &&& 31)) = nI (B ^^^ 2 ^ t) ∧ (nI (B ^^^ 2 ^ t) >>> (nI t &&& 31)) &&& 1 = nI ((B ^^^ 2 ^ t) / 2 ^ t % 2) ∧ B ^^^ 2 ^ t < 16 := by decide +kernel
def shapeA (a : Abs) (v : Int32) (lim : Nat) (nw : Nat → Nat) : Int32 × Abs := match ix v (qC (dN a.2.2.2)) with
  | none => (-1, refA a 0)
  | some c => if qG (dN a.2.2.2) c = lim then (-1, refA a 2) else if 1 ≤ qK (dN a.2.2.2) then (nI (nw (qG (dN a.2.2.2) c)), setD a (setN (keepD a.2.2.2) (sG (sF (dN a.2.2.2) 5 (qK (dN a.2.2.2) - 1)) c (nw (qG (dN a.2.2.2) c))))) else (-1, refA a 3)
def mastA (a : Abs) (v : Int32) : Int32 × Abs := match ix v (qT (dN a.2.2.2)) with
  | none => (-1, refA a 0)
  | some t => if qM (dN a.2.2.2) t < 9 then (if 2 ≤ qK (dN a.2.2.2) then (nI (qM (dN a.2.2.2) t + 1), setD a (setN (keepD a.2.2.2) (sM (sF (dN a.2.2.2) 5 (qK (dN a.2.2.2) - 2)) t (qM (dN a.2.2.2) t + 1)))) else (-1, refA a 3)) else (-1, refA a 2)
def movesA (a : Abs) (v w : Int32) : Int32 × Abs := match ix v (qT (dN a.2.2.2)) with
  | none => (-1, refA a 0)
  | some t => (match ix w (qC (dN a.2.2.2)) with
    | none => (-1, refA a 1)
    | some c => if qP (dN a.2.2.2) t = c then (-1, refA a 2) else if 3 ≤ qK (dN a.2.2.2) then (nI (qP (dN a.2.2.2) t), setD a (setN (keepD a.2.2.2) (sP (sF (dN a.2.2.2) 5 (qK (dN a.2.2.2) - 3)) t c))) else (-1, refA a 3))
def fogA (a : Abs) (v : Int32) : Int32 × Abs := if qC (dN a.2.2.2) = 0 then (-1, refA a 0) else match ix v 10 with
  | none => (-1, refA a 1)
  | some f => if qF (dN a.2.2.2) = f then (-1, refA a 2) else (nI (qF (dN a.2.2.2)), setD a (setN (keepD a.2.2.2) (sF (dN a.2.2.2) 4 f)))
def oathA (a : Abs) (v : Int32) : Int32 × Abs := match ix v (qT (dN a.2.2.2)) with
  | none => (-1, refA a 0)
  | some t => (nI ((qB (dN a.2.2.2) ^^^ 2 ^ t) / 2 ^ t % 2), setD a (setN (keepD a.2.2.2) (sF (dN a.2.2.2) 7 (qB (dN a.2.2.2) ^^^ 2 ^ t))))
def giveA (a : Abs) (v : Int32) : Int32 × Abs := if qC (dN a.2.2.2) = 0 then (-1, refA a 0) else if v < 1 then (-1, refA a 1) else if 50 < v then (-1, refA a 1) else if qK (dN a.2.2.2) + v.toNatClampNeg ≤ 999 then (nI (qK (dN a.2.2.2) + v.toNatClampNeg), setD a (setN (keepD a.2.2.2) (sF (dN a.2.2.2) 5 (qK (dN a.2.2.2) + v.toNatClampNeg)))) else (-1, refA a 1)
def hrsD (L : Option LawF) : Nat → Lnd → Lnd
  | 0, d => d
  | k + 1, d => passD L (keepD (hrsD L k d))
def hoursA (a : Abs) (v : Int32) : Int32 × Abs := if qC (dN a.2.2.2) = 0 then (-1, refA a 0) else if v < 1 then (-1, refA a 1) else if 60 < v then (-1, refA a 1) else if qU (dN a.2.2.2) + v.toNatClampNeg ≤ 9999 then (nI (qU (dN a.2.2.2) + v.toNatClampNeg), setD a (hrsD (rul a.2.1) v.toNatClampNeg a.2.2.2)) else (-1, refA a 4)
/-! well formed stays well formed -/
theorem ScOK.sK {s : Scn} (h : ScOK s) {v : Nat} (hv : v ≤ 999) : ScOK (sF s 5 v) := ⟨h.1, h.2.1, h.2.2.1, h.2.2.2.1, h.2.2.2.2.1, hv, h.2.2.2.2.2.2.1, h.2.2.2.2.2.2.2.1, h.2.2.2.2.2.2.2.2⟩
theorem ScOK.sFo {s : Scn} (h : ScOK s) {v : Nat} (hv : v ≤ 9) : ScOK (sF s 4 v) := ⟨h.1, h.2.1, h.2.2.1, h.2.2.2.1, hv, h.2.2.2.2.2.1, h.2.2.2.2.2.2.1, h.2.2.2.2.2.2.2.1, h.2.2.2.2.2.2.2.2⟩
theorem ScOK.sB {s : Scn} (h : ScOK s) {v : Nat} (hv : v < 16) : ScOK (sF s 7 v) := ⟨h.1, h.2.1, h.2.2.1, h.2.2.2.1, h.2.2.2.2.1, h.2.2.2.2.2.1, h.2.2.2.2.2.2.1, hv, h.2.2.2.2.2.2.2.2⟩
theorem ScOK.sG {s : Scn} (h : ScOK s) (c : Nat) {v : Nat} (hv : v ≤ 9) : ScOK (sG s c v) := by
  refine ⟨h.1, h.2.1, h.2.2.1, h.2.2.2.1, h.2.2.2.2.1, h.2.2.2.2.2.1, h.2.2.2.2.2.2.1, h.2.2.2.2.2.2.2.1, fun i hi => ?_, h.2.2.2.2.2.2.2.2.2⟩
  show updN s.2.1 c v i ≤ 9
  unfold updN
  split
  · exact hv
  · exact h.g hi
theorem ScOK.sP {s : Scn} (h : ScOK s) (t : Nat) {v : Nat} (hv : v < qC s) : ScOK (sP s t v) := by
  refine ⟨h.1, h.2.1, h.2.2.1, h.2.2.2.1, h.2.2.2.2.1, h.2.2.2.2.2.1, h.2.2.2.2.2.2.1, h.2.2.2.2.2.2.2.1, h.2.2.2.2.2.2.2.2.1, fun i hi => ⟨?_, h.m hi, h.a hi⟩⟩
  show updN s.2.2.1 t v i < qC s
  unfold updN
  split
  · exact hv
  · exact h.p hi
theorem ScOK.sM {s : Scn} (h : ScOK s) (t : Nat) {v : Nat} (hv : v ≤ 9) : ScOK (sM s t v) := by
  refine ⟨h.1, h.2.1, h.2.2.1, h.2.2.2.1, h.2.2.2.2.1, h.2.2.2.2.2.1, h.2.2.2.2.2.2.1, h.2.2.2.2.2.2.2.1, h.2.2.2.2.2.2.2.2.1, fun i hi => ⟨h.p hi, ?_, h.a hi⟩⟩
  show updN s.2.2.2.1 t v i ≤ 9
  unfold updN
  split
  · exact hv
  · exact h.m hi
theorem LdOK.keep {d : Lnd} (ok : LdOK d) : LdOK (keepD d) ∧ ∃ e l, dA (keepD d) = e :: l ∧ qU e.1 = qU (dN (keepD d)) := by
  obtain ⟨h1, h2, h3, h4, h5, h6, h7⟩ := ok
  refine ⟨⟨h1, h2, fun e he => ?_, ?_, h5, h6, h7⟩, d.1, d.2.2.1.take 39, by show (d.1 :: d.2.2.1).take 40 = _; rw [List.take_succ_cons], rfl⟩
  · have he' : e ∈ d.1 :: d.2.2.1 := List.mem_of_mem_take he
    rcases List.mem_cons.mp he' with q | q
    · subst q; exact h1
    · exact h3 e q
  · exact chn_take 40 (l := d.1 :: d.2.2.1) ⟨Nat.le_refl _, Nat.le_succ _, h4⟩
theorem LdOK.set {d : Lnd} (ok : LdOK d) {s : Scn} (hs : ScOK s) (hm : SmL (dN d) s) (hu : qU s = qU (dN d)) (hl : qL s = qL (dN d)) : LdOK (setN d s) := by
  obtain ⟨h1, h2, h3, h4, h5, h6, h7⟩ := ok
  have my := hm.sy
  refine ⟨⟨hs, SmL.rf s, ?_, ?_⟩, ⟨h2.1, my.tr h2.2.1, h2.2.2⟩, fun e he => (h3 e he).mv my, ?_, fun e he => (h5 e he).mv my, fun k hk => ?_, fun k hk => ?_⟩
  · show qL s = qU s
    rw [hu, hl]; exact h1.2.2.1
  · show LgOK (qU s) _
    rw [hu]; exact h1.2.2.2
  · show chn (qU s) _
    rw [hu]; exact h4
  · show _ < qT s ∧ _ < qC s
    rw [hm.2.2.2.1, hm.2.2.1]; exact h6 k hk
  · show _ < qT s
    rw [hm.2.2.2.1]; exact h7 k hk
theorem LdOK.pass {d : Lnd} (ok : LdOK d) (L : Option LawF) (ht : ∃ e l, dA d = e :: l ∧ qU e.1 = qU (dN d)) (hU : qU (dN d) < 9999) : LdOK (passD L d) := by
  obtain ⟨h1, h2, h3, h4, h5, h6, h7⟩ := ok
  have okn : ScOK (dN d) := h1.1
  have oc := hidC (dN d) L okn
  have hm : SmL (passS (dN d)) (dN d) := ⟨rfl, rfl, rfl, rfl, fun _ _ => rfl⟩
  have hs : ScOK (passS (dN d)) := ⟨okn.1, okn.2.1, okn.2.2.1, okn.2.2.2.1, (show qF (dN d) - 1 ≤ 9 by have := okn.f; omega), (show min 999 (qK (dN d) + 1) ≤ 999 by omega), (show qU (dN d) + 1 ≤ 19999 by omega), okn.2.2.2.2.2.2.2.1, okn.2.2.2.2.2.2.2.2⟩
  refine ⟨⟨hs, SmL.rf _, rfl, ?_, ?_⟩, ⟨h2.1, hm.tr h2.2.1, h2.2.2⟩, fun e he => (h3 e he).mv hm, ?_, fun e he => (h5 e he).mv hm, h6, h7⟩
  · show ((_ :: dG d).take 60).length = min 60 (qU (dN d) + 1)
    have hlg : (dG d).length = min 60 (qU (dN d)) := h1.2.2.2.1
    rw [List.length_take, List.length_cons]; omega
  · intro e he
    rcases List.mem_cons.mp (List.mem_of_mem_take he) with q | q
    · subst q; exact ⟨oc, okn.2.2.2.2.2.2.2.1, okn.f⟩
    · exact h1.2.2.2.2 e q
  · obtain ⟨e, l, q, qu⟩ := ht
    show chn (qU (dN d) + 1) (dA d)
    rw [q] at h4 ⊢
    exact ⟨by omega, by omega, h4.2.2⟩
theorem AOK.ref {a : Abs} (h : AOK a) (k : Nat) : AOK (refA a k) := h
theorem AOK.setD {a : Abs} (h : AOK a) {d : Lnd} (hd : LdOK d) : AOK (setD a d) := ⟨h.1, Or.inr hd⟩
theorem shapeA_ok {a : Abs} (h : AOK a) (v : Int32) (lim : Nat) (nw : Nat → Nat) (hnw : ∀ g, g ≤ 9 → g ≠ lim → nw g ≤ 9) : AOK (shapeA a v lim nw).2 := by
  obtain ⟨h30, h4, _, _, hl, _⟩ := okC h.2
  unfold shapeA
  rcases ixc v (n := qC (dN a.2.2.2)) (by omega) with ⟨e, hn⟩ | ⟨c, hc, rfl, e⟩
  · rw [e]; exact h.ref 0
  · rw [e]
    have ok := hl (by omega)
    have okn : ScOK (dN a.2.2.2) := ok.1.1
    have oK : qK (dN a.2.2.2) ≤ 999 := okn.2.2.2.2.2.1
    show AOK (ite (α := Int32 × Abs) _ _ _).2
    split
    · exact h.ref 2
    · rename_i hne
      split
      · exact h.setD (ok.keep.1.set ((okn.sK (by omega)).sG c (hnw _ (okn.g hc) hne)) ⟨rfl, rfl, rfl, rfl, fun _ _ => rfl⟩ rfl rfl)
      · exact h.ref 3
theorem mastA_ok {a : Abs} (h : AOK a) (v : Int32) : AOK (mastA a v).2 := by
  obtain ⟨h30, h4, _, _, _, hl⟩ := okC h.2
  unfold mastA
  rcases ixc v (n := qT (dN a.2.2.2)) (by omega) with ⟨e, hn⟩ | ⟨c, hc, rfl, e⟩
  · rw [e]; exact h.ref 0
  · rw [e]
    have ok := hl (by omega)
    have okn : ScOK (dN a.2.2.2) := ok.1.1
    have oK : qK (dN a.2.2.2) ≤ 999 := okn.2.2.2.2.2.1
    show AOK (ite (α := Int32 × Abs) _ _ _).2
    split
    · split
      · exact h.setD (ok.keep.1.set ((okn.sK (by omega)).sM c (by omega)) ⟨rfl, rfl, rfl, rfl, fun _ _ => rfl⟩ rfl rfl)
      · exact h.ref 3
    · exact h.ref 2
theorem movesA_ok {a : Abs} (h : AOK a) (v w : Int32) : AOK (movesA a v w).2 := by
  obtain ⟨h30, h4, _, _, _, hl⟩ := okC h.2
  unfold movesA
  rcases ixc v (n := qT (dN a.2.2.2)) (by omega) with ⟨e, hn⟩ | ⟨t, ht, rfl, e⟩
  · rw [e]; exact h.ref 0
  · rw [e]
    have ok := hl (by omega)
    have okn : ScOK (dN a.2.2.2) := ok.1.1
    have oK : qK (dN a.2.2.2) ≤ 999 := okn.2.2.2.2.2.1
    rcases ixc w (n := qC (dN a.2.2.2)) (by omega) with ⟨e, hn⟩ | ⟨c, hc, rfl, e⟩
    · rw [e]; exact h.ref 1
    · rw [e]
      show AOK (ite (α := Int32 × Abs) _ _ _).2
      split
      · exact h.ref 2
      · split
        · exact h.setD (ok.keep.1.set ((okn.sK (by omega)).sP t hc) ⟨rfl, rfl, rfl, rfl, fun _ _ => rfl⟩ rfl rfl)
        · exact h.ref 3
theorem fogA_ok {a : Abs} (h : AOK a) (v : Int32) : AOK (fogA a v).2 := by
  obtain ⟨h30, h4, _, _, hl, _⟩ := okC h.2
  unfold fogA
  split
  · exact h.ref 0
  · have ok := hl (by omega)
    have okn : ScOK (dN a.2.2.2) := ok.1.1
    rcases ixc v (n := 10) (by omega) with ⟨e, hn⟩ | ⟨f, hf, rfl, e⟩
    · rw [e]; exact h.ref 1
    · rw [e]
      show AOK (ite (α := Int32 × Abs) _ _ _).2
      split
      · exact h.ref 2
      · exact h.setD (ok.keep.1.set (okn.sFo (by omega)) ⟨rfl, rfl, rfl, rfl, fun _ _ => rfl⟩ rfl rfl)
theorem oathA_ok {a : Abs} (h : AOK a) (v : Int32) : AOK (oathA a v).2 := by
  obtain ⟨h30, h4, _, _, _, hl⟩ := okC h.2
  unfold oathA
  rcases ixc v (n := qT (dN a.2.2.2)) (by omega) with ⟨e, hn⟩ | ⟨t, ht, rfl, e⟩
  · rw [e]; exact h.ref 0
  · rw [e]
    have ok := hl (by omega)
    have okn : ScOK (dN a.2.2.2) := ok.1.1
    exact h.setD (ok.keep.1.set (okn.sB (oath_d _ okn.2.2.2.2.2.2.2.1 t (by omega)).2.2) ⟨rfl, rfl, rfl, rfl, fun _ _ => rfl⟩ rfl rfl)
theorem giveA_ok {a : Abs} (h : AOK a) (v : Int32) : AOK (giveA a v).2 := by
  obtain ⟨h30, h4, _, _, hl, _⟩ := okC h.2
  unfold giveA
  split
  · exact h.ref 0
  · have ok := hl (by omega)
    have okn : ScOK (dN a.2.2.2) := ok.1.1
    split
    · exact h.ref 1
    · split
      · exact h.ref 1
      · split
        · rename_i q
          exact h.setD (ok.keep.1.set (okn.sK q) ⟨rfl, rfl, rfl, rfl, fun _ _ => rfl⟩ rfl rfl)
        · exact h.ref 1
theorem hrs_ok {d : Lnd} (ok : LdOK d) (L : Option LawF) : ∀ k, qU (dN d) + k ≤ 9999 → LdOK (hrsD L k d) ∧ qU (dN (hrsD L k d)) = qU (dN d) + k
  | 0, _ => ⟨ok, rfl⟩
  | k + 1, h => by
    obtain ⟨h1, h2⟩ := hrs_ok ok L k (by omega)
    obtain ⟨k1, k2⟩ := h1.keep
    refine ⟨k1.pass L k2 (by show qU (dN (hrsD L k d)) < 9999; omega), ?_⟩
    show qU (dN (hrsD L k d)) + 1 = _
    omega
theorem hoursA_ok {a : Abs} (h : AOK a) (v : Int32) : AOK (hoursA a v).2 := by
  obtain ⟨h30, h4, _, _, hl, _⟩ := okC h.2
  unfold hoursA
  split
  · exact h.ref 0
  · have ok := hl (by omega)
    split
    · exact h.ref 1
    · split
      · exact h.ref 1
      · split
        · rename_i q
          exact h.setD (hrs_ok ok _ _ q).1
        · exact h.ref 4
