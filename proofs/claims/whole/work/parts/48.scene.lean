/-! a scene by numbers: what class and reference hold alike -/
abbrev Scn : Type := (Nat → Nat) × (Nat → Nat) × (Nat → Nat) × (Nat → Nat) × (Nat → Nat)
abbrev qW (s : Scn) : Nat := s.1 0
abbrev qH (s : Scn) : Nat := s.1 1
abbrev qC (s : Scn) : Nat := s.1 2
abbrev qT (s : Scn) : Nat := s.1 3
abbrev qF (s : Scn) : Nat := s.1 4
abbrev qK (s : Scn) : Nat := s.1 5
abbrev qU (s : Scn) : Nat := s.1 6
abbrev qB (s : Scn) : Nat := s.1 7
abbrev qL (s : Scn) : Nat := s.1 8
abbrev qG (s : Scn) (i : Nat) : Nat := s.2.1 i
abbrev qP (s : Scn) (t : Nat) : Nat := s.2.2.1 t
abbrev qM (s : Scn) (t : Nat) : Nat := s.2.2.2.1 t
abbrev qA (s : Scn) (t : Nat) : Nat := s.2.2.2.2 t
def ScOK (s : Scn) : Prop := (2 ≤ qW s ∧ qW s ≤ 6) ∧ (2 ≤ qH s ∧ qH s ≤ 5) ∧ qC s = qW s * qH s ∧ (1 ≤ qT s ∧ qT s ≤ 4) ∧ qF s ≤ 9 ∧ qK s ≤ 999 ∧ qU s ≤ 19999 ∧ qB s < 16 ∧ (∀ i, i < qC s → qG s i ≤ 9) ∧ (∀ t, t < qT s → qP s t < qC s ∧ qM s t ≤ 9 ∧ qA s t ≤ 9)
theorem ScOK.c30 {s : Scn} (h : ScOK s) : qC s ≤ 30 ∧ 4 ≤ qC s := by
  obtain ⟨⟨h1, h2⟩, ⟨h3, h4⟩, h5, _⟩ := h
  rw [h5]
  exact ⟨Nat.mul_le_mul h2 h4, Nat.mul_le_mul h1 h3⟩
theorem ScOK.w {s : Scn} (h : ScOK s) : 2 ≤ qW s ∧ qW s ≤ 6 := h.1
theorem ScOK.r {s : Scn} (h : ScOK s) : 2 ≤ qH s ∧ qH s ≤ 5 := h.2.1
theorem ScOK.cw {s : Scn} (h : ScOK s) : qC s = qW s * qH s := h.2.2.1
theorem ScOK.t {s : Scn} (h : ScOK s) : 1 ≤ qT s ∧ qT s ≤ 4 := h.2.2.2.1
theorem ScOK.f {s : Scn} (h : ScOK s) : qF s ≤ 9 := h.2.2.2.2.1
theorem ScOK.u {s : Scn} (h : ScOK s) : qU s ≤ 19999 := h.2.2.2.2.2.2.1
theorem ScOK.g {s : Scn} (h : ScOK s) {i : Nat} (hi : i < qC s) : qG s i ≤ 9 := h.2.2.2.2.2.2.2.2.1 i hi
theorem ScOK.p {s : Scn} (h : ScOK s) {t : Nat} (ht : t < qT s) : qP s t < qC s := (h.2.2.2.2.2.2.2.2.2 t ht).1
theorem ScOK.m {s : Scn} (h : ScOK s) {t : Nat} (ht : t < qT s) : qM s t ≤ 9 := (h.2.2.2.2.2.2.2.2.2 t ht).2.1
theorem ScOK.a {s : Scn} (h : ScOK s) {t : Nat} (ht : t < qT s) : qA s t ≤ 9 := (h.2.2.2.2.2.2.2.2.2 t ht).2.2
def scB (b : Nat) : Prop := b = 11 ∨ b = 17 ∨ b = 23
def ScR (I : Nat → Int32) (R : Nat → Nat → Int32) (b : Nat) (s : Scn) : Prop := (∀ f, f < 9 → I (20 * b + f) = nI (s.1 f)) ∧ (∀ i, i < qC s → R (b + 1) i = nI (qG s i)) ∧ (∀ t, t < qT s → R (b + 2) t = nI (qP s t) ∧ R (b + 3) t = nI (qM s t) ∧ R (b + 4) t = nI (qA s t))
def SV (K : Cfg) (I : Nat → Int32) (R : Nat → Nat → Int32) (dr : Int64) (b : Nat) (s : Scn) (σ : St) : Prop := CV K I R dr σ ∧ scB b ∧ ScR I R b s ∧ ScOK s
section
variable {K : Cfg} {I : Nat → Int32} {R : Nat → Nat → Int32} {dr : Int64} {b : Nat} {s : Scn} {σ : St}
theorem v_O (h : SV K I R dr b s σ) : isO 7 σ (K.1 b) = true := by
  obtain ⟨hw, rfl | rfl | rfl, _⟩ := h
  · exact kO_11 hw
  · exact kO_17 hw
  · exact kO_23 hw
theorem v_wide (h : SV K I R dr b s σ) : gI 7 0 σ (K.1 b) = some (nI (qW s)) := by
  obtain ⟨hw, rfl | rfl | rfl, hs, _⟩ := h
  · exact (kr_11_0 hw).trans (congrArg some (hs.1 0 (by decide)))
  · exact (kr_17_0 hw).trans (congrArg some (hs.1 0 (by decide)))
  · exact (kr_23_0 hw).trans (congrArg some (hs.1 0 (by decide)))
theorem v_rows (h : SV K I R dr b s σ) : gI 7 1 σ (K.1 b) = some (nI (qH s)) := by
  obtain ⟨hw, rfl | rfl | rfl, hs, _⟩ := h
  · exact (kr_11_1 hw).trans (congrArg some (hs.1 1 (by decide)))
  · exact (kr_17_1 hw).trans (congrArg some (hs.1 1 (by decide)))
  · exact (kr_23_1 hw).trans (congrArg some (hs.1 1 (by decide)))
theorem v_cells (h : SV K I R dr b s σ) : gI 7 2 σ (K.1 b) = some (nI (qC s)) := by
  obtain ⟨hw, rfl | rfl | rfl, hs, _⟩ := h
  · exact (kr_11_2 hw).trans (congrArg some (hs.1 2 (by decide)))
  · exact (kr_17_2 hw).trans (congrArg some (hs.1 2 (by decide)))
  · exact (kr_23_2 hw).trans (congrArg some (hs.1 2 (by decide)))
theorem v_towers (h : SV K I R dr b s σ) : gI 7 3 σ (K.1 b) = some (nI (qT s)) := by
  obtain ⟨hw, rfl | rfl | rfl, hs, _⟩ := h
  · exact (kr_11_3 hw).trans (congrArg some (hs.1 3 (by decide)))
  · exact (kr_17_3 hw).trans (congrArg some (hs.1 3 (by decide)))
  · exact (kr_23_3 hw).trans (congrArg some (hs.1 3 (by decide)))
theorem v_fog (h : SV K I R dr b s σ) : gI 7 4 σ (K.1 b) = some (nI (qF s)) := by
  obtain ⟨hw, rfl | rfl | rfl, hs, _⟩ := h
  · exact (kr_11_4 hw).trans (congrArg some (hs.1 4 (by decide)))
  · exact (kr_17_4 hw).trans (congrArg some (hs.1 4 (by decide)))
  · exact (kr_23_4 hw).trans (congrArg some (hs.1 4 (by decide)))
theorem v_hour (h : SV K I R dr b s σ) : gI 7 6 σ (K.1 b) = some (nI (qU s)) := by
  obtain ⟨hw, rfl | rfl | rfl, hs, _⟩ := h
  · exact (kr_11_6 hw).trans (congrArg some (hs.1 6 (by decide)))
  · exact (kr_17_6 hw).trans (congrArg some (hs.1 6 (by decide)))
  · exact (kr_23_6 hw).trans (congrArg some (hs.1 6 (by decide)))
theorem v_ground (h : SV K I R dr b s σ) : gR 7 9 σ (K.1 b) = some (K.1 (b + 1)) := by
  obtain ⟨hw, rfl | rfl | rfl, _⟩ := h
  · exact kr_11_9 hw
  · exact kr_17_9 hw
  · exact kr_23_9 hw
theorem v_places (h : SV K I R dr b s σ) : gR 7 10 σ (K.1 b) = some (K.1 (b + 2)) := by
  obtain ⟨hw, rfl | rfl | rfl, _⟩ := h
  · exact kr_11_10 hw
  · exact kr_17_10 hw
  · exact kr_23_10 hw
theorem v_masts (h : SV K I R dr b s σ) : gR 7 11 σ (K.1 b) = some (K.1 (b + 3)) := by
  obtain ⟨hw, rfl | rfl | rfl, _⟩ := h
  · exact kr_11_11 hw
  · exact kr_17_11 hw
  · exact kr_23_11 hw
theorem v_lamps (h : SV K I R dr b s σ) : gR 7 12 σ (K.1 b) = some (K.1 (b + 4)) := by
  obtain ⟨hw, rfl | rfl | rfl, _⟩ := h
  · exact kr_11_12 hw
  · exact kr_17_12 hw
  · exact kr_23_12 hw
theorem v_letters (h : SV K I R dr b s σ) : gR 7 13 σ (K.1 b) = some (K.1 (b + 5)) := by
  obtain ⟨hw, rfl | rfl | rfl, _⟩ := h
  · exact kr_11_13 hw
  · exact kr_17_13 hw
  · exact kr_23_13 hw
theorem v_G (h : SV K I R dr b s σ) {i : Nat} (hi : i < qC s) : aI 0 σ (K.1 (b + 1)) (nI i) = some (nI (qG s i)) := by
  have h30 := h.2.2.2.c30
  obtain ⟨hw, rfl | rfl | rfl, hs, _⟩ := h
  · exact (ka_12 hw (by omega)).trans (congrArg some (hs.2.1 i hi))
  · exact (ka_18 hw (by omega)).trans (congrArg some (hs.2.1 i hi))
  · exact (ka_24 hw (by omega)).trans (congrArg some (hs.2.1 i hi))
theorem v_P (h : SV K I R dr b s σ) {t : Nat} (ht : t < qT s) : aI 0 σ (K.1 (b + 2)) (nI t) = some (nI (qP s t)) := by
  have h4 := h.2.2.2.t
  obtain ⟨hw, rfl | rfl | rfl, hs, _⟩ := h
  · exact (ka_13 hw (by omega)).trans (congrArg some (hs.2.2 t ht).1)
  · exact (ka_19 hw (by omega)).trans (congrArg some (hs.2.2 t ht).1)
  · exact (ka_25 hw (by omega)).trans (congrArg some (hs.2.2 t ht).1)
theorem v_M (h : SV K I R dr b s σ) {t : Nat} (ht : t < qT s) : aI 0 σ (K.1 (b + 3)) (nI t) = some (nI (qM s t)) := by
  have h4 := h.2.2.2.t
  obtain ⟨hw, rfl | rfl | rfl, hs, _⟩ := h
  · exact (ka_14 hw (by omega)).trans (congrArg some (hs.2.2 t ht).2.1)
  · exact (ka_20 hw (by omega)).trans (congrArg some (hs.2.2 t ht).2.1)
  · exact (ka_26 hw (by omega)).trans (congrArg some (hs.2.2 t ht).2.1)
theorem v_A (h : SV K I R dr b s σ) {t : Nat} (ht : t < qT s) : aI 0 σ (K.1 (b + 4)) (nI t) = some (nI (qA s t)) := by
  have h4 := h.2.2.2.t
  obtain ⟨hw, rfl | rfl | rfl, hs, _⟩ := h
  · exact (ka_15 hw (by omega)).trans (congrArg some (hs.2.2 t ht).2.2)
  · exact (ka_21 hw (by omega)).trans (congrArg some (hs.2.2 t ht).2.2)
  · exact (ka_27 hw (by omega)).trans (congrArg some (hs.2.2 t ht).2.2)
/-! answers of yes and no -/
def bI (b : Bool) : Int32 := if b then 1 else 0
theorem bI_0 {b : Bool} : bI b = 0 ↔ b = false := by cases b <;> decide
theorem bI_1 {b : Bool} : bI b = 1 ↔ b = true := by cases b <;> decide
theorem bI_01 (b : Bool) : bI b = 0 ∨ bI b = 1 := by cases b <;> decide
theorem Ok.toE {α : Type} {E : Option (α × St)} {v : α} {t : St} (h : Ok E (fun r u => r = v ∧ u = t)) : E = some (v, t) := by
  obtain ⟨r, u, e, rfl, rfl⟩ := h
  exact e
theorem v_hasCell (h : SV K I R dr b s σ) {v : Nat} (hv : v < 2 ^ 31) : fX7_hasCell σ (K.1 b) (nI v) = some (bI (decide (v < qC s)), σ) := by
  have h30 := h.2.2.2.c30
  unfold fX7_hasCell
  rw [if_neg (nI_pos hv), v_cells h, Option.bind_some]
  by_cases q : v < qC s
  · rw [if_neg (by rw [nI_leI (by omega) hv]; omega), decide_eq_true q]; rfl
  · rw [if_pos (by rw [nI_leI (by omega) hv]; omega), decide_eq_false q]; rfl
/-! the line between two cells -/
def fab (a b : Nat) : Nat := (a - b) + (b - a)
def plc (x y f i : Nat) : Nat := (2 * (x * f + i * y - i * x) + f) / (2 * f)
def qFar (s : Scn) (a c : Nat) : Nat := max (fab (c % qW s) (a % qW s)) (fab (c / qW s) (a / qW s))
def qOn (s : Scn) (a c i : Nat) : Nat := plc (a / qW s) (c / qW s) (qFar s a c) i * qW s + plc (a % qW s) (c % qW s) (qFar s a c) i
def clr (s : Scn) (a e r c : Nat) : Bool := decide (qF s ≤ qG s c ∧ qFar s a c ≤ r ∧ ∀ i, i < qFar s a c → 1 ≤ i → (qG s (qOn s a c i) : Int) * (qFar s a c : Int) ≤ (e : Int) * (qFar s a c : Int) + (i : Int) * ((qG s c : Int) - (e : Int)))
def plcB (x y f i : Nat) : Bool := i == 0 || decide (f ≤ i) || decide (f < fab y x) || (decide (((2 * ((nI x * nI f) + (nI i * (nI y - nI x)))) + nI f) / (2 * nI f) = nI (plc x y f i)) && decide (plc x y f i ≤ max x y))
theorem plc_d0 : ∀ x, x < 6 → ∀ y, y < 6 → ∀ f, f < 6 → ∀ i, i < 6 → plcB x y f i = true := by decide +kernel
theorem plc_d (x : Nat) (hx : x < 6) (y : Nat) (hy : y < 6) (f : Nat) (hf : f < 6) (i : Nat) (hi : i < f) (h1 : 1 ≤ i) (h2 : fab y x ≤ f) : ((2 * ((nI x * nI f) + (nI i * (nI y - nI x)))) + nI f) / (2 * nI f) = nI (plc x y f i) ∧ plc x y f i ≤ max x y := by
  have q := plc_d0 x hx y hy f hf i (by omega)
  simp only [plcB, Bool.or_eq_true, Bool.and_eq_true, decide_eq_true_eq, beq_iff_eq] at q
  rcases q with ((q | q) | q) | q
  · omega
  · omega
  · omega
  · exact q
theorem far_d : ∀ x, x < 6 → ∀ y, y < 6 → ∀ u, u < 5 → ∀ v, v < 5 → (if (if (0 : Int32) ≤ nI y - nI x then nI y - nI x else -(nI y - nI x)) < (if (0 : Int32) ≤ nI v - nI u then nI v - nI u else -(nI v - nI u)) then (if (0 : Int32) ≤ nI v - nI u then nI v - nI u else -(nI v - nI u)) else (if (0 : Int32) ≤ nI y - nI x then nI y - nI x else -(nI y - nI x))) = nI (max (fab y x) (fab v u)) ∧ max (fab y x) (fab v u) < 6 := by decide +kernel
theorem cnd_i {g f e i t : Nat} (hg : g ≤ 9) (hf : f ≤ 5) (he : e ≤ 18) (hi : i ≤ 5) (ht : t ≤ 9) : (nI g * nI f ≤ (nI e * nI f) + (nI i * (nI t - nI e))) ↔ (g : Int) * (f : Int) ≤ (e : Int) * (f : Int) + (i : Int) * ((t : Int) - (e : Int)) := by
  have b1 : g * f ≤ 9 * 5 := Nat.mul_le_mul hg hf
  have b2 : e * f ≤ 18 * 5 := Nat.mul_le_mul he hf
  have b3 : i * t ≤ 5 * 9 := Nat.mul_le_mul hi ht
  have b4 : i * e ≤ 5 * 18 := Nat.mul_le_mul hi he
  have e1 : (nI e * nI f) + (nI i * (nI t - nI e)) = nI (e * f + i * t) - nI (i * e) := by
    rw [← nI_add, ← pk_mul, ← pk_mul, ← pk_mul]
    grind
  rw [e1, pk_mul, Int32.le_iff_toInt_le, nI_toInt (by omega), pk_sub_toInt (by omega) (by omega), Int.mul_sub, ← Int.natCast_mul, ← Int.natCast_mul, ← Int.natCast_mul, ← Int.natCast_mul]
  omega
theorem cell_xy {s : Scn} (ok : ScOK s) {c : Nat} (hc : c < qC s) : c % qW s < qW s ∧ c / qW s < qH s := by
  have := ok.w
  refine ⟨Nat.mod_lt _ (by omega), ?_⟩
  rw [ok.cw] at hc
  exact Nat.div_lt_of_lt_mul hc
theorem qFar_lt {s : Scn} (ok : ScOK s) {a c : Nat} (ha : a < qC s) (hc : c < qC s) : qFar s a c < 6 := by
  have h1 := cell_xy ok ha
  have h2 := cell_xy ok hc
  have h3 := ok.w
  have h4 := ok.r
  exact (far_d _ (by omega) _ (by omega) _ (by omega) _ (by omega)).2
theorem qOn_lt {s : Scn} (ok : ScOK s) {a c i : Nat} (ha : a < qC s) (hc : c < qC s) (h1 : 1 ≤ i) (hi : i < qFar s a c) : qOn s a c i < qC s := by
  have a1 := cell_xy ok ha
  have a2 := cell_xy ok hc
  have h3 := ok.w
  have h4 := ok.r
  have hf := qFar_lt ok ha hc
  have p1 := (plc_d (a % qW s) (by omega) (c % qW s) (by omega) (qFar s a c) hf i hi h1 (by unfold qFar; omega)).2
  have p2 := (plc_d (a / qW s) (by omega) (c / qW s) (by omega) (qFar s a c) hf i hi h1 (by unfold qFar; omega)).2
  unfold qOn
  have p3 : plc (a / qW s) (c / qW s) (qFar s a c) i + 1 ≤ qH s := by omega
  have p4 : plc (a % qW s) (c % qW s) (qFar s a c) i < qW s := by omega
  have p5 : (plc (a / qW s) (c / qW s) (qFar s a c) i + 1) * qW s ≤ qH s * qW s := Nat.mul_le_mul_right _ p3
  rw [Nat.add_mul, Nat.one_mul] at p5
  rw [ok.cw, Nat.mul_comm (qW s)]
  omega
def bClear (a0 : Nat) (px2 x2 x6 x8 x10 x12 x17 : Int32) : (Int32 → St → Option (Int32 × St)) → Int32 → St → Option (Int32 × St) := fun l21 x19 t20 =>
          if x17 ≤ x19 then
          some (1, t20)
        else
          if 2 * x17 = 0 then none else
          nam (((2 * ((x6 * x17) + (x19 * x10))) + x17) / (2 * x17) : Int32) (fun x22 =>
          if 2 * x17 = 0 then none else
          nam (((2 * ((x8 * x17) + (x19 * x12))) + x17) / (2 * x17) : Int32) (fun x23 =>
          (gI 7 0 t20 a0).bind fun x24 =>
          nam ((x23 * x24) + x22 : Int32) (fun x25 =>
          bo 7 t20 a0 (fX7_hasCell t20 a0 x25) (fun x26 t27 =>
          jo1 (fun (u27 : Unit) =>
            l21 (x19 + 1) t27) (fun j28 =>
            if x26 = 0 then
              j28 () 
            else
              (gR 7 9 t27 a0).bind fun a29 =>
              (aI 0 t27 a29 x25).bind fun x30 =>
              if x30 * x17 ≤ (px2 * x17) + (x19 * (x2 - px2)) then
                j28 () 
              else
                some (0, t27))))))
theorem v_clr_loop (h : SV K I R dr b s σ) {a e r c : Nat} (ha : a < qC s) (hc : c < qC s) (he : e ≤ 18) (h1 : qF s ≤ qG s c) (h2 : qFar s a c ≤ r) : lo2 (bClear (K.1 b) (nI e) (nI (qG s c)) (nI (a % qW s)) (nI (a / qW s)) (nI (c % qW s) - nI (a % qW s)) (nI (c / qW s) - nI (a / qW s)) (nI (qFar s a c))) FU 1 σ = some (bI (clr s a e r c), σ) := by
  have ok := h.2.2.2
  have hf := qFar_lt ok ha hc
  have a1 := cell_xy ok ha
  have a2 := cell_xy ok hc
  have h3 := ok.w
  have h4 := ok.r
  have h30 := ok.c30
  have hgc := ok.g hc
  by_cases h0 : qFar s a c = 0
  · rw [h0, show FU = 19999 + 1 from rfl, lo2_s]
    unfold bClear
    rw [if_pos (by decide)]
    have : clr s a e r c = true := by
      unfold clr
      rw [h0]
      exact decide_eq_true ⟨h1, by omega, fun i hi => by omega⟩
    rw [this]; rfl
  refine Ok.toE (Ok.f2 (qFar s a c) 1 (fun k x t => x = nI k ∧ t = σ ∧ 1 ≤ k ∧ ∀ i, i < k → 1 ≤ i → (qG s (qOn s a c i) : Int) * (qFar s a c : Int) ≤ (e : Int) * (qFar s a c : Int) + (i : Int) * ((qG s c : Int) - (e : Int))) (by omega) (by omega) ⟨rfl, rfl, by omega, fun i hi hi1 => by omega⟩ ?_ ?_)
  · rintro j k x t hk ⟨rfl, rfl, hk1, hi⟩ hj
    have q2 : ¬ (2 * nI (qFar s a c) = 0) := by
      rw [show (2 : Int32) = nI 2 from rfl, pk_mul]; exact nI_ne0 (by omega) (by omega)
    have p1 := (plc_d (a % qW s) (by omega) (c % qW s) (by omega) (qFar s a c) hf k hk hk1 (by unfold qFar; exact Nat.le_max_left _ _)).1
    have p2 := (plc_d (a / qW s) (by omega) (c / qW s) (by omega) (qFar s a c) hf k hk hk1 (by unfold qFar; exact Nat.le_max_right _ _)).1
    have hon := qOn_lt ok ha hc hk1 hk
    refine Ok.bF (by rw [nI_leI (by omega) (by omega)]; omega) (Ok.bF q2 (Ok.nE p1 (Ok.bF q2 (Ok.nE p2 (Ok.r (v_wide h) (Ok.nE (e' := nI (qOn s a c k)) (by rw [pk_mul, nI_add]; rfl) (Ok.vE (v_O h) (v_hasCell h (by omega)) ?_)))))))
    rw [decide_eq_true hon]
    refine Ok.j1 (Ok.bF (by decide) (Ok.r (v_ground h) (Ok.r (v_G h hon) (Ok.bI (cnd_i (ok.g hon) (by omega) he (by omega) hgc) (fun hl => ?_) (fun hl => ?_)))))
    · rw [nI_1]
      refine hj _ _ ⟨rfl, rfl, by omega, fun i hi' hi1 => ?_⟩
      by_cases q : i = k
      · subst q; exact hl
      · exact hi i (by omega) hi1
    · refine Ok.p ⟨?_, rfl⟩
      have : clr s a e r c = false := by
        unfold clr
        exact decide_eq_false (fun z => hl (z.2.2 k hk hk1))
      rw [this]; rfl
  · rintro j x t ⟨rfl, rfl, hk1, hi⟩
    refine Ok.bT (nI_le (Nat.le_refl _) (by omega)) (Ok.p ⟨?_, rfl⟩)
    have : clr s a e r c = true := by
      unfold clr
      exact decide_eq_true ⟨h1, h2, hi⟩
    rw [this]; rfl
theorem v_isClear (h : SV K I R dr b s σ) {a e r c : Nat} (ha : a < qC s) (hc : c < qC s) (he : e ≤ 18) (hr : r ≤ 9) : fX7_isClear σ (K.1 b) (nI a) (nI e) (nI r) (nI c) = some (bI (clr s a e r c), σ) := by
  have ok := h.2.2.2
  have hf := qFar_lt ok ha hc
  have a1 := cell_xy ok ha
  have a2 := cell_xy ok hc
  have h3 := ok.w
  have h4 := ok.r
  have h30 := ok.c30
  have hgc := ok.g hc
  have hfg := ok.f
  have w0 : ¬ (nI (qW s) = 0) := nI_ne0 (by omega) (by omega)
  have ra := pk_rem (a := a) (d := qW s) (by omega) (by omega) (by omega)
  have rc := pk_rem (a := c) (d := qW s) (by omega) (by omega) (by omega)
  have da := pk_div (a := a) (d := qW s) (by omega) (by omega) (by omega)
  have dc := pk_div (a := c) (d := qW s) (by omega) (by omega) (by omega)
  refine Ok.toE ?_
  unfold fX7_isClear
  refine Ok.r (v_ground h) (Ok.r (v_G h hc) (Ok.r (v_fog h) (Ok.bI (nI_ltI (by omega) (by omega)) (fun h1 => ?_) (fun h1 => ?_))))
  · refine Ok.p ⟨?_, rfl⟩
    have : clr s a e r c = false := by
      unfold clr
      exact decide_eq_false (fun z => absurd z.1 (by omega))
    rw [this]; rfl
  · refine Ok.r (v_wide h) (Ok.bT (show (1 : Int32) ≤ nI (qW s) from nI_le (a := 1) (by omega) (by omega)) ?_)
    refine Ok.r (v_wide h) (Ok.bF w0 (Ok.nE ra (Ok.r (v_wide h) (Ok.bF w0 (Ok.nE da (Ok.r (v_wide h) (Ok.bF w0 (Ok.nE (congrArg (· - nI (a % qW s)) rc) (Ok.r (v_wide h) (Ok.bF w0 (Ok.nE (congrArg (· - nI (a / qW s)) dc) ?_)))))))))))
    refine Ok.cE (f_abs _ _) (Ok.cE (f_abs _ _) (Ok.cE ((f_max _ _ _).trans (congrArg (fun z => some (z, σ)) (far_d (a % qW s) (by omega) (c % qW s) (by omega) (a / qW s) (by omega) (c / qW s) (by omega)).1)) ?_))
    refine Ok.bI (nI_leI (a := qFar s a c) (by omega) (by omega)) (fun h2 => ?_) (fun h2 => ?_)
    · exact Ok.of (v_clr_loop h ha hc he (by omega) h2) ⟨rfl, rfl⟩
    · refine Ok.p ⟨?_, rfl⟩
      have : clr s a e r c = false := by
        unfold clr
        exact decide_eq_false (fun z => h2 z.2.1)
      rw [this]; rfl
end
