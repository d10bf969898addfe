/-! feed -/
theorem upd_upd (f : Nat → Int32) (k : Nat) (x y : Int32) : upd (upd f k x) k y = upd f k y := by
  funext j; simp only [upd]; split <;> rfl
theorem upd_id {f : Nat → Int32} {k : Nat} {x : Int32} (h : f k = x) : upd f k x = f := by
  funext j; simp only [upd]; split
  · rename_i e; rw [e, h]
  · rfl
theorem updR_updR (R : Nat → Nat → Int32) (k : Nat) (f g : Nat → Int32) : updR (updR R k f) k g = updR R k g := by
  funext j; simp only [updR]; split <;> rfl
theorem updR_id {R : Nat → Nat → Int32} {k : Nat} {f : Nat → Int32} (h : R k = f) : updR R k f = R := by
  funext j; simp only [updR]; split
  · rename_i e; rw [e, h]
  · rfl
/-- the byte of a word at a shift -/
def byt (w s : Int32) : Int32 := ((Int32.toUInt32 w >>> (Int32.toUInt32 s &&& Int32.toUInt32 31)).toInt32) &&& 255
/-- signs laid one behind the other from a place on -/
def lay (f : Nat → Int32) (n : Nat) : List Int32 → (Nat → Int32)
  | [] => f
  | b :: bs => lay (upd f n b) (n + 1) bs
theorem lay_app (f : Nat → Int32) (n : Nat) (as bs : List Int32) : lay f n (as ++ bs) = lay (lay f n as) (n + as.length) bs := by
  induction as generalizing f n with
  | nil => rfl
  | cons a as ih => simp only [List.cons_append, lay, ih, List.length_cons]; congr 1; omega
def nz (b : Int32) : List Int32 := if b = 0 then [] else [b]
def by4 (w : Int32) : List Int32 := nz (byt w 24) ++ (nz (byt w 16) ++ (nz (byt w 8) ++ nz (byt w 0)))
def bAppend (a0 : Nat) (px1 : Int32) : (Int32 → St → Option (Unit × St)) → Int32 → St → Option (Unit × St) := fun l3 x1 t2 =>
    if x1 < 0 then
    some ((), t2)
  else
    nam (((Int32.toUInt32 px1 >>> (Int32.toUInt32 x1 &&& Int32.toUInt32 31)).toInt32) &&& 255 : Int32) (fun x4 =>
    jo1 (fun (t5 : St) =>
      l3 (x1 + (-8)) t5) (fun j6 =>
      if x4 = 0 then
        j6 t2
      else
        (gI 8 1 t2 a0).bind fun x7 =>
        if 240 ≤ x7 then
          j6 t2
        else
          (gR 8 0 t2 a0).bind fun a8 =>
          (gI 8 1 t2 a0).bind fun x9 =>
          (sI 0 t2 a8 x9 x4).bind (fun t10 =>
          (gI 8 1 t10 a0).bind fun x11 =>
          (pV 8 1 t10 a0 (.int (x11 + 1))).bind (fun t12 =>
          j6 t12))))
theorem fX8_append_eq (σ : St) (a0 : Nat) (w : Int32) : fX8_append σ a0 w = lo2 (bAppend a0 w) FU 24 σ := rfl
section
variable {A : Nat → Nat} {I : Nat → Int32} {R : Nat → Nat → Int32} {dr : Int64} {lw : Nat → Option Nat} {σ : St}
theorem c_app1 (h : CW A I R dr lw σ) {n : Nat} (hn : I 21 = nI n) (w s s' : Int32) (hs : ¬ s < 0) (hs' : s + (-8) = s') (hlt : n + (nz (byt w s)).length ≤ 240) (j : Int32 → St → Option (Unit × St)) : ∃ t, bAppend (A 1) w j s σ = j s' t ∧ CW A (upd I 21 (nI (n + (nz (byt w s)).length))) (updR R 2 (lay (R 2) n (nz (byt w s)))) dr lw t ∧ Sm (setC A) σ t := by
  unfold bAppend nam jo1
  rw [if_neg hs, hs']
  show ∃ t, (if byt w s = 0 then _ else _) = _ ∧ _
  by_cases hb : byt w s = 0
  · rw [if_pos hb]
    refine ⟨σ, rfl, ?_, Sm.rf⟩
    have e1 : nz (byt w s) = [] := by simp [nz, hb]
    rw [e1]
    show CW A (upd I 21 (nI (n + 0))) (updR R 2 (R 2)) dr lw σ
    rw [Nat.add_zero, upd_id hn, updR_id rfl]
    exact h
  · rw [if_neg hb]
    have e1 : nz (byt w s) = [byt w s] := by simp [nz, hb]
    rw [e1] at hlt
    have hlt' : n < 240 := by simp at hlt; omega
    have e2 : (I 21).toNatClampNeg = n := by rw [hn]; exact nI_clamp (by omega)
    have hin : inb (I 21) 240 := by
      rw [hn]; exact ⟨by rw [nI_toInt (by omega)]; omega, by rw [nI_toInt (by omega)]; omega⟩
    have h240 : ¬ (240 : Int32) ≤ I 21 := by
      rw [hn, Int32.le_iff_toInt_le, nI_toInt (by omega), show (240 : Int32).toInt = 240 from by decide]; omega
    rw [cr_1_1 h, Option.bind_some, if_neg h240, cr_1_0 h, Option.bind_some, Option.bind_some]
    obtain ⟨t1, q1, g1, s1⟩ := h.putA 2 (I 21) (byt w s) rfl (fun _ => rfl) hin
    rw [show ((Int32.toUInt32 w >>> (Int32.toUInt32 s &&& Int32.toUInt32 31)).toInt32) &&& 255 = byt w s from rfl, q1, Option.bind_some, cr_1_1 g1, Option.bind_some]
    obtain ⟨t2, q2, g2, s2⟩ := g1.putI 1 1 (I 21 + 1) rfl (by decide) rfl (Nat.le_of_ble_eq_true rfl) rfl
    rw [q2, Option.bind_some]
    refine ⟨t2, rfl, ?_, s1.tr s2⟩
    rw [e1]
    rw [e2, show I 21 + 1 = nI (n + 1) from by rw [hn, nI_1]] at g2
    exact g2
theorem c_append (h : CW A I R dr lw σ) {n : Nat} (hn : I 21 = nI n) (w : Int32) (hlt : n + (by4 w).length ≤ 240) : ∃ t, fX8_append σ (A 1) w = some ((), t) ∧ CW A (upd I 21 (nI (n + (by4 w).length))) (updR R 2 (lay (R 2) n (by4 w))) dr lw t ∧ Sm (setC A) σ t := by
  rw [fX8_append_eq, show FU = 19995 + 1 + 1 + 1 + 1 + 1 from rfl, lo2_s]
  unfold by4 at hlt ⊢
  simp only [List.length_append] at hlt ⊢
  obtain ⟨t1, e1, g1, s1⟩ := c_app1 h hn w 24 16 (by decide) (by decide) (by omega) (lo2 (bAppend (A 1) w) (19995 + 1 + 1 + 1 + 1))
  rw [e1, lo2_s]
  obtain ⟨t2, e2, g2, s2⟩ := c_app1 g1 (n := n + (nz (byt w 24)).length) (pk_us) w 16 8 (by decide) (by decide) (by omega) (lo2 (bAppend (A 1) w) (19995 + 1 + 1 + 1))
  rw [e2, lo2_s]
  obtain ⟨t3, e3, g3, s3⟩ := c_app1 g2 (n := n + (nz (byt w 24)).length + (nz (byt w 16)).length) (pk_us) w 8 0 (by decide) (by decide) (by omega) (lo2 (bAppend (A 1) w) (19995 + 1 + 1))
  rw [e3, lo2_s]
  obtain ⟨t4, e4, g4, s4⟩ := c_app1 g3 (n := n + (nz (byt w 24)).length + (nz (byt w 16)).length + (nz (byt w 8)).length) (pk_us) w 0 (-8) (by decide) (by decide) (by omega) (lo2 (bAppend (A 1) w) (19995 + 1))
  rw [e4, lo2_s]
  refine ⟨t4, by unfold bAppend; rw [if_pos (by decide)], ?_, s1.tr (s2.tr (s3.tr s4))⟩
  simp only [upd_upd, updR_updR, updR_s] at g4
  rw [lay_app, lay_app, lay_app]
  rw [show n + ((nz (byt w 24)).length + ((nz (byt w 16)).length + ((nz (byt w 8)).length + (nz (byt w 0)).length))) = n + (nz (byt w 24)).length + (nz (byt w 16)).length + (nz (byt w 8)).length + (nz (byt w 0)).length from by omega]
  exact g4
end
