/-! feed of the reference -/
def wd5 (a b c d e : Int32) (q : Nat) : Int32 := if q < 4 then a else if q < 8 then b else if q < 12 then c else if q < 16 then d else e
def bq (a b c d e : Int32) (q : Nat) : Int32 := byt (wd5 a b c d e q) (nI (24 - 8 * (q % 4)))
theorem sh24 : ∀ q, q < 4 → (24 : Int32) - 8 * nI q = nI (24 - 8 * q) := by decide +kernel
theorem m_byteOf (σ : St) (a b c d e : Int32) {q : Nat} (hq : q < 20) : fX10_byteOf σ a b c d e (nI q) = some (bq a b c d e q, σ) := by
  have er : nI q - nI q / 4 * 4 = nI (q % 4) := pk_rem (d := 4) (by omega) (by omega) (by omega)
  have key : ∀ w : Int32, (w >>> ((24 - (8 * (nI q - nI q / 4 * 4))) &&& 31)) &&& 255 = byt w (nI (24 - 8 * (q % 4))) := by
    intro w
    rw [er, sh24 _ (Nat.mod_lt _ (by omega))]
    exact byt_sshr w (by omega)
  unfold fX10_byteOf jo1 bq wd5
  simp only [key]
  rw [show (4 : Int32) = nI 4 from rfl, show (8 : Int32) = nI 8 from rfl, show (12 : Int32) = nI 12 from rfl, show (16 : Int32) = nI 16 from rfl]
  simp only [nI_leI (show 4 < 2 ^ 31 by decide) (show q < 2 ^ 31 by omega), nI_leI (show 8 < 2 ^ 31 by decide) (show q < 2 ^ 31 by omega), nI_leI (show 12 < 2 ^ 31 by decide) (show q < 2 ^ 31 by omega), nI_leI (show 16 < 2 ^ 31 by decide) (show q < 2 ^ 31 by omega)]
  by_cases h4 : q < 4
  · rw [if_neg (by omega), if_pos h4]; simp
  · by_cases h8 : q < 8
    · rw [if_pos (by omega), if_neg (by omega), if_neg h4, if_pos h8]; simp
    · by_cases h12 : q < 12
      · rw [if_pos (by omega), if_pos (by omega), if_neg (by omega), if_neg h4, if_neg h8, if_pos h12]; simp
      · by_cases h16 : q < 16
        · rw [if_pos (by omega), if_pos (by omega), if_pos (by omega), if_neg (by omega), if_neg h4, if_neg h8, if_neg h12, if_pos h16]; simp
        · rw [if_pos (by omega), if_pos (by omega), if_pos (by omega), if_pos (by omega), if_neg h4, if_neg h8, if_neg h12, if_neg h16]; simp
def lst (a b c d e : Int32) : Nat → List Int32
  | 0 => []
  | q + 1 => lst a b c d e q ++ nz (bq a b c d e q)
theorem lst20 (a b c d e : Int32) : lst a b c d e 20 = by20 a b c d e := by
  simp only [lst, by20, by4, List.append_assoc, List.nil_append]
  rfl
theorem lst_le (a b c d e : Int32) : ∀ q, (lst a b c d e q).length ≤ q := by
  intro q
  induction q with
  | zero => exact Nat.le_refl _
  | succ q ih =>
    have : (nz (bq a b c d e q)).length ≤ 1 := by unfold nz; split <;> simp
    simp only [lst, List.length_append]
    omega
section
variable {B : Nat → Nat} {J : Nat → Int32} {Q : Nat → Nat → Int32} {dr : Int64} {σ : St}
def bF2 (a0 : Nat) (px1 px2 px3 px4 px5 : Int32) : (Int32 → St → Option (Int32 × St)) → Int32 → St → Option (Int32 × St) := fun l8 x6 t7 =>
        if 20 ≤ x6 then
        (gI 10 2 t7 a0).bind fun x9 =>
        some (x9, t7)
      else
        bd (fX10_byteOf t7 px1 px2 px3 px4 px5 x6) (fun x10 t11 =>
        jo1 (fun (t12 : St) =>
          l8 (x6 + 1) t12) (fun j13 =>
          if x10 = 0 then
            j13 t11
          else
            (gR 10 1 t11 a0).bind fun a14 =>
            (gI 10 2 t11 a0).bind fun x15 =>
            (sI 0 t11 a14 x15 x10).bind (fun t16 =>
            (gI 10 2 t16 a0).bind fun x17 =>
            (pV 10 2 t16 a0 (.int (x17 + 1))).bind (fun t18 =>
            j13 t18))))
def bF1 (a0 : Nat) (px1 px2 px3 px4 px5 : Int32) : (Int32 → Int32 → St → Option (Int32 × St)) → Int32 → Int32 → St → Option (Int32 × St) := fun l4 x1 x2 t3 =>
    if 20 ≤ x2 then
    (gI 10 2 t3 a0).bind fun x5 =>
    if x5 + x1 ≤ 240 then
      lo2 (bF2 a0 px1 px2 px3 px4 px5) FU 0 t3
    else
      some ((-1), t3)
  else
    bd (fX10_byteOf t3 px1 px2 px3 px4 px5 x2) (fun x19 t20 =>
    jo2 (fun (v21 : Int32) (v22 : Int32) =>
      nam (v22 + v21 : Int32) (fun x24 =>
      l4 x24 (x2 + 1) t20)) (fun j23 =>
      if x19 = 0 then
        j23 0 x1
      else
        j23 1 x1))
theorem fX10_feed_eq (σ : St) (a0 : Nat) (v1 v2 v3 v4 v5 : Int32) : fX10_feed σ a0 v1 v2 v3 v4 v5 = lo3 (bF1 a0 v1 v2 v3 v4 v5) FU 0 0 σ := rfl
theorem m_feed2 (h : MW B J Q dr σ) {n : Nat} (hn : J 2 = nI n) (v1 v2 v3 v4 v5 : Int32) {K : List Int32} (hK : lst v1 v2 v3 v4 v5 20 = K) (hc : n + K.length ≤ 240) : ∃ r, lo2 (bF2 (B 0) v1 v2 v3 v4 v5) FU 0 σ = some r ∧ (r.1 = nI (n + K.length) ∧ MW B (upd J 2 (nI (n + K.length))) (updR Q 1 (lay (Q 1) n K)) dr r.2 ∧ Sm (setM B) σ r.2) := by
  have mono : ∀ q, q ≤ 20 → (lst v1 v2 v3 v4 v5 q).length ≤ K.length := by
    intro q hq
    obtain ⟨d, hd⟩ : ∃ d, q + d = 20 := ⟨20 - q, by omega⟩
    rw [← hK, ← hd]
    clear hd hq hc hK
    induction d with
    | zero => exact Nat.le_refl _
    | succ d ih => rw [← Nat.add_assoc]; simp only [lst, List.length_append]; omega
  refine lo2_run (fun d x t => ∃ q, q ≤ 20 ∧ d = 20 - q ∧ x = nI q ∧ MW B (upd J 2 (nI (n + (lst v1 v2 v3 v4 v5 q).length))) (updR Q 1 (lay (Q 1) n (lst v1 v2 v3 v4 v5 q))) dr t ∧ Sm (setM B) σ t) _ ?_ 20 0 σ ⟨0, by omega, rfl, rfl, ?_, Sm.rf⟩ FU (by decide)
  · rintro j d x t ⟨q, hq, rfl, rfl, hw, hs⟩
    unfold bF2
    by_cases h20 : q = 20
    · left
      subst h20
      rw [hK] at hw
      rw [if_pos (by decide), mr_0_2 hw, Option.bind_some]
      exact ⟨(upd J 2 (nI (n + K.length)) 2, t), rfl, (pk_us : upd J 2 (nI (n + K.length)) 2 = nI (n + K.length)), hw, hs⟩
    · right
      have hq' : q < 20 := by omega
      have hm := mono (q + 1) (by omega)
      rw [if_neg (by rw [show (20 : Int32) = nI 20 from rfl, nI_leI (by omega) (by omega)]; omega), m_byteOf t v1 v2 v3 v4 v5 hq', bd_some]
      simp only [jo1]
      by_cases hb : bq v1 v2 v3 v4 v5 q = 0
      · refine ⟨20 - (q + 1), nI (q + 1), t, by omega, ⟨q + 1, by omega, rfl, rfl, ?_, hs⟩, ?_⟩
        · simp only [lst, nz, hb, if_true, List.append_nil]; exact hw
        · rw [if_pos hb, nI_1]
      · have e1 : lst v1 v2 v3 v4 v5 (q + 1) = lst v1 v2 v3 v4 v5 q ++ [bq v1 v2 v3 v4 v5 q] := by simp [lst, nz, hb]
        rw [e1, List.length_append, List.length_singleton] at hm
        have eJ : upd J 2 (nI (n + (lst v1 v2 v3 v4 v5 q).length)) 2 = nI (n + (lst v1 v2 v3 v4 v5 q).length) := pk_us
        have hin : inb (nI (n + (lst v1 v2 v3 v4 v5 q).length)) 240 := ⟨by rw [nI_toInt (by omega)]; omega, by rw [nI_toInt (by omega)]; omega⟩
        rw [if_neg hb, mr_0_1 hw, Option.bind_some, mr_0_2 hw, Option.bind_some, eJ]
        obtain ⟨t1, q1, g1, s1⟩ := hw.putA 1 (nI (n + (lst v1 v2 v3 v4 v5 q).length)) (bq v1 v2 v3 v4 v5 q) rfl (fun _ => rfl) hin
        rw [q1, Option.bind_some, mr_0_2 g1, Option.bind_some, eJ]
        obtain ⟨t2, q2, g2, s2⟩ := g1.putI 0 2 (nI (n + (lst v1 v2 v3 v4 v5 q).length) + 1) rfl (by decide) rfl (Nat.le_of_ble_eq_true rfl) rfl
        rw [q2, Option.bind_some]
        refine ⟨20 - (q + 1), nI (q + 1), t2, by omega, ⟨q + 1, by omega, rfl, rfl, ?_, hs.tr (s1.tr s2)⟩, by rw [nI_1]⟩
        rw [e1, lay_app, List.length_append, List.length_singleton]
        simp only [updR_updR, updR_s] at g2
        rw [nI_clamp (by omega), nI_1] at g2
        rw [show (50 * 0 + 2) = 2 from rfl, upd_upd] at g2
        exact g2
  · simp only [lst, lay, List.length_nil, Nat.add_zero]
    rw [upd_id hn, updR_id rfl]
    exact h
theorem m_feed (h : MW B J Q dr σ) {n : Nat} (hn : J 2 = nI n) (hle : n ≤ 240) (v1 v2 v3 v4 v5 : Int32) :
    ∃ t, fX10_feed σ (B 0) v1 v2 v3 v4 v5 = some (if n + (by20 v1 v2 v3 v4 v5).length ≤ 240 then nI (n + (by20 v1 v2 v3 v4 v5).length) else -1, t) ∧ MW B (if n + (by20 v1 v2 v3 v4 v5).length ≤ 240 then upd J 2 (nI (n + (by20 v1 v2 v3 v4 v5).length)) else J) (if n + (by20 v1 v2 v3 v4 v5).length ≤ 240 then updR Q 1 (lay (Q 1) n (by20 v1 v2 v3 v4 v5)) else Q) dr t ∧ Sm (setM B) σ t := by
  have hl20 := lst_le v1 v2 v3 v4 v5 20
  have hK := lst20 v1 v2 v3 v4 v5
  rw [hK] at hl20
  generalize by20 v1 v2 v3 v4 v5 = K at hK hl20 ⊢
  obtain ⟨r, e, hr⟩ : ∃ r, lo3 (bF1 (B 0) v1 v2 v3 v4 v5) FU 0 0 σ = some r ∧ (if n + K.length ≤ 240 then (r.1 = nI (n + K.length) ∧ MW B (upd J 2 (nI (n + K.length))) (updR Q 1 (lay (Q 1) n K)) dr r.2 ∧ Sm (setM B) σ r.2) else r.1 = -1 ∧ r.2 = σ) := by
    refine lo3_run (fun d x y t => ∃ q, q ≤ 20 ∧ d = 20 - q ∧ y = nI q ∧ x = nI (lst v1 v2 v3 v4 v5 q).length ∧ t = σ) _ ?_ 20 0 0 σ ⟨0, by omega, rfl, rfl, rfl, rfl⟩ FU (by decide)
    rintro j d x y t ⟨q, hq, rfl, rfl, rfl, rfl⟩
    have hl := lst_le v1 v2 v3 v4 v5 q
    unfold bF1
    by_cases h20 : q = 20
    · left
      subst h20
      rw [hK] at hl ⊢
      rw [if_pos (by decide), mr_0_2 h, Option.bind_some]
      have ec : (J 2 + nI K.length ≤ 240) ↔ n + K.length ≤ 240 := by
        rw [hn, nI_add, show (240 : Int32) = nI 240 from rfl, nI_leI (by omega) (by omega)]
      by_cases hc : n + K.length ≤ 240
      · rw [if_pos (ec.mpr hc)]
        simp only [if_pos hc]
        exact m_feed2 h hn v1 v2 v3 v4 v5 hK hc
      · rw [if_neg (fun z => hc (ec.mp z))]
        simp only [if_neg hc]
        exact ⟨_, rfl, rfl, rfl⟩
    · right
      have hq' : q < 20 := by omega
      rw [if_neg (by rw [show (20 : Int32) = nI 20 from rfl, nI_leI (by omega) (by omega)]; omega), m_byteOf t v1 v2 v3 v4 v5 hq', bd_some]
      refine ⟨20 - (q + 1), nI (lst v1 v2 v3 v4 v5 (q + 1)).length, nI (q + 1), t, by omega, ⟨q + 1, by omega, rfl, rfl, rfl, rfl⟩, ?_⟩
      simp only [jo2, nam]
      by_cases hb : bq v1 v2 v3 v4 v5 q = 0
      · rw [if_pos hb, nI_1, show (0 : Int32) = nI 0 from rfl, nI_add]
        simp [lst, nz, hb]
      · rw [if_neg hb, nI_1, nI_1]
        simp [lst, nz, hb]
  rw [fX10_feed_eq]
  refine ⟨r.2, ?_⟩
  by_cases hc : n + K.length ≤ 240
  · rw [if_pos hc] at hr
    rw [if_pos hc, if_pos hc, if_pos hc, e]
    exact ⟨by rw [← hr.1], hr.2⟩
  · rw [if_neg hc] at hr
    rw [if_neg hc, if_neg hc, if_neg hc, e]
    refine ⟨by rw [← hr.1], ?_⟩
    rw [hr.2]
    exact ⟨h, Sm.rf⟩
end
