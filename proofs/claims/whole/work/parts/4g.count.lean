/-! Integer.bitCount counts the ones of a mask -/
theorem bt_nI (A : Nat) {i : Nat} (hi : i < 32) : bt (nI A) i = A.testBit i := by
  unfold bt
  show (BitVec.ofNat 32 A).getLsbD i = _
  rw [BitVec.getLsbD_ofNat]
  simp [hi]
theorem ushr_nI {A : Nat} (hA : A < 2 ^ 32) (k : Nat) (hk : k < 32) : ((Int32.toUInt32 (nI A) >>> (Int32.toUInt32 (nI k) &&& Int32.toUInt32 31)).toInt32) = nI (A / 2 ^ k) := by
  apply b_ext
  intro i hi
  rw [b_ushr k hk (nI A) i, bt_nI _ hi, Nat.testBit_div_two_pow, Nat.add_comm]
  rcases Nat.lt_or_ge (i + k) 32 with h | h
  · rw [bt_nI _ h]
  · rw [b_big (by omega)]
    exact (Nat.testBit_lt_two_pow (Nat.lt_of_lt_of_le hA (Nat.pow_le_pow_right (by decide) (by omega)))).symm
def pcN (A : Nat) : Nat :=
  let a1 := A - ((A / 2) &&& 1431655765)
  let a2 := (a1 &&& 858993459) + ((a1 / 4) &&& 858993459)
  let a3 := (a2 + a2 / 16) &&& 252645135
  let a4 := a3 + a3 / 256
  let a5 := a4 + a4 / 65536
  a5 &&& 63
theorem bitC_N {A : Nat} (hA : A < 2 ^ 32) : bitC (nI A) = nI (pcN A) := by
  have e0 : bitC (nI A) = (fun x1 : Int32 => (fun x2 : Int32 => (fun x3 : Int32 => (fun x4 : Int32 => (fun x5 : Int32 => x5 &&& 63) (x4 + ((Int32.toUInt32 x4 >>> (Int32.toUInt32 (nI 16) &&& Int32.toUInt32 31)).toInt32))) (x3 + ((Int32.toUInt32 x3 >>> (Int32.toUInt32 (nI 8) &&& Int32.toUInt32 31)).toInt32))) ((x2 + ((Int32.toUInt32 x2 >>> (Int32.toUInt32 (nI 4) &&& Int32.toUInt32 31)).toInt32)) &&& nI 252645135)) ((x1 &&& nI 858993459) + (((Int32.toUInt32 x1 >>> (Int32.toUInt32 (nI 2) &&& Int32.toUInt32 31)).toInt32) &&& nI 858993459))) (nI A - (((Int32.toUInt32 (nI A) >>> (Int32.toUInt32 (nI 1) &&& Int32.toUInt32 31)).toInt32) &&& nI 1431655765)) := rfl
  rw [e0]
  have l1 : (A / 2 ^ 1) &&& 1431655765 ≤ A := Nat.le_trans Nat.and_le_left (by omega)
  rw [ushr_nI hA 1 (by decide), fa_and, pk_sub l1]
  generalize h1 : A - (A / 2 ^ 1 &&& 1431655765) = a1
  have b1 : a1 < 2 ^ 32 := by omega
  simp only []
  rw [ushr_nI b1 2 (by decide), fa_and, fa_and, nI_add]
  have l2 : a1 &&& 858993459 ≤ 858993459 := Nat.and_le_right
  have l3 : a1 / 2 ^ 2 &&& 858993459 ≤ 858993459 := Nat.and_le_right
  generalize h2 : (a1 &&& 858993459) + (a1 / 2 ^ 2 &&& 858993459) = a2
  have b2 : a2 < 2 ^ 32 := by omega
  rw [ushr_nI b2 4 (by decide), nI_add, fa_and]
  have l4 : (a2 + a2 / 2 ^ 4) &&& 252645135 ≤ 252645135 := Nat.and_le_right
  generalize h3 : (a2 + a2 / 2 ^ 4) &&& 252645135 = a3
  have b3 : a3 < 2 ^ 32 := by omega
  rw [ushr_nI b3 8 (by decide), nI_add]
  have b4 : a3 + a3 / 2 ^ 8 < 2 ^ 32 := by omega
  rw [ushr_nI b4 16 (by decide), nI_add, show (63 : Int32) = nI 63 from rfl, fa_and]
  subst h3 h2 h1
  rfl
def pop8 (a : Nat) : Nat := fa_cnt (fun i => a.testBit i) 8
def wrd (a b c d : Nat) : Nat := a + 256 * (b + 256 * (c + 256 * d))
theorem and_sp (a b c d : Nat) (ha : a < 256) (hc : c < 256) : (a + 256 * b) &&& (c + 256 * d) = (a &&& c) + 256 * (b &&& d) := by
  have h1 : ((a + 256 * b) &&& (c + 256 * d)) % 2 ^ 8 = (a + 256 * b) % 2 ^ 8 &&& (c + 256 * d) % 2 ^ 8 := Nat.and_mod_two_pow
  have h2 : ((a + 256 * b) &&& (c + 256 * d)) / 2 ^ 8 = (a + 256 * b) / 2 ^ 8 &&& (c + 256 * d) / 2 ^ 8 := Nat.and_div_two_pow
  rw [show (a + 256 * b) % 2 ^ 8 = a by omega, show (c + 256 * d) % 2 ^ 8 = c by omega] at h1
  rw [show (a + 256 * b) / 2 ^ 8 = b by omega, show (c + 256 * d) / 2 ^ 8 = d by omega] at h2
  generalize (a + 256 * b) &&& (c + 256 * d) = X at h1 h2 ⊢
  generalize a &&& c = Y at h1 ⊢
  generalize b &&& d = Z at h2 ⊢
  omega
theorem and_w {a b c d : Nat} (m : Nat) (ha : a < 256) (hb : b < 256) (hc : c < 256) (hm : m < 256) : wrd a b c d &&& wrd m m m m = wrd (a &&& m) (b &&& m) (c &&& m) (d &&& m) := by
  unfold wrd
  rw [and_sp _ _ _ _ ha hm, and_sp _ _ _ _ hb hm, and_sp _ _ _ _ hc hm]
def gg1 (a : Nat) : Nat := a - ((a / 2) &&& 85)
def gg2 (a : Nat) : Nat := (gg1 a &&& 51) + ((gg1 a / 4) &&& 51)
theorem pc_d1 : ∀ a, a < 256 → ∀ e, e < 2 → (a / 2 + 128 * e) &&& 85 = (a / 2) &&& 85 := by decide +kernel
theorem pc_d2 : ∀ a, a < 256 → ∀ e, e < 4 → (a / 4 + 64 * e) &&& 51 = (a / 4) &&& 51 := by decide +kernel
theorem pc_d3 : ∀ a, a < 69 → ∀ e, e < 5 → (a + a / 16 + 16 * e) &&& 15 = (a + a / 16) &&& 15 := by decide +kernel
theorem pc_d4 : ∀ a, a < 256 → ((a / 2) &&& 85) ≤ a ∧ gg1 a < 256 ∧ gg2 a < 69 ∧ gg2 a % 16 < 5 ∧ (gg2 a + gg2 a / 16) &&& 15 = pop8 a ∧ pop8 a ≤ 8 := by decide +kernel
theorem pcN_w {a b c d : Nat} (ha : a < 256) (hb : b < 256) (hc : c < 256) (hd : d < 256) : pcN (wrd a b c d) = pop8 a + pop8 b + pop8 c + pop8 d := by
  obtain ⟨a1, a2, a3, a4, a5, a6⟩ := pc_d4 a ha
  obtain ⟨b1, b2, b3, b4, b5, b6⟩ := pc_d4 b hb
  obtain ⟨c1, c2, c3, c4, c5, c6⟩ := pc_d4 c hc
  obtain ⟨d1, d2, d3, d4, d5, d6⟩ := pc_d4 d hd
  have s1 : wrd a b c d / 2 = wrd (a / 2 + 128 * (b % 2)) (b / 2 + 128 * (c % 2)) (c / 2 + 128 * (d % 2)) (d / 2 + 128 * 0) := by unfold wrd; omega
  have s2 : wrd a b c d / 2 &&& 1431655765 = wrd ((a / 2) &&& 85) ((b / 2) &&& 85) ((c / 2) &&& 85) ((d / 2) &&& 85) := by
    rw [s1, show 1431655765 = wrd 85 85 85 85 from rfl, and_w 85 (by omega) (by omega) (by omega) (by decide), pc_d1 a ha _ (by omega), pc_d1 b hb _ (by omega), pc_d1 c hc _ (by omega), pc_d1 d hd _ (by omega)]
  have s3 : wrd a b c d - (wrd a b c d / 2 &&& 1431655765) = wrd (gg1 a) (gg1 b) (gg1 c) (gg1 d) := by
    rw [s2]
    unfold gg1
    generalize (a / 2) &&& 85 = x1 at *
    generalize (b / 2) &&& 85 = x2 at *
    generalize (c / 2) &&& 85 = x3 at *
    generalize (d / 2) &&& 85 = x4 at *
    unfold wrd
    omega
  have s4 : wrd (gg1 a) (gg1 b) (gg1 c) (gg1 d) / 4 = wrd (gg1 a / 4 + 64 * (gg1 b % 4)) (gg1 b / 4 + 64 * (gg1 c % 4)) (gg1 c / 4 + 64 * (gg1 d % 4)) (gg1 d / 4 + 64 * 0) := by unfold wrd; omega
  have s5 : (wrd (gg1 a) (gg1 b) (gg1 c) (gg1 d) &&& 858993459) + (wrd (gg1 a) (gg1 b) (gg1 c) (gg1 d) / 4 &&& 858993459) = wrd (gg2 a) (gg2 b) (gg2 c) (gg2 d) := by
    rw [s4, show 858993459 = wrd 51 51 51 51 from rfl, and_w 51 a2 b2 c2 (by decide), and_w 51 (by omega) (by omega) (by omega) (by decide), pc_d2 _ a2 _ (by omega), pc_d2 _ b2 _ (by omega), pc_d2 _ c2 _ (by omega), pc_d2 _ d2 _ (by omega)]
    unfold gg2
    generalize gg1 a &&& 51 = x1
    generalize gg1 b &&& 51 = x2
    generalize gg1 c &&& 51 = x3
    generalize gg1 d &&& 51 = x4
    generalize gg1 a / 4 &&& 51 = y1
    generalize gg1 b / 4 &&& 51 = y2
    generalize gg1 c / 4 &&& 51 = y3
    generalize gg1 d / 4 &&& 51 = y4
    unfold wrd
    omega
  have s6 : wrd (gg2 a) (gg2 b) (gg2 c) (gg2 d) + wrd (gg2 a) (gg2 b) (gg2 c) (gg2 d) / 16 = wrd (gg2 a + gg2 a / 16 + 16 * (gg2 b % 16)) (gg2 b + gg2 b / 16 + 16 * (gg2 c % 16)) (gg2 c + gg2 c / 16 + 16 * (gg2 d % 16)) (gg2 d + gg2 d / 16 + 16 * 0) := by unfold wrd; omega
  have s7 : (wrd (gg2 a) (gg2 b) (gg2 c) (gg2 d) + wrd (gg2 a) (gg2 b) (gg2 c) (gg2 d) / 16) &&& 252645135 = wrd (pop8 a) (pop8 b) (pop8 c) (pop8 d) := by
    rw [s6, show 252645135 = wrd 15 15 15 15 from rfl, and_w 15 (by omega) (by omega) (by omega) (by decide), pc_d3 _ a3 _ b4, pc_d3 _ b3 _ c4, pc_d3 _ c3 _ d4, pc_d3 _ d3 _ (by decide), a5, b5, c5, d5]
  unfold pcN
  simp only []
  rw [s3, s5, s7, show (63 : Nat) = 2 ^ 6 - 1 from rfl, Nat.and_two_pow_sub_one_eq_mod]
  clear s1 s2 s3 s4 s5 s6 s7 a1 a2 a3 a4 a5 b1 b2 b3 b4 b5 c1 c2 c3 c4 c5 d1 d2 d3 d4 d5
  generalize pop8 a = p at a6 ⊢
  generalize pop8 b = q at b6 ⊢
  generalize pop8 c = r at c6 ⊢
  generalize pop8 d = t at d6 ⊢
  unfold wrd
  have t1 : (p + 256 * (q + 256 * (r + 256 * t))) / 256 = q + 256 * (r + 256 * t) := by omega
  rw [t1]
  have t2 : (p + 256 * (q + 256 * (r + 256 * t)) + (q + 256 * (r + 256 * t))) / 65536 = (r + t) + 256 * t := by omega
  rw [t2]
  omega
theorem pop_up : ∀ j, j < 8 → ∀ a, a < 2 ^ j → pop8 (a + 2 ^ j) = pop8 a + 1 ∧ a + 2 ^ j < 256 := by decide +kernel
theorem bitm_N : ∀ n, n < 31 → bitm n = nI (2 ^ n) := by decide +kernel
theorem msk_w (p : Nat → Bool) : ∀ n, n ≤ 31 → ∃ a b c d, msk p n = nI (wrd a b c d) ∧ a < 256 ∧ b < 256 ∧ c < 256 ∧ d < 256 ∧ wrd a b c d < 2 ^ n ∧ pop8 a + pop8 b + pop8 c + pop8 d = fa_cnt p n := by
  intro n
  induction n with
  | zero => intro _; exact ⟨0, 0, 0, 0, rfl, by decide, by decide, by decide, by decide, by decide, rfl⟩
  | succ n ih =>
    intro hn
    obtain ⟨a, b, c, d, e, ha, hb, hc, hd, hl, hp⟩ := ih (by omega)
    have p2 : 2 ^ (n + 1) = 2 ^ n + 2 ^ n := by rw [Nat.pow_succ]; omega
    cases q : p n with
    | false =>
      refine ⟨a, b, c, d, ?_, ha, hb, hc, hd, by omega, ?_⟩
      · simp only [msk, q]; exact e
      · rw [fa_cnt_no q]; exact hp
    | true =>
      have e2 : msk p (n + 1) = nI (wrd a b c d + 2 ^ n) := by
        simp only [msk, q, if_true]
        rw [e, bitm_N n (by omega), Nat.add_comm]
        have := fa_or_sum (a := wrd a b c d) (k := n) 1 hl
        rw [Nat.mul_one] at this
        rw [← this]
        exact b_ext (fun i hi => by rw [b_or, b_or, Bool.or_comm])
      rw [e2, fa_cnt_yes q, p2]
      rcases Nat.lt_or_ge n 8 with h8 | h8
      · have z : b = 0 ∧ c = 0 ∧ d = 0 ∧ a < 2 ^ n := by
          have : 2 ^ n ≤ 2 ^ 7 := Nat.pow_le_pow_right (by decide) (by omega)
          unfold wrd at hl; omega
        obtain ⟨rfl, rfl, rfl, z⟩ := z
        obtain ⟨u1, u2⟩ := pop_up n h8 a z
        refine ⟨a + 2 ^ n, 0, 0, 0, congrArg nI (by unfold wrd; omega), u2, by decide, by decide, by decide, by unfold wrd; omega, by omega⟩
      rcases Nat.lt_or_ge n 16 with h16 | h16
      · obtain ⟨j, rfl⟩ : ∃ j, n = 8 + j := ⟨n - 8, by omega⟩
        have pj : 2 ^ (8 + j) = 256 * 2 ^ j := by rw [Nat.pow_add]
        have jl : 2 ^ j ≤ 2 ^ 7 := Nat.pow_le_pow_right (by decide) (by omega)
        rw [pj] at hl ⊢
        have z : c = 0 ∧ d = 0 ∧ b < 2 ^ j := by
          unfold wrd at hl; omega
        obtain ⟨rfl, rfl, z⟩ := z
        obtain ⟨u1, u2⟩ := pop_up j (by omega) b z
        refine ⟨a, b + 2 ^ j, 0, 0, congrArg nI (by unfold wrd; omega), ha, u2, by decide, by decide, by unfold wrd; omega, by omega⟩
      rcases Nat.lt_or_ge n 24 with h24 | h24
      · obtain ⟨j, rfl⟩ : ∃ j, n = 16 + j := ⟨n - 16, by omega⟩
        have pj : 2 ^ (16 + j) = 65536 * 2 ^ j := by rw [Nat.pow_add]
        have jl : 2 ^ j ≤ 2 ^ 7 := Nat.pow_le_pow_right (by decide) (by omega)
        rw [pj] at hl ⊢
        have z : d = 0 ∧ c < 2 ^ j := by
          unfold wrd at hl; omega
        obtain ⟨rfl, z⟩ := z
        obtain ⟨u1, u2⟩ := pop_up j (by omega) c z
        refine ⟨a, b, c + 2 ^ j, 0, congrArg nI (by unfold wrd; omega), ha, hb, u2, by decide, by unfold wrd; omega, by omega⟩
      · obtain ⟨j, rfl⟩ : ∃ j, n = 24 + j := ⟨n - 24, by omega⟩
        have pj : 2 ^ (24 + j) = 16777216 * 2 ^ j := by rw [Nat.pow_add]
        have jl : 2 ^ j ≤ 2 ^ 7 := Nat.pow_le_pow_right (by decide) (by omega)
        rw [pj] at hl ⊢
        have z : d < 2 ^ j := by
          unfold wrd at hl; omega
        obtain ⟨u1, u2⟩ := pop_up j (by omega) d z
        refine ⟨a, b, c, d + 2 ^ j, congrArg nI (by unfold wrd; omega), ha, hb, hc, u2, by unfold wrd; omega, by omega⟩
theorem bitC_msk (p : Nat → Bool) {n : Nat} (hn : n ≤ 31) : bitC (msk p n) = nI (fa_cnt p n) := by
  obtain ⟨a, b, c, d, e, ha, hb, hc, hd, hl, hp⟩ := msk_w p n hn
  have h2 : 2 ^ n ≤ 2 ^ 31 := Nat.pow_le_pow_right (by decide) hn
  rw [e, bitC_N (by omega), pcN_w ha hb hc hd, hp]
