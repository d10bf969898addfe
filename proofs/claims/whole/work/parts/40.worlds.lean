
/-! what reads and writes are, given the cell -/
theorem gV_of {σ : St} {a ci kf : Nat} {fs : List Value} {v : Value} (h : σ.2.2 a = some (.inr (ci, fs))) (hv : fs[kf]? = some v) : gV ci kf σ a = some v := by
  simp [gV, rd, h, hv]
theorem gI_of {σ : St} {a ci kf : Nat} {fs : List Value} {x : Int32} (h : σ.2.2 a = some (.inr (ci, fs))) (hv : fs[kf]? = some (.int x)) : gI ci kf σ a = some x := by
  simp [gI, gV_of h hv]
theorem gL_of {σ : St} {a ci kf : Nat} {fs : List Value} {x : Int64} (h : σ.2.2 a = some (.inr (ci, fs))) (hv : fs[kf]? = some (.long x)) : gL ci kf σ a = some x := by
  simp [gL, gV_of h hv]
theorem gR_of {σ : St} {a ci kf x : Nat} {fs : List Value} (h : σ.2.2 a = some (.inr (ci, fs))) (hv : fs[kf]? = some (.ref x)) : gR ci kf σ a = some x := by
  simp [gR, gV_of h hv]
theorem isO_of {σ : St} {a ci : Nat} {fs : List Value} (h : σ.2.2 a = some (.inr (ci, fs))) : isO ci σ a = true := by
  simp [isO, rd, h]
theorem aI_of {σ : St} {a t z : Nat} {f : Nat → Int32} (h : σ.2.2 a = some (.inl (t, z, .inl f))) {i : Int32} (hi : inb i z) : aI t σ a i = some (f i.toNatClampNeg) := by
  simp only [aI, rd, h]
  rw [if_pos ⟨trivial, hi⟩]
theorem aN_of {σ : St} {a t : Nat} {x : vp_A} (h : σ.2.2 a = some (.inl (t, x))) (ht : t < 5) : aN σ a = some (Int32.ofNat x.1) := by
  simp only [aN, rd, h]
  rw [if_pos ht]
theorem pV_of {σ : St} {a ci kf : Nat} {fs : List Value} (h : σ.2.2 a = some (.inr (ci, fs))) (hk : kf < fs.length) (v : Value) : pV ci kf σ a v = some (σ.1, σ.2.1, up σ.2.2 a (.inr (ci, fs.set kf v))) := by
  simp only [pV, h]
  rw [if_pos ⟨trivial, hk⟩]
theorem sI_of {σ : St} {a t z : Nat} {f : Nat → Int32} (h : σ.2.2 a = some (.inl (t, z, .inl f))) {i : Int32} (hi : inb i z) (x : Int32) : sI t σ a i x = some (σ.1, σ.2.1, up σ.2.2 a (.inl (t, z, .inl (upd f i.toNatClampNeg x)))) := by
  simp only [sI, h]
  rw [if_pos ⟨trivial, hi⟩]
/-- a row of rows with one place changed -/
def updR (R : Nat → Nat → Int32) (k : Nat) (g : Nat → Int32) : Nat → Nat → Int32 := fun n => if n = k then g else R n
theorem updR_s (R : Nat → Nat → Int32) (k : Nat) (g : Nat → Int32) : updR R k g k = g := by simp [updR]
theorem updR_n (R : Nat → Nat → Int32) {k j : Nat} (g : Nat → Int32) (h : j ≠ k) : updR R k g j = R j := by simp [updR, h]
/-- nothing but these cells has changed -/
def Sm (S : Nat → Prop) (σ t : St) : Prop := t.1 = σ.1 ∧ ∀ a, ¬ S a → t.2.2 a = σ.2.2 a
theorem Sm.rf {S : Nat → Prop} {σ : St} : Sm S σ σ := ⟨rfl, fun _ _ => rfl⟩
theorem Sm.tr {S : Nat → Prop} {σ t u : St} (h1 : Sm S σ t) (h2 : Sm S t u) : Sm S σ u := ⟨h2.1.trans h1.1, fun a ha => (h2.2 a ha).trans (h1.2 a ha)⟩

def cellC (A : Nat → Nat) (I : Nat → Int32) (R : Nat → Nat → Int32) (dr : Int64) (lw : Nat → Option Nat) : Nat → aE := fun k => match k with
  | 0 => .inr (9, [.ref (A 1), .ref (A 3), .ref (A 7), .ref (A 9), .int (I 4), .int (I 5), .int (I 6), .ref (A 10), .ref (A 11), .ref (A 17), .ref (A 23), .ref (A 29), .ref (A 34), .ref (A 40), .ref (A 42), .long dr])
  | 1 => .inr (8, [.ref (A 2), .int (I 21), .int (I 22), .int (I 23)])
  | 2 => .inl (0, 240, .inl (R 2))
  | 3 => .inr (2, [.ref (A 1), .ref (A 4), .ref (A 5), .ref (A 6), .int (I 64), .int (I 65), .int (I 66), .int (I 67)])
  | 4 => .inl (0, 4, .inl (R 4))
  | 5 => .inl (0, 16, .inl (R 5))
  | 6 => .inl (0, 30, .inl (R 6))
  | 7 => .inr (4, [.ref (A 1), .ref (A 8), .int (I 142)])
  | 8 => .inl (0, 240, .inl (R 8))
  | 9 => .inl (2, 4, .inr (.inr (.inr (.inr lw))))
  | 10 => .inl (0, 5, .inl (R 10))
  | 11 => .inr (7, [.int (I 220), .int (I 221), .int (I 222), .int (I 223), .int (I 224), .int (I 225), .int (I 226), .int (I 227), .int (I 228), .ref (A 12), .ref (A 13), .ref (A 14), .ref (A 15), .ref (A 16)])
  | 12 => .inl (0, 30, .inl (R 12))
  | 13 => .inl (0, 4, .inl (R 13))
  | 14 => .inl (0, 4, .inl (R 14))
  | 15 => .inl (0, 4, .inl (R 15))
  | 16 => .inl (0, 6, .inl (R 16))
  | 17 => .inr (7, [.int (I 340), .int (I 341), .int (I 342), .int (I 343), .int (I 344), .int (I 345), .int (I 346), .int (I 347), .int (I 348), .ref (A 18), .ref (A 19), .ref (A 20), .ref (A 21), .ref (A 22)])
  | 18 => .inl (0, 30, .inl (R 18))
  | 19 => .inl (0, 4, .inl (R 19))
  | 20 => .inl (0, 4, .inl (R 20))
  | 21 => .inl (0, 4, .inl (R 21))
  | 22 => .inl (0, 6, .inl (R 22))
  | 23 => .inr (7, [.int (I 460), .int (I 461), .int (I 462), .int (I 463), .int (I 464), .int (I 465), .int (I 466), .int (I 467), .int (I 468), .ref (A 24), .ref (A 25), .ref (A 26), .ref (A 27), .ref (A 28)])
  | 24 => .inl (0, 30, .inl (R 24))
  | 25 => .inl (0, 4, .inl (R 25))
  | 26 => .inl (0, 4, .inl (R 26))
  | 27 => .inl (0, 4, .inl (R 27))
  | 28 => .inl (0, 6, .inl (R 28))
  | 29 => .inr (5, [.ref (A 30), .int (I 581), .int (I 582), .ref (A 31), .ref (A 32), .ref (A 33), .int (I 586)])
  | 30 => .inl (0, 1720, .inl (R 30))
  | 31 => .inl (0, 128, .inl (R 31))
  | 32 => .inl (0, 128, .inl (R 32))
  | 33 => .inl (0, 43, .inl (R 33))
  | 34 => .inr (1, [.ref (A 35), .ref (A 36), .ref (A 37), .int (I 683), .ref (A 38), .ref (A 39), .int (I 686)])
  | 35 => .inl (0, 10, .inl (R 35))
  | 36 => .inl (0, 10, .inl (R 36))
  | 37 => .inl (1, 10, .inl (R 37))
  | 38 => .inl (0, 10, .inl (R 38))
  | 39 => .inl (0, 10, .inl (R 39))
  | 40 => .inr (6, [.ref (A 41)])
  | 41 => .inl (0, 30, .inl (R 41))
  | 42 => .inr (0, [.ref (A 43), .ref (A 44)])
  | 43 => .inl (0, 4, .inl (R 43))
  | 44 => .inl (0, 4, .inl (R 44))
  | _ => .inr (0, [])
def domC (k : Nat) : Bool := decide (k < 45)
def setC (A : Nat → Nat) (a : Nat) : Prop := ∃ k, domC k = true ∧ a = A k
def CW (A : Nat → Nat) (I : Nat → Int32) (R : Nat → Nat → Int32) (dr : Int64) (lw : Nat → Option Nat) (σ : St) : Prop := (∀ i j, domC i = true → domC j = true → A i = A j → i = j) ∧ ∀ k, domC k = true → σ.2.2 (A k) = some (cellC A I R dr lw k)
set_option maxHeartbeats 2000000 in
theorem cellC_congr {A : Nat → Nat} {I I2 : Nat → Int32} {R R2 : Nat → Nat → Int32} {dr dr2 : Int64} {lw lw2 : Nat → Option Nat} (k : Nat) (hd : domC k = true) (hI : ∀ f, f < 20 → I2 (20 * k + f) = I (20 * k + f)) (hR : R2 k = R k) (h0 : k = 0 → dr2 = dr) (h9 : k = 9 → lw2 = lw) : cellC A I2 R2 dr2 lw2 k = cellC A I R dr lw k := by
  have hk : k < 45 := by
    simpa [domC] using hd
  match k, hk, hI, hR, h0, h9 with
  | 0, _, hI, hR, h0, h9 => simp only [cellC]; rw [h0 rfl, show I2 4 = I 4 from hI 4 (by decide), show I2 5 = I 5 from hI 5 (by decide), show I2 6 = I 6 from hI 6 (by decide)]
  | 1, _, hI, hR, h0, h9 => simp only [cellC]; rw [show I2 21 = I 21 from hI 1 (by decide), show I2 22 = I 22 from hI 2 (by decide), show I2 23 = I 23 from hI 3 (by decide)]
  | 2, _, hI, hR, h0, h9 => simp only [cellC]; rw [hR]
  | 3, _, hI, hR, h0, h9 => simp only [cellC]; rw [show I2 64 = I 64 from hI 4 (by decide), show I2 65 = I 65 from hI 5 (by decide), show I2 66 = I 66 from hI 6 (by decide), show I2 67 = I 67 from hI 7 (by decide)]
  | 4, _, hI, hR, h0, h9 => simp only [cellC]; rw [hR]
  | 5, _, hI, hR, h0, h9 => simp only [cellC]; rw [hR]
  | 6, _, hI, hR, h0, h9 => simp only [cellC]; rw [hR]
  | 7, _, hI, hR, h0, h9 => simp only [cellC]; rw [show I2 142 = I 142 from hI 2 (by decide)]
  | 8, _, hI, hR, h0, h9 => simp only [cellC]; rw [hR]
  | 9, _, hI, hR, h0, h9 => simp only [cellC]; rw [h9 rfl]
  | 10, _, hI, hR, h0, h9 => simp only [cellC]; rw [hR]
  | 11, _, hI, hR, h0, h9 => simp only [cellC]; rw [show I2 220 = I 220 from hI 0 (by decide), show I2 221 = I 221 from hI 1 (by decide), show I2 222 = I 222 from hI 2 (by decide), show I2 223 = I 223 from hI 3 (by decide), show I2 224 = I 224 from hI 4 (by decide), show I2 225 = I 225 from hI 5 (by decide), show I2 226 = I 226 from hI 6 (by decide), show I2 227 = I 227 from hI 7 (by decide), show I2 228 = I 228 from hI 8 (by decide)]
  | 12, _, hI, hR, h0, h9 => simp only [cellC]; rw [hR]
  | 13, _, hI, hR, h0, h9 => simp only [cellC]; rw [hR]
  | 14, _, hI, hR, h0, h9 => simp only [cellC]; rw [hR]
  | 15, _, hI, hR, h0, h9 => simp only [cellC]; rw [hR]
  | 16, _, hI, hR, h0, h9 => simp only [cellC]; rw [hR]
  | 17, _, hI, hR, h0, h9 => simp only [cellC]; rw [show I2 340 = I 340 from hI 0 (by decide), show I2 341 = I 341 from hI 1 (by decide), show I2 342 = I 342 from hI 2 (by decide), show I2 343 = I 343 from hI 3 (by decide), show I2 344 = I 344 from hI 4 (by decide), show I2 345 = I 345 from hI 5 (by decide), show I2 346 = I 346 from hI 6 (by decide), show I2 347 = I 347 from hI 7 (by decide), show I2 348 = I 348 from hI 8 (by decide)]
  | 18, _, hI, hR, h0, h9 => simp only [cellC]; rw [hR]
  | 19, _, hI, hR, h0, h9 => simp only [cellC]; rw [hR]
  | 20, _, hI, hR, h0, h9 => simp only [cellC]; rw [hR]
  | 21, _, hI, hR, h0, h9 => simp only [cellC]; rw [hR]
  | 22, _, hI, hR, h0, h9 => simp only [cellC]; rw [hR]
  | 23, _, hI, hR, h0, h9 => simp only [cellC]; rw [show I2 460 = I 460 from hI 0 (by decide), show I2 461 = I 461 from hI 1 (by decide), show I2 462 = I 462 from hI 2 (by decide), show I2 463 = I 463 from hI 3 (by decide), show I2 464 = I 464 from hI 4 (by decide), show I2 465 = I 465 from hI 5 (by decide), show I2 466 = I 466 from hI 6 (by decide), show I2 467 = I 467 from hI 7 (by decide), show I2 468 = I 468 from hI 8 (by decide)]
  | 24, _, hI, hR, h0, h9 => simp only [cellC]; rw [hR]
  | 25, _, hI, hR, h0, h9 => simp only [cellC]; rw [hR]
  | 26, _, hI, hR, h0, h9 => simp only [cellC]; rw [hR]
  | 27, _, hI, hR, h0, h9 => simp only [cellC]; rw [hR]
  | 28, _, hI, hR, h0, h9 => simp only [cellC]; rw [hR]
  | 29, _, hI, hR, h0, h9 => simp only [cellC]; rw [show I2 581 = I 581 from hI 1 (by decide), show I2 582 = I 582 from hI 2 (by decide), show I2 586 = I 586 from hI 6 (by decide)]
  | 30, _, hI, hR, h0, h9 => simp only [cellC]; rw [hR]
  | 31, _, hI, hR, h0, h9 => simp only [cellC]; rw [hR]
  | 32, _, hI, hR, h0, h9 => simp only [cellC]; rw [hR]
  | 33, _, hI, hR, h0, h9 => simp only [cellC]; rw [hR]
  | 34, _, hI, hR, h0, h9 => simp only [cellC]; rw [show I2 683 = I 683 from hI 3 (by decide), show I2 686 = I 686 from hI 6 (by decide)]
  | 35, _, hI, hR, h0, h9 => simp only [cellC]; rw [hR]
  | 36, _, hI, hR, h0, h9 => simp only [cellC]; rw [hR]
  | 37, _, hI, hR, h0, h9 => simp only [cellC]; rw [hR]
  | 38, _, hI, hR, h0, h9 => simp only [cellC]; rw [hR]
  | 39, _, hI, hR, h0, h9 => simp only [cellC]; rw [hR]
  | 40, _, hI, hR, h0, h9 => rfl
  | 41, _, hI, hR, h0, h9 => simp only [cellC]; rw [hR]
  | 42, _, hI, hR, h0, h9 => rfl
  | 43, _, hI, hR, h0, h9 => simp only [cellC]; rw [hR]
  | 44, _, hI, hR, h0, h9 => simp only [cellC]; rw [hR]
  | k + 45, hk, _, _, _, _ => omega
theorem CW.put {A : Nat → Nat} {I I2 : Nat → Int32} {R R2 : Nat → Nat → Int32} {dr dr2 : Int64} {lw lw2 : Nat → Option Nat} {σ : St} (h : CW A I R dr lw σ) (k : Nat) (hk : domC k = true) (hI : ∀ j f, j ≠ k → f < 20 → I2 (20 * j + f) = I (20 * j + f)) (hR : ∀ j, j ≠ k → R2 j = R j) (h0 : k ≠ 0 → dr2 = dr) (h9 : k ≠ 9 → lw2 = lw) : CW A I2 R2 dr2 lw2 (σ.1, σ.2.1, up σ.2.2 (A k) (cellC A I2 R2 dr2 lw2 k)) ∧ Sm (setC A) σ (σ.1, σ.2.1, up σ.2.2 (A k) (cellC A I2 R2 dr2 lw2 k)) := by
  refine ⟨⟨h.1, fun j hj => ?_⟩, rfl, fun b hb => up_n _ _ (fun e => hb ⟨k, hk, e⟩)⟩
  by_cases e : j = k
  · subst e; exact up_s _ _ _
  · show up σ.2.2 (A k) _ (A j) = _
    rw [up_n _ _ (fun q => e (h.1 j k hj hk q)), h.2 j hj]
    exact congrArg some (cellC_congr j hj (fun f hf => hI j f e hf) (hR j e) (fun z => h0 (fun q => e (z.trans q.symm))) (fun z => h9 (fun q => e (z.trans q.symm)))).symm
theorem CW.sm {A : Nat → Nat} {I : Nat → Int32} {R : Nat → Nat → Int32} {dr : Int64} {lw : Nat → Option Nat} {σ t : St} {S : Nat → Prop} (h : CW A I R dr lw σ) (hs : Sm S σ t) (hd : ∀ k, domC k = true → ¬ S (A k)) : CW A I R dr lw t := ⟨h.1, fun k hk => (hs.2 (A k) (hd k hk)).trans (h.2 k hk)⟩
theorem CW.putI {A : Nat → Nat} {I : Nat → Int32} {R : Nat → Nat → Int32} {dr : Int64} {lw : Nat → Option Nat} {σ : St} (h : CW A I R dr lw σ) (k f : Nat) (v : Int32) {ci : Nat} {fs : List Value} (hk : domC k = true) (hf : f < 20) (hc : cellC A I R dr lw k = .inr (ci, fs)) (hl : f < fs.length) (hn : cellC A (upd I (20 * k + f) v) R dr lw k = .inr (ci, fs.set f (.int v))) : ∃ t, pV ci f σ (A k) (.int v) = some t ∧ CW A (upd I (20 * k + f) v) R dr lw t ∧ Sm (setC A) σ t := by
  have h1 : σ.2.2 (A k) = some (.inr (ci, fs)) := (h.2 k hk).trans (congrArg some hc)
  obtain ⟨g1, g2⟩ := h.put (I2 := upd I (20 * k + f) v) (R2 := R) (lw2 := lw) (dr2 := dr) k hk (fun j g hj hg => pk_un (by omega)) (fun _ _ => rfl) (fun _ => rfl) (fun _ => rfl)
  rw [hn] at g1 g2
  exact ⟨_, pV_of h1 hl _, g1, g2⟩
theorem CW.putA {A : Nat → Nat} {I : Nat → Int32} {R : Nat → Nat → Int32} {dr : Int64} {lw : Nat → Option Nat} {σ : St} (h : CW A I R dr lw σ) (k : Nat) (i v : Int32) {t z : Nat} (hk : domC k = true) (hc : ∀ R, cellC A I R dr lw k = .inl (t, z, .inl (R k))) (hi : inb i z) : ∃ u, sI t σ (A k) i v = some u ∧ CW A I (updR R k (upd (R k) i.toNatClampNeg v)) dr lw u ∧ Sm (setC A) σ u := by
  have h1 : σ.2.2 (A k) = some (.inl (t, z, .inl (R k))) := (h.2 k hk).trans (congrArg some (hc R))
  obtain ⟨g1, g2⟩ := h.put (I2 := I) (R2 := updR R k (upd (R k) i.toNatClampNeg v)) (lw2 := lw) (dr2 := dr) k hk (fun _ _ _ _ => rfl) (fun j hj => updR_n _ _ hj) (fun _ => rfl) (fun _ => rfl)
  rw [hc, updR_s] at g1 g2
  exact ⟨_, sI_of h1 hi _, g1, g2⟩
theorem cO_0 {A : Nat → Nat} {I : Nat → Int32} {R : Nat → Nat → Int32} {dr : Int64} {lw : Nat → Option Nat} {σ : St} (h : CW A I R dr lw σ) : isO 9 σ (A 0) = true := isO_of (h.2 0 rfl)
theorem cr_0_0 {A : Nat → Nat} {I : Nat → Int32} {R : Nat → Nat → Int32} {dr : Int64} {lw : Nat → Option Nat} {σ : St} (h : CW A I R dr lw σ) : gR 9 0 σ (A 0) = some (A 1) := gR_of (h.2 0 rfl) rfl
theorem cr_0_1 {A : Nat → Nat} {I : Nat → Int32} {R : Nat → Nat → Int32} {dr : Int64} {lw : Nat → Option Nat} {σ : St} (h : CW A I R dr lw σ) : gR 9 1 σ (A 0) = some (A 3) := gR_of (h.2 0 rfl) rfl
theorem cr_0_2 {A : Nat → Nat} {I : Nat → Int32} {R : Nat → Nat → Int32} {dr : Int64} {lw : Nat → Option Nat} {σ : St} (h : CW A I R dr lw σ) : gR 9 2 σ (A 0) = some (A 7) := gR_of (h.2 0 rfl) rfl
theorem cr_0_3 {A : Nat → Nat} {I : Nat → Int32} {R : Nat → Nat → Int32} {dr : Int64} {lw : Nat → Option Nat} {σ : St} (h : CW A I R dr lw σ) : gR 9 3 σ (A 0) = some (A 9) := gR_of (h.2 0 rfl) rfl
theorem cr_0_4 {A : Nat → Nat} {I : Nat → Int32} {R : Nat → Nat → Int32} {dr : Int64} {lw : Nat → Option Nat} {σ : St} (h : CW A I R dr lw σ) : gI 9 4 σ (A 0) = some (I 4) := gI_of (h.2 0 rfl) rfl
theorem cr_0_5 {A : Nat → Nat} {I : Nat → Int32} {R : Nat → Nat → Int32} {dr : Int64} {lw : Nat → Option Nat} {σ : St} (h : CW A I R dr lw σ) : gI 9 5 σ (A 0) = some (I 5) := gI_of (h.2 0 rfl) rfl
theorem cr_0_6 {A : Nat → Nat} {I : Nat → Int32} {R : Nat → Nat → Int32} {dr : Int64} {lw : Nat → Option Nat} {σ : St} (h : CW A I R dr lw σ) : gI 9 6 σ (A 0) = some (I 6) := gI_of (h.2 0 rfl) rfl
theorem cr_0_7 {A : Nat → Nat} {I : Nat → Int32} {R : Nat → Nat → Int32} {dr : Int64} {lw : Nat → Option Nat} {σ : St} (h : CW A I R dr lw σ) : gR 9 7 σ (A 0) = some (A 10) := gR_of (h.2 0 rfl) rfl
theorem cr_0_8 {A : Nat → Nat} {I : Nat → Int32} {R : Nat → Nat → Int32} {dr : Int64} {lw : Nat → Option Nat} {σ : St} (h : CW A I R dr lw σ) : gR 9 8 σ (A 0) = some (A 11) := gR_of (h.2 0 rfl) rfl
theorem cr_0_9 {A : Nat → Nat} {I : Nat → Int32} {R : Nat → Nat → Int32} {dr : Int64} {lw : Nat → Option Nat} {σ : St} (h : CW A I R dr lw σ) : gR 9 9 σ (A 0) = some (A 17) := gR_of (h.2 0 rfl) rfl
theorem cr_0_10 {A : Nat → Nat} {I : Nat → Int32} {R : Nat → Nat → Int32} {dr : Int64} {lw : Nat → Option Nat} {σ : St} (h : CW A I R dr lw σ) : gR 9 10 σ (A 0) = some (A 23) := gR_of (h.2 0 rfl) rfl
theorem cr_0_11 {A : Nat → Nat} {I : Nat → Int32} {R : Nat → Nat → Int32} {dr : Int64} {lw : Nat → Option Nat} {σ : St} (h : CW A I R dr lw σ) : gR 9 11 σ (A 0) = some (A 29) := gR_of (h.2 0 rfl) rfl
theorem cr_0_12 {A : Nat → Nat} {I : Nat → Int32} {R : Nat → Nat → Int32} {dr : Int64} {lw : Nat → Option Nat} {σ : St} (h : CW A I R dr lw σ) : gR 9 12 σ (A 0) = some (A 34) := gR_of (h.2 0 rfl) rfl
theorem cr_0_13 {A : Nat → Nat} {I : Nat → Int32} {R : Nat → Nat → Int32} {dr : Int64} {lw : Nat → Option Nat} {σ : St} (h : CW A I R dr lw σ) : gR 9 13 σ (A 0) = some (A 40) := gR_of (h.2 0 rfl) rfl
theorem cr_0_14 {A : Nat → Nat} {I : Nat → Int32} {R : Nat → Nat → Int32} {dr : Int64} {lw : Nat → Option Nat} {σ : St} (h : CW A I R dr lw σ) : gR 9 14 σ (A 0) = some (A 42) := gR_of (h.2 0 rfl) rfl
theorem cr_0_15 {A : Nat → Nat} {I : Nat → Int32} {R : Nat → Nat → Int32} {dr : Int64} {lw : Nat → Option Nat} {σ : St} (h : CW A I R dr lw σ) : gL 9 15 σ (A 0) = some dr := gL_of (h.2 0 rfl) rfl
theorem cO_1 {A : Nat → Nat} {I : Nat → Int32} {R : Nat → Nat → Int32} {dr : Int64} {lw : Nat → Option Nat} {σ : St} (h : CW A I R dr lw σ) : isO 8 σ (A 1) = true := isO_of (h.2 1 rfl)
theorem cr_1_0 {A : Nat → Nat} {I : Nat → Int32} {R : Nat → Nat → Int32} {dr : Int64} {lw : Nat → Option Nat} {σ : St} (h : CW A I R dr lw σ) : gR 8 0 σ (A 1) = some (A 2) := gR_of (h.2 1 rfl) rfl
theorem cr_1_1 {A : Nat → Nat} {I : Nat → Int32} {R : Nat → Nat → Int32} {dr : Int64} {lw : Nat → Option Nat} {σ : St} (h : CW A I R dr lw σ) : gI 8 1 σ (A 1) = some (I 21) := gI_of (h.2 1 rfl) rfl
theorem cr_1_2 {A : Nat → Nat} {I : Nat → Int32} {R : Nat → Nat → Int32} {dr : Int64} {lw : Nat → Option Nat} {σ : St} (h : CW A I R dr lw σ) : gI 8 2 σ (A 1) = some (I 22) := gI_of (h.2 1 rfl) rfl
theorem cr_1_3 {A : Nat → Nat} {I : Nat → Int32} {R : Nat → Nat → Int32} {dr : Int64} {lw : Nat → Option Nat} {σ : St} (h : CW A I R dr lw σ) : gI 8 3 σ (A 1) = some (I 23) := gI_of (h.2 1 rfl) rfl
theorem ca_2 {A : Nat → Nat} {I : Nat → Int32} {R : Nat → Nat → Int32} {dr : Int64} {lw : Nat → Option Nat} {σ : St} (h : CW A I R dr lw σ) {i : Int32} (hi : inb i 240) : aI 0 σ (A 2) i = some (R 2 i.toNatClampNeg) := aI_of (h.2 2 rfl) hi
theorem cO_3 {A : Nat → Nat} {I : Nat → Int32} {R : Nat → Nat → Int32} {dr : Int64} {lw : Nat → Option Nat} {σ : St} (h : CW A I R dr lw σ) : isO 2 σ (A 3) = true := isO_of (h.2 3 rfl)
theorem cr_3_0 {A : Nat → Nat} {I : Nat → Int32} {R : Nat → Nat → Int32} {dr : Int64} {lw : Nat → Option Nat} {σ : St} (h : CW A I R dr lw σ) : gR 2 0 σ (A 3) = some (A 1) := gR_of (h.2 3 rfl) rfl
theorem cr_3_1 {A : Nat → Nat} {I : Nat → Int32} {R : Nat → Nat → Int32} {dr : Int64} {lw : Nat → Option Nat} {σ : St} (h : CW A I R dr lw σ) : gR 2 1 σ (A 3) = some (A 4) := gR_of (h.2 3 rfl) rfl
theorem cr_3_2 {A : Nat → Nat} {I : Nat → Int32} {R : Nat → Nat → Int32} {dr : Int64} {lw : Nat → Option Nat} {σ : St} (h : CW A I R dr lw σ) : gR 2 2 σ (A 3) = some (A 5) := gR_of (h.2 3 rfl) rfl
theorem cr_3_3 {A : Nat → Nat} {I : Nat → Int32} {R : Nat → Nat → Int32} {dr : Int64} {lw : Nat → Option Nat} {σ : St} (h : CW A I R dr lw σ) : gR 2 3 σ (A 3) = some (A 6) := gR_of (h.2 3 rfl) rfl
theorem cr_3_4 {A : Nat → Nat} {I : Nat → Int32} {R : Nat → Nat → Int32} {dr : Int64} {lw : Nat → Option Nat} {σ : St} (h : CW A I R dr lw σ) : gI 2 4 σ (A 3) = some (I 64) := gI_of (h.2 3 rfl) rfl
theorem cr_3_5 {A : Nat → Nat} {I : Nat → Int32} {R : Nat → Nat → Int32} {dr : Int64} {lw : Nat → Option Nat} {σ : St} (h : CW A I R dr lw σ) : gI 2 5 σ (A 3) = some (I 65) := gI_of (h.2 3 rfl) rfl
theorem cr_3_6 {A : Nat → Nat} {I : Nat → Int32} {R : Nat → Nat → Int32} {dr : Int64} {lw : Nat → Option Nat} {σ : St} (h : CW A I R dr lw σ) : gI 2 6 σ (A 3) = some (I 66) := gI_of (h.2 3 rfl) rfl
theorem cr_3_7 {A : Nat → Nat} {I : Nat → Int32} {R : Nat → Nat → Int32} {dr : Int64} {lw : Nat → Option Nat} {σ : St} (h : CW A I R dr lw σ) : gI 2 7 σ (A 3) = some (I 67) := gI_of (h.2 3 rfl) rfl
theorem ca_4 {A : Nat → Nat} {I : Nat → Int32} {R : Nat → Nat → Int32} {dr : Int64} {lw : Nat → Option Nat} {σ : St} (h : CW A I R dr lw σ) {i : Int32} (hi : inb i 4) : aI 0 σ (A 4) i = some (R 4 i.toNatClampNeg) := aI_of (h.2 4 rfl) hi
theorem ca_5 {A : Nat → Nat} {I : Nat → Int32} {R : Nat → Nat → Int32} {dr : Int64} {lw : Nat → Option Nat} {σ : St} (h : CW A I R dr lw σ) {i : Int32} (hi : inb i 16) : aI 0 σ (A 5) i = some (R 5 i.toNatClampNeg) := aI_of (h.2 5 rfl) hi
theorem ca_6 {A : Nat → Nat} {I : Nat → Int32} {R : Nat → Nat → Int32} {dr : Int64} {lw : Nat → Option Nat} {σ : St} (h : CW A I R dr lw σ) {i : Int32} (hi : inb i 30) : aI 0 σ (A 6) i = some (R 6 i.toNatClampNeg) := aI_of (h.2 6 rfl) hi
theorem cO_7 {A : Nat → Nat} {I : Nat → Int32} {R : Nat → Nat → Int32} {dr : Int64} {lw : Nat → Option Nat} {σ : St} (h : CW A I R dr lw σ) : isO 4 σ (A 7) = true := isO_of (h.2 7 rfl)
theorem cr_7_0 {A : Nat → Nat} {I : Nat → Int32} {R : Nat → Nat → Int32} {dr : Int64} {lw : Nat → Option Nat} {σ : St} (h : CW A I R dr lw σ) : gR 4 0 σ (A 7) = some (A 1) := gR_of (h.2 7 rfl) rfl
theorem cr_7_1 {A : Nat → Nat} {I : Nat → Int32} {R : Nat → Nat → Int32} {dr : Int64} {lw : Nat → Option Nat} {σ : St} (h : CW A I R dr lw σ) : gR 4 1 σ (A 7) = some (A 8) := gR_of (h.2 7 rfl) rfl
theorem cr_7_2 {A : Nat → Nat} {I : Nat → Int32} {R : Nat → Nat → Int32} {dr : Int64} {lw : Nat → Option Nat} {σ : St} (h : CW A I R dr lw σ) : gI 4 2 σ (A 7) = some (I 142) := gI_of (h.2 7 rfl) rfl
theorem ca_8 {A : Nat → Nat} {I : Nat → Int32} {R : Nat → Nat → Int32} {dr : Int64} {lw : Nat → Option Nat} {σ : St} (h : CW A I R dr lw σ) {i : Int32} (hi : inb i 240) : aI 0 σ (A 8) i = some (R 8 i.toNatClampNeg) := aI_of (h.2 8 rfl) hi
theorem ca_10 {A : Nat → Nat} {I : Nat → Int32} {R : Nat → Nat → Int32} {dr : Int64} {lw : Nat → Option Nat} {σ : St} (h : CW A I R dr lw σ) {i : Int32} (hi : inb i 5) : aI 0 σ (A 10) i = some (R 10 i.toNatClampNeg) := aI_of (h.2 10 rfl) hi
theorem cO_11 {A : Nat → Nat} {I : Nat → Int32} {R : Nat → Nat → Int32} {dr : Int64} {lw : Nat → Option Nat} {σ : St} (h : CW A I R dr lw σ) : isO 7 σ (A 11) = true := isO_of (h.2 11 rfl)
theorem cr_11_0 {A : Nat → Nat} {I : Nat → Int32} {R : Nat → Nat → Int32} {dr : Int64} {lw : Nat → Option Nat} {σ : St} (h : CW A I R dr lw σ) : gI 7 0 σ (A 11) = some (I 220) := gI_of (h.2 11 rfl) rfl
theorem cr_11_1 {A : Nat → Nat} {I : Nat → Int32} {R : Nat → Nat → Int32} {dr : Int64} {lw : Nat → Option Nat} {σ : St} (h : CW A I R dr lw σ) : gI 7 1 σ (A 11) = some (I 221) := gI_of (h.2 11 rfl) rfl
theorem cr_11_2 {A : Nat → Nat} {I : Nat → Int32} {R : Nat → Nat → Int32} {dr : Int64} {lw : Nat → Option Nat} {σ : St} (h : CW A I R dr lw σ) : gI 7 2 σ (A 11) = some (I 222) := gI_of (h.2 11 rfl) rfl
theorem cr_11_3 {A : Nat → Nat} {I : Nat → Int32} {R : Nat → Nat → Int32} {dr : Int64} {lw : Nat → Option Nat} {σ : St} (h : CW A I R dr lw σ) : gI 7 3 σ (A 11) = some (I 223) := gI_of (h.2 11 rfl) rfl
theorem cr_11_4 {A : Nat → Nat} {I : Nat → Int32} {R : Nat → Nat → Int32} {dr : Int64} {lw : Nat → Option Nat} {σ : St} (h : CW A I R dr lw σ) : gI 7 4 σ (A 11) = some (I 224) := gI_of (h.2 11 rfl) rfl
theorem cr_11_5 {A : Nat → Nat} {I : Nat → Int32} {R : Nat → Nat → Int32} {dr : Int64} {lw : Nat → Option Nat} {σ : St} (h : CW A I R dr lw σ) : gI 7 5 σ (A 11) = some (I 225) := gI_of (h.2 11 rfl) rfl
theorem cr_11_6 {A : Nat → Nat} {I : Nat → Int32} {R : Nat → Nat → Int32} {dr : Int64} {lw : Nat → Option Nat} {σ : St} (h : CW A I R dr lw σ) : gI 7 6 σ (A 11) = some (I 226) := gI_of (h.2 11 rfl) rfl
theorem cr_11_7 {A : Nat → Nat} {I : Nat → Int32} {R : Nat → Nat → Int32} {dr : Int64} {lw : Nat → Option Nat} {σ : St} (h : CW A I R dr lw σ) : gI 7 7 σ (A 11) = some (I 227) := gI_of (h.2 11 rfl) rfl
theorem cr_11_8 {A : Nat → Nat} {I : Nat → Int32} {R : Nat → Nat → Int32} {dr : Int64} {lw : Nat → Option Nat} {σ : St} (h : CW A I R dr lw σ) : gI 7 8 σ (A 11) = some (I 228) := gI_of (h.2 11 rfl) rfl
theorem cr_11_9 {A : Nat → Nat} {I : Nat → Int32} {R : Nat → Nat → Int32} {dr : Int64} {lw : Nat → Option Nat} {σ : St} (h : CW A I R dr lw σ) : gR 7 9 σ (A 11) = some (A 12) := gR_of (h.2 11 rfl) rfl
theorem cr_11_10 {A : Nat → Nat} {I : Nat → Int32} {R : Nat → Nat → Int32} {dr : Int64} {lw : Nat → Option Nat} {σ : St} (h : CW A I R dr lw σ) : gR 7 10 σ (A 11) = some (A 13) := gR_of (h.2 11 rfl) rfl
theorem cr_11_11 {A : Nat → Nat} {I : Nat → Int32} {R : Nat → Nat → Int32} {dr : Int64} {lw : Nat → Option Nat} {σ : St} (h : CW A I R dr lw σ) : gR 7 11 σ (A 11) = some (A 14) := gR_of (h.2 11 rfl) rfl
theorem cr_11_12 {A : Nat → Nat} {I : Nat → Int32} {R : Nat → Nat → Int32} {dr : Int64} {lw : Nat → Option Nat} {σ : St} (h : CW A I R dr lw σ) : gR 7 12 σ (A 11) = some (A 15) := gR_of (h.2 11 rfl) rfl
theorem cr_11_13 {A : Nat → Nat} {I : Nat → Int32} {R : Nat → Nat → Int32} {dr : Int64} {lw : Nat → Option Nat} {σ : St} (h : CW A I R dr lw σ) : gR 7 13 σ (A 11) = some (A 16) := gR_of (h.2 11 rfl) rfl
theorem ca_12 {A : Nat → Nat} {I : Nat → Int32} {R : Nat → Nat → Int32} {dr : Int64} {lw : Nat → Option Nat} {σ : St} (h : CW A I R dr lw σ) {i : Int32} (hi : inb i 30) : aI 0 σ (A 12) i = some (R 12 i.toNatClampNeg) := aI_of (h.2 12 rfl) hi
theorem ca_13 {A : Nat → Nat} {I : Nat → Int32} {R : Nat → Nat → Int32} {dr : Int64} {lw : Nat → Option Nat} {σ : St} (h : CW A I R dr lw σ) {i : Int32} (hi : inb i 4) : aI 0 σ (A 13) i = some (R 13 i.toNatClampNeg) := aI_of (h.2 13 rfl) hi
theorem ca_14 {A : Nat → Nat} {I : Nat → Int32} {R : Nat → Nat → Int32} {dr : Int64} {lw : Nat → Option Nat} {σ : St} (h : CW A I R dr lw σ) {i : Int32} (hi : inb i 4) : aI 0 σ (A 14) i = some (R 14 i.toNatClampNeg) := aI_of (h.2 14 rfl) hi
theorem ca_15 {A : Nat → Nat} {I : Nat → Int32} {R : Nat → Nat → Int32} {dr : Int64} {lw : Nat → Option Nat} {σ : St} (h : CW A I R dr lw σ) {i : Int32} (hi : inb i 4) : aI 0 σ (A 15) i = some (R 15 i.toNatClampNeg) := aI_of (h.2 15 rfl) hi
theorem ca_16 {A : Nat → Nat} {I : Nat → Int32} {R : Nat → Nat → Int32} {dr : Int64} {lw : Nat → Option Nat} {σ : St} (h : CW A I R dr lw σ) {i : Int32} (hi : inb i 6) : aI 0 σ (A 16) i = some (R 16 i.toNatClampNeg) := aI_of (h.2 16 rfl) hi
theorem cO_17 {A : Nat → Nat} {I : Nat → Int32} {R : Nat → Nat → Int32} {dr : Int64} {lw : Nat → Option Nat} {σ : St} (h : CW A I R dr lw σ) : isO 7 σ (A 17) = true := isO_of (h.2 17 rfl)
theorem cr_17_0 {A : Nat → Nat} {I : Nat → Int32} {R : Nat → Nat → Int32} {dr : Int64} {lw : Nat → Option Nat} {σ : St} (h : CW A I R dr lw σ) : gI 7 0 σ (A 17) = some (I 340) := gI_of (h.2 17 rfl) rfl
theorem cr_17_1 {A : Nat → Nat} {I : Nat → Int32} {R : Nat → Nat → Int32} {dr : Int64} {lw : Nat → Option Nat} {σ : St} (h : CW A I R dr lw σ) : gI 7 1 σ (A 17) = some (I 341) := gI_of (h.2 17 rfl) rfl
theorem cr_17_2 {A : Nat → Nat} {I : Nat → Int32} {R : Nat → Nat → Int32} {dr : Int64} {lw : Nat → Option Nat} {σ : St} (h : CW A I R dr lw σ) : gI 7 2 σ (A 17) = some (I 342) := gI_of (h.2 17 rfl) rfl
theorem cr_17_3 {A : Nat → Nat} {I : Nat → Int32} {R : Nat → Nat → Int32} {dr : Int64} {lw : Nat → Option Nat} {σ : St} (h : CW A I R dr lw σ) : gI 7 3 σ (A 17) = some (I 343) := gI_of (h.2 17 rfl) rfl
theorem cr_17_4 {A : Nat → Nat} {I : Nat → Int32} {R : Nat → Nat → Int32} {dr : Int64} {lw : Nat → Option Nat} {σ : St} (h : CW A I R dr lw σ) : gI 7 4 σ (A 17) = some (I 344) := gI_of (h.2 17 rfl) rfl
theorem cr_17_5 {A : Nat → Nat} {I : Nat → Int32} {R : Nat → Nat → Int32} {dr : Int64} {lw : Nat → Option Nat} {σ : St} (h : CW A I R dr lw σ) : gI 7 5 σ (A 17) = some (I 345) := gI_of (h.2 17 rfl) rfl
theorem cr_17_6 {A : Nat → Nat} {I : Nat → Int32} {R : Nat → Nat → Int32} {dr : Int64} {lw : Nat → Option Nat} {σ : St} (h : CW A I R dr lw σ) : gI 7 6 σ (A 17) = some (I 346) := gI_of (h.2 17 rfl) rfl
theorem cr_17_7 {A : Nat → Nat} {I : Nat → Int32} {R : Nat → Nat → Int32} {dr : Int64} {lw : Nat → Option Nat} {σ : St} (h : CW A I R dr lw σ) : gI 7 7 σ (A 17) = some (I 347) := gI_of (h.2 17 rfl) rfl
theorem cr_17_8 {A : Nat → Nat} {I : Nat → Int32} {R : Nat → Nat → Int32} {dr : Int64} {lw : Nat → Option Nat} {σ : St} (h : CW A I R dr lw σ) : gI 7 8 σ (A 17) = some (I 348) := gI_of (h.2 17 rfl) rfl
theorem cr_17_9 {A : Nat → Nat} {I : Nat → Int32} {R : Nat → Nat → Int32} {dr : Int64} {lw : Nat → Option Nat} {σ : St} (h : CW A I R dr lw σ) : gR 7 9 σ (A 17) = some (A 18) := gR_of (h.2 17 rfl) rfl
theorem cr_17_10 {A : Nat → Nat} {I : Nat → Int32} {R : Nat → Nat → Int32} {dr : Int64} {lw : Nat → Option Nat} {σ : St} (h : CW A I R dr lw σ) : gR 7 10 σ (A 17) = some (A 19) := gR_of (h.2 17 rfl) rfl
theorem cr_17_11 {A : Nat → Nat} {I : Nat → Int32} {R : Nat → Nat → Int32} {dr : Int64} {lw : Nat → Option Nat} {σ : St} (h : CW A I R dr lw σ) : gR 7 11 σ (A 17) = some (A 20) := gR_of (h.2 17 rfl) rfl
theorem cr_17_12 {A : Nat → Nat} {I : Nat → Int32} {R : Nat → Nat → Int32} {dr : Int64} {lw : Nat → Option Nat} {σ : St} (h : CW A I R dr lw σ) : gR 7 12 σ (A 17) = some (A 21) := gR_of (h.2 17 rfl) rfl
theorem cr_17_13 {A : Nat → Nat} {I : Nat → Int32} {R : Nat → Nat → Int32} {dr : Int64} {lw : Nat → Option Nat} {σ : St} (h : CW A I R dr lw σ) : gR 7 13 σ (A 17) = some (A 22) := gR_of (h.2 17 rfl) rfl
theorem ca_18 {A : Nat → Nat} {I : Nat → Int32} {R : Nat → Nat → Int32} {dr : Int64} {lw : Nat → Option Nat} {σ : St} (h : CW A I R dr lw σ) {i : Int32} (hi : inb i 30) : aI 0 σ (A 18) i = some (R 18 i.toNatClampNeg) := aI_of (h.2 18 rfl) hi
theorem ca_19 {A : Nat → Nat} {I : Nat → Int32} {R : Nat → Nat → Int32} {dr : Int64} {lw : Nat → Option Nat} {σ : St} (h : CW A I R dr lw σ) {i : Int32} (hi : inb i 4) : aI 0 σ (A 19) i = some (R 19 i.toNatClampNeg) := aI_of (h.2 19 rfl) hi
theorem ca_20 {A : Nat → Nat} {I : Nat → Int32} {R : Nat → Nat → Int32} {dr : Int64} {lw : Nat → Option Nat} {σ : St} (h : CW A I R dr lw σ) {i : Int32} (hi : inb i 4) : aI 0 σ (A 20) i = some (R 20 i.toNatClampNeg) := aI_of (h.2 20 rfl) hi
theorem ca_21 {A : Nat → Nat} {I : Nat → Int32} {R : Nat → Nat → Int32} {dr : Int64} {lw : Nat → Option Nat} {σ : St} (h : CW A I R dr lw σ) {i : Int32} (hi : inb i 4) : aI 0 σ (A 21) i = some (R 21 i.toNatClampNeg) := aI_of (h.2 21 rfl) hi
theorem ca_22 {A : Nat → Nat} {I : Nat → Int32} {R : Nat → Nat → Int32} {dr : Int64} {lw : Nat → Option Nat} {σ : St} (h : CW A I R dr lw σ) {i : Int32} (hi : inb i 6) : aI 0 σ (A 22) i = some (R 22 i.toNatClampNeg) := aI_of (h.2 22 rfl) hi
theorem cO_23 {A : Nat → Nat} {I : Nat → Int32} {R : Nat → Nat → Int32} {dr : Int64} {lw : Nat → Option Nat} {σ : St} (h : CW A I R dr lw σ) : isO 7 σ (A 23) = true := isO_of (h.2 23 rfl)
theorem cr_23_0 {A : Nat → Nat} {I : Nat → Int32} {R : Nat → Nat → Int32} {dr : Int64} {lw : Nat → Option Nat} {σ : St} (h : CW A I R dr lw σ) : gI 7 0 σ (A 23) = some (I 460) := gI_of (h.2 23 rfl) rfl
theorem cr_23_1 {A : Nat → Nat} {I : Nat → Int32} {R : Nat → Nat → Int32} {dr : Int64} {lw : Nat → Option Nat} {σ : St} (h : CW A I R dr lw σ) : gI 7 1 σ (A 23) = some (I 461) := gI_of (h.2 23 rfl) rfl
theorem cr_23_2 {A : Nat → Nat} {I : Nat → Int32} {R : Nat → Nat → Int32} {dr : Int64} {lw : Nat → Option Nat} {σ : St} (h : CW A I R dr lw σ) : gI 7 2 σ (A 23) = some (I 462) := gI_of (h.2 23 rfl) rfl
theorem cr_23_3 {A : Nat → Nat} {I : Nat → Int32} {R : Nat → Nat → Int32} {dr : Int64} {lw : Nat → Option Nat} {σ : St} (h : CW A I R dr lw σ) : gI 7 3 σ (A 23) = some (I 463) := gI_of (h.2 23 rfl) rfl
theorem cr_23_4 {A : Nat → Nat} {I : Nat → Int32} {R : Nat → Nat → Int32} {dr : Int64} {lw : Nat → Option Nat} {σ : St} (h : CW A I R dr lw σ) : gI 7 4 σ (A 23) = some (I 464) := gI_of (h.2 23 rfl) rfl
theorem cr_23_5 {A : Nat → Nat} {I : Nat → Int32} {R : Nat → Nat → Int32} {dr : Int64} {lw : Nat → Option Nat} {σ : St} (h : CW A I R dr lw σ) : gI 7 5 σ (A 23) = some (I 465) := gI_of (h.2 23 rfl) rfl
theorem cr_23_6 {A : Nat → Nat} {I : Nat → Int32} {R : Nat → Nat → Int32} {dr : Int64} {lw : Nat → Option Nat} {σ : St} (h : CW A I R dr lw σ) : gI 7 6 σ (A 23) = some (I 466) := gI_of (h.2 23 rfl) rfl
theorem cr_23_7 {A : Nat → Nat} {I : Nat → Int32} {R : Nat → Nat → Int32} {dr : Int64} {lw : Nat → Option Nat} {σ : St} (h : CW A I R dr lw σ) : gI 7 7 σ (A 23) = some (I 467) := gI_of (h.2 23 rfl) rfl
theorem cr_23_8 {A : Nat → Nat} {I : Nat → Int32} {R : Nat → Nat → Int32} {dr : Int64} {lw : Nat → Option Nat} {σ : St} (h : CW A I R dr lw σ) : gI 7 8 σ (A 23) = some (I 468) := gI_of (h.2 23 rfl) rfl
theorem cr_23_9 {A : Nat → Nat} {I : Nat → Int32} {R : Nat → Nat → Int32} {dr : Int64} {lw : Nat → Option Nat} {σ : St} (h : CW A I R dr lw σ) : gR 7 9 σ (A 23) = some (A 24) := gR_of (h.2 23 rfl) rfl
theorem cr_23_10 {A : Nat → Nat} {I : Nat → Int32} {R : Nat → Nat → Int32} {dr : Int64} {lw : Nat → Option Nat} {σ : St} (h : CW A I R dr lw σ) : gR 7 10 σ (A 23) = some (A 25) := gR_of (h.2 23 rfl) rfl
theorem cr_23_11 {A : Nat → Nat} {I : Nat → Int32} {R : Nat → Nat → Int32} {dr : Int64} {lw : Nat → Option Nat} {σ : St} (h : CW A I R dr lw σ) : gR 7 11 σ (A 23) = some (A 26) := gR_of (h.2 23 rfl) rfl
theorem cr_23_12 {A : Nat → Nat} {I : Nat → Int32} {R : Nat → Nat → Int32} {dr : Int64} {lw : Nat → Option Nat} {σ : St} (h : CW A I R dr lw σ) : gR 7 12 σ (A 23) = some (A 27) := gR_of (h.2 23 rfl) rfl
theorem cr_23_13 {A : Nat → Nat} {I : Nat → Int32} {R : Nat → Nat → Int32} {dr : Int64} {lw : Nat → Option Nat} {σ : St} (h : CW A I R dr lw σ) : gR 7 13 σ (A 23) = some (A 28) := gR_of (h.2 23 rfl) rfl
theorem ca_24 {A : Nat → Nat} {I : Nat → Int32} {R : Nat → Nat → Int32} {dr : Int64} {lw : Nat → Option Nat} {σ : St} (h : CW A I R dr lw σ) {i : Int32} (hi : inb i 30) : aI 0 σ (A 24) i = some (R 24 i.toNatClampNeg) := aI_of (h.2 24 rfl) hi
theorem ca_25 {A : Nat → Nat} {I : Nat → Int32} {R : Nat → Nat → Int32} {dr : Int64} {lw : Nat → Option Nat} {σ : St} (h : CW A I R dr lw σ) {i : Int32} (hi : inb i 4) : aI 0 σ (A 25) i = some (R 25 i.toNatClampNeg) := aI_of (h.2 25 rfl) hi
theorem ca_26 {A : Nat → Nat} {I : Nat → Int32} {R : Nat → Nat → Int32} {dr : Int64} {lw : Nat → Option Nat} {σ : St} (h : CW A I R dr lw σ) {i : Int32} (hi : inb i 4) : aI 0 σ (A 26) i = some (R 26 i.toNatClampNeg) := aI_of (h.2 26 rfl) hi
theorem ca_27 {A : Nat → Nat} {I : Nat → Int32} {R : Nat → Nat → Int32} {dr : Int64} {lw : Nat → Option Nat} {σ : St} (h : CW A I R dr lw σ) {i : Int32} (hi : inb i 4) : aI 0 σ (A 27) i = some (R 27 i.toNatClampNeg) := aI_of (h.2 27 rfl) hi
theorem ca_28 {A : Nat → Nat} {I : Nat → Int32} {R : Nat → Nat → Int32} {dr : Int64} {lw : Nat → Option Nat} {σ : St} (h : CW A I R dr lw σ) {i : Int32} (hi : inb i 6) : aI 0 σ (A 28) i = some (R 28 i.toNatClampNeg) := aI_of (h.2 28 rfl) hi
theorem cO_29 {A : Nat → Nat} {I : Nat → Int32} {R : Nat → Nat → Int32} {dr : Int64} {lw : Nat → Option Nat} {σ : St} (h : CW A I R dr lw σ) : isO 5 σ (A 29) = true := isO_of (h.2 29 rfl)
theorem cr_29_0 {A : Nat → Nat} {I : Nat → Int32} {R : Nat → Nat → Int32} {dr : Int64} {lw : Nat → Option Nat} {σ : St} (h : CW A I R dr lw σ) : gR 5 0 σ (A 29) = some (A 30) := gR_of (h.2 29 rfl) rfl
theorem cr_29_1 {A : Nat → Nat} {I : Nat → Int32} {R : Nat → Nat → Int32} {dr : Int64} {lw : Nat → Option Nat} {σ : St} (h : CW A I R dr lw σ) : gI 5 1 σ (A 29) = some (I 581) := gI_of (h.2 29 rfl) rfl
theorem cr_29_2 {A : Nat → Nat} {I : Nat → Int32} {R : Nat → Nat → Int32} {dr : Int64} {lw : Nat → Option Nat} {σ : St} (h : CW A I R dr lw σ) : gI 5 2 σ (A 29) = some (I 582) := gI_of (h.2 29 rfl) rfl
theorem cr_29_3 {A : Nat → Nat} {I : Nat → Int32} {R : Nat → Nat → Int32} {dr : Int64} {lw : Nat → Option Nat} {σ : St} (h : CW A I R dr lw σ) : gR 5 3 σ (A 29) = some (A 31) := gR_of (h.2 29 rfl) rfl
theorem cr_29_4 {A : Nat → Nat} {I : Nat → Int32} {R : Nat → Nat → Int32} {dr : Int64} {lw : Nat → Option Nat} {σ : St} (h : CW A I R dr lw σ) : gR 5 4 σ (A 29) = some (A 32) := gR_of (h.2 29 rfl) rfl
theorem cr_29_5 {A : Nat → Nat} {I : Nat → Int32} {R : Nat → Nat → Int32} {dr : Int64} {lw : Nat → Option Nat} {σ : St} (h : CW A I R dr lw σ) : gR 5 5 σ (A 29) = some (A 33) := gR_of (h.2 29 rfl) rfl
theorem cr_29_6 {A : Nat → Nat} {I : Nat → Int32} {R : Nat → Nat → Int32} {dr : Int64} {lw : Nat → Option Nat} {σ : St} (h : CW A I R dr lw σ) : gI 5 6 σ (A 29) = some (I 586) := gI_of (h.2 29 rfl) rfl
theorem ca_30 {A : Nat → Nat} {I : Nat → Int32} {R : Nat → Nat → Int32} {dr : Int64} {lw : Nat → Option Nat} {σ : St} (h : CW A I R dr lw σ) {i : Int32} (hi : inb i 1720) : aI 0 σ (A 30) i = some (R 30 i.toNatClampNeg) := aI_of (h.2 30 rfl) hi
theorem ca_31 {A : Nat → Nat} {I : Nat → Int32} {R : Nat → Nat → Int32} {dr : Int64} {lw : Nat → Option Nat} {σ : St} (h : CW A I R dr lw σ) {i : Int32} (hi : inb i 128) : aI 0 σ (A 31) i = some (R 31 i.toNatClampNeg) := aI_of (h.2 31 rfl) hi
theorem ca_32 {A : Nat → Nat} {I : Nat → Int32} {R : Nat → Nat → Int32} {dr : Int64} {lw : Nat → Option Nat} {σ : St} (h : CW A I R dr lw σ) {i : Int32} (hi : inb i 128) : aI 0 σ (A 32) i = some (R 32 i.toNatClampNeg) := aI_of (h.2 32 rfl) hi
theorem ca_33 {A : Nat → Nat} {I : Nat → Int32} {R : Nat → Nat → Int32} {dr : Int64} {lw : Nat → Option Nat} {σ : St} (h : CW A I R dr lw σ) {i : Int32} (hi : inb i 43) : aI 0 σ (A 33) i = some (R 33 i.toNatClampNeg) := aI_of (h.2 33 rfl) hi
theorem cO_34 {A : Nat → Nat} {I : Nat → Int32} {R : Nat → Nat → Int32} {dr : Int64} {lw : Nat → Option Nat} {σ : St} (h : CW A I R dr lw σ) : isO 1 σ (A 34) = true := isO_of (h.2 34 rfl)
theorem cr_34_0 {A : Nat → Nat} {I : Nat → Int32} {R : Nat → Nat → Int32} {dr : Int64} {lw : Nat → Option Nat} {σ : St} (h : CW A I R dr lw σ) : gR 1 0 σ (A 34) = some (A 35) := gR_of (h.2 34 rfl) rfl
theorem cr_34_1 {A : Nat → Nat} {I : Nat → Int32} {R : Nat → Nat → Int32} {dr : Int64} {lw : Nat → Option Nat} {σ : St} (h : CW A I R dr lw σ) : gR 1 1 σ (A 34) = some (A 36) := gR_of (h.2 34 rfl) rfl
theorem cr_34_2 {A : Nat → Nat} {I : Nat → Int32} {R : Nat → Nat → Int32} {dr : Int64} {lw : Nat → Option Nat} {σ : St} (h : CW A I R dr lw σ) : gR 1 2 σ (A 34) = some (A 37) := gR_of (h.2 34 rfl) rfl
theorem cr_34_3 {A : Nat → Nat} {I : Nat → Int32} {R : Nat → Nat → Int32} {dr : Int64} {lw : Nat → Option Nat} {σ : St} (h : CW A I R dr lw σ) : gI 1 3 σ (A 34) = some (I 683) := gI_of (h.2 34 rfl) rfl
theorem cr_34_4 {A : Nat → Nat} {I : Nat → Int32} {R : Nat → Nat → Int32} {dr : Int64} {lw : Nat → Option Nat} {σ : St} (h : CW A I R dr lw σ) : gR 1 4 σ (A 34) = some (A 38) := gR_of (h.2 34 rfl) rfl
theorem cr_34_5 {A : Nat → Nat} {I : Nat → Int32} {R : Nat → Nat → Int32} {dr : Int64} {lw : Nat → Option Nat} {σ : St} (h : CW A I R dr lw σ) : gR 1 5 σ (A 34) = some (A 39) := gR_of (h.2 34 rfl) rfl
theorem cr_34_6 {A : Nat → Nat} {I : Nat → Int32} {R : Nat → Nat → Int32} {dr : Int64} {lw : Nat → Option Nat} {σ : St} (h : CW A I R dr lw σ) : gI 1 6 σ (A 34) = some (I 686) := gI_of (h.2 34 rfl) rfl
theorem ca_35 {A : Nat → Nat} {I : Nat → Int32} {R : Nat → Nat → Int32} {dr : Int64} {lw : Nat → Option Nat} {σ : St} (h : CW A I R dr lw σ) {i : Int32} (hi : inb i 10) : aI 0 σ (A 35) i = some (R 35 i.toNatClampNeg) := aI_of (h.2 35 rfl) hi
theorem ca_36 {A : Nat → Nat} {I : Nat → Int32} {R : Nat → Nat → Int32} {dr : Int64} {lw : Nat → Option Nat} {σ : St} (h : CW A I R dr lw σ) {i : Int32} (hi : inb i 10) : aI 0 σ (A 36) i = some (R 36 i.toNatClampNeg) := aI_of (h.2 36 rfl) hi
theorem ca_37 {A : Nat → Nat} {I : Nat → Int32} {R : Nat → Nat → Int32} {dr : Int64} {lw : Nat → Option Nat} {σ : St} (h : CW A I R dr lw σ) {i : Int32} (hi : inb i 10) : aI 1 σ (A 37) i = some (R 37 i.toNatClampNeg) := aI_of (h.2 37 rfl) hi
theorem ca_38 {A : Nat → Nat} {I : Nat → Int32} {R : Nat → Nat → Int32} {dr : Int64} {lw : Nat → Option Nat} {σ : St} (h : CW A I R dr lw σ) {i : Int32} (hi : inb i 10) : aI 0 σ (A 38) i = some (R 38 i.toNatClampNeg) := aI_of (h.2 38 rfl) hi
theorem ca_39 {A : Nat → Nat} {I : Nat → Int32} {R : Nat → Nat → Int32} {dr : Int64} {lw : Nat → Option Nat} {σ : St} (h : CW A I R dr lw σ) {i : Int32} (hi : inb i 10) : aI 0 σ (A 39) i = some (R 39 i.toNatClampNeg) := aI_of (h.2 39 rfl) hi
theorem cO_40 {A : Nat → Nat} {I : Nat → Int32} {R : Nat → Nat → Int32} {dr : Int64} {lw : Nat → Option Nat} {σ : St} (h : CW A I R dr lw σ) : isO 6 σ (A 40) = true := isO_of (h.2 40 rfl)
theorem cr_40_0 {A : Nat → Nat} {I : Nat → Int32} {R : Nat → Nat → Int32} {dr : Int64} {lw : Nat → Option Nat} {σ : St} (h : CW A I R dr lw σ) : gR 6 0 σ (A 40) = some (A 41) := gR_of (h.2 40 rfl) rfl
theorem ca_41 {A : Nat → Nat} {I : Nat → Int32} {R : Nat → Nat → Int32} {dr : Int64} {lw : Nat → Option Nat} {σ : St} (h : CW A I R dr lw σ) {i : Int32} (hi : inb i 30) : aI 0 σ (A 41) i = some (R 41 i.toNatClampNeg) := aI_of (h.2 41 rfl) hi
theorem cO_42 {A : Nat → Nat} {I : Nat → Int32} {R : Nat → Nat → Int32} {dr : Int64} {lw : Nat → Option Nat} {σ : St} (h : CW A I R dr lw σ) : isO 0 σ (A 42) = true := isO_of (h.2 42 rfl)
theorem cr_42_0 {A : Nat → Nat} {I : Nat → Int32} {R : Nat → Nat → Int32} {dr : Int64} {lw : Nat → Option Nat} {σ : St} (h : CW A I R dr lw σ) : gR 0 0 σ (A 42) = some (A 43) := gR_of (h.2 42 rfl) rfl
theorem cr_42_1 {A : Nat → Nat} {I : Nat → Int32} {R : Nat → Nat → Int32} {dr : Int64} {lw : Nat → Option Nat} {σ : St} (h : CW A I R dr lw σ) : gR 0 1 σ (A 42) = some (A 44) := gR_of (h.2 42 rfl) rfl
theorem ca_43 {A : Nat → Nat} {I : Nat → Int32} {R : Nat → Nat → Int32} {dr : Int64} {lw : Nat → Option Nat} {σ : St} (h : CW A I R dr lw σ) {i : Int32} (hi : inb i 4) : aI 0 σ (A 43) i = some (R 43 i.toNatClampNeg) := aI_of (h.2 43 rfl) hi
theorem ca_44 {A : Nat → Nat} {I : Nat → Int32} {R : Nat → Nat → Int32} {dr : Int64} {lw : Nat → Option Nat} {σ : St} (h : CW A I R dr lw σ) {i : Int32} (hi : inb i 4) : aI 0 σ (A 44) i = some (R 44 i.toNatClampNeg) := aI_of (h.2 44 rfl) hi
def cellM (A : Nat → Nat) (I : Nat → Int32) (R : Nat → Nat → Int32) (dr : Int64) : Nat → aE := fun k => match k with
  | 0 => .inr (10, [.int (I 0), .ref (A 1), .int (I 2), .int (I 3), .int (I 4), .int (I 5), .ref (A 6), .ref (A 7), .ref (A 8), .ref (A 9), .ref (A 10), .ref (A 11), .ref (A 12), .int (I 13), .int (I 14), .ref (A 15), .ref (A 16), .ref (A 17), .ref (A 18), .ref (A 19), .ref (A 20), .int (I 21), .int (I 22), .ref (A 23), .ref (A 24), .ref (A 25), .int (I 26), .int (I 27), .ref (A 28), .ref (A 29), .int (I 30), .int (I 31), .ref (A 32), .int (I 33), .long dr, .ref (A 35), .ref (A 36), .ref (A 37), .ref (A 38), .ref (A 39), .int (I 40), .ref (A 41), .ref (A 42), .int (I 43), .ref (A 44), .int (I 45)])
  | 1 => .inl (0, 240, .inl (R 1))
  | 6 => .inl (0, 2600, .inl (R 6))
  | 7 => .inl (0, 2600, .inl (R 7))
  | 8 => .inl (0, 5, .inl (R 8))
  | 9 => .inl (0, 5, .inl (R 9))
  | 10 => .inl (0, 700, .inl (R 10))
  | 11 => .inl (0, 700, .inl (R 11))
  | 12 => .inl (0, 700, .inl (R 12))
  | 15 => .inl (0, 6, .inl (R 15))
  | 16 => .inl (0, 80, .inl (R 16))
  | 17 => .inl (0, 4, .inl (R 17))
  | 18 => .inl (0, 30, .inl (R 18))
  | 19 => .inl (0, 5, .inl (R 19))
  | 20 => .inl (0, 16, .inl (R 20))
  | 23 => .inl (0, 4, .inl (R 23))
  | 24 => .inl (0, 30, .inl (R 24))
  | 25 => .inl (0, 16, .inl (R 25))
  | 28 => .inl (0, 223, .inl (R 28))
  | 29 => .inl (0, 5, .inl (R 29))
  | 32 => .inl (0, 8920, .inl (R 32))
  | 35 => .inl (0, 30, .inl (R 35))
  | 36 => .inl (0, 30, .inl (R 36))
  | 37 => .inl (0, 10, .inl (R 37))
  | 38 => .inl (0, 10, .inl (R 38))
  | 39 => .inl (1, 10, .inl (R 39))
  | 41 => .inl (0, 10, .inl (R 41))
  | 42 => .inl (0, 10, .inl (R 42))
  | 44 => .inl (0, 223, .inl (R 44))
  | _ => .inr (0, [])
def domM (k : Nat) : Bool := ([0, 1, 6, 7, 8, 9, 10, 11, 12, 15, 16, 17, 18, 19, 20, 23, 24, 25, 28, 29, 32, 35, 36, 37, 38, 39, 41, 42, 44] : List Nat).contains k
def setM (A : Nat → Nat) (a : Nat) : Prop := ∃ k, domM k = true ∧ a = A k
def MW (A : Nat → Nat) (I : Nat → Int32) (R : Nat → Nat → Int32) (dr : Int64) (σ : St) : Prop := (∀ i j, domM i = true → domM j = true → A i = A j → i = j) ∧ ∀ k, domM k = true → σ.2.2 (A k) = some (cellM A I R dr k)
set_option maxHeartbeats 2000000 in
theorem cellM_congr {A : Nat → Nat} {I I2 : Nat → Int32} {R R2 : Nat → Nat → Int32} {dr dr2 : Int64} (k : Nat) (hd : domM k = true) (hI : ∀ f, f < 50 → I2 (50 * k + f) = I (50 * k + f)) (hR : R2 k = R k) (h0 : k = 0 → dr2 = dr) : cellM A I2 R2 dr2 k = cellM A I R dr k := by
  have hk : k < 45 := by
    simp [domM] at hd
    omega
  match k, hk, hI, hR, h0 with
  | 0, _, hI, hR, h0 => simp only [cellM]; rw [h0 rfl, show I2 0 = I 0 from hI 0 (by decide), show I2 2 = I 2 from hI 2 (by decide), show I2 3 = I 3 from hI 3 (by decide), show I2 4 = I 4 from hI 4 (by decide), show I2 5 = I 5 from hI 5 (by decide), show I2 13 = I 13 from hI 13 (by decide), show I2 14 = I 14 from hI 14 (by decide), show I2 21 = I 21 from hI 21 (by decide), show I2 22 = I 22 from hI 22 (by decide), show I2 26 = I 26 from hI 26 (by decide), show I2 27 = I 27 from hI 27 (by decide), show I2 30 = I 30 from hI 30 (by decide), show I2 31 = I 31 from hI 31 (by decide), show I2 33 = I 33 from hI 33 (by decide), show I2 40 = I 40 from hI 40 (by decide), show I2 43 = I 43 from hI 43 (by decide), show I2 45 = I 45 from hI 45 (by decide)]
  | 1, _, hI, hR, h0 => simp only [cellM]; rw [hR]
  | 2, _, _, _, _ => rfl
  | 3, _, _, _, _ => rfl
  | 4, _, _, _, _ => rfl
  | 5, _, _, _, _ => rfl
  | 6, _, hI, hR, h0 => simp only [cellM]; rw [hR]
  | 7, _, hI, hR, h0 => simp only [cellM]; rw [hR]
  | 8, _, hI, hR, h0 => simp only [cellM]; rw [hR]
  | 9, _, hI, hR, h0 => simp only [cellM]; rw [hR]
  | 10, _, hI, hR, h0 => simp only [cellM]; rw [hR]
  | 11, _, hI, hR, h0 => simp only [cellM]; rw [hR]
  | 12, _, hI, hR, h0 => simp only [cellM]; rw [hR]
  | 13, _, _, _, _ => rfl
  | 14, _, _, _, _ => rfl
  | 15, _, hI, hR, h0 => simp only [cellM]; rw [hR]
  | 16, _, hI, hR, h0 => simp only [cellM]; rw [hR]
  | 17, _, hI, hR, h0 => simp only [cellM]; rw [hR]
  | 18, _, hI, hR, h0 => simp only [cellM]; rw [hR]
  | 19, _, hI, hR, h0 => simp only [cellM]; rw [hR]
  | 20, _, hI, hR, h0 => simp only [cellM]; rw [hR]
  | 21, _, _, _, _ => rfl
  | 22, _, _, _, _ => rfl
  | 23, _, hI, hR, h0 => simp only [cellM]; rw [hR]
  | 24, _, hI, hR, h0 => simp only [cellM]; rw [hR]
  | 25, _, hI, hR, h0 => simp only [cellM]; rw [hR]
  | 26, _, _, _, _ => rfl
  | 27, _, _, _, _ => rfl
  | 28, _, hI, hR, h0 => simp only [cellM]; rw [hR]
  | 29, _, hI, hR, h0 => simp only [cellM]; rw [hR]
  | 30, _, _, _, _ => rfl
  | 31, _, _, _, _ => rfl
  | 32, _, hI, hR, h0 => simp only [cellM]; rw [hR]
  | 33, _, _, _, _ => rfl
  | 34, _, _, _, _ => rfl
  | 35, _, hI, hR, h0 => simp only [cellM]; rw [hR]
  | 36, _, hI, hR, h0 => simp only [cellM]; rw [hR]
  | 37, _, hI, hR, h0 => simp only [cellM]; rw [hR]
  | 38, _, hI, hR, h0 => simp only [cellM]; rw [hR]
  | 39, _, hI, hR, h0 => simp only [cellM]; rw [hR]
  | 40, _, _, _, _ => rfl
  | 41, _, hI, hR, h0 => simp only [cellM]; rw [hR]
  | 42, _, hI, hR, h0 => simp only [cellM]; rw [hR]
  | 43, _, _, _, _ => rfl
  | 44, _, hI, hR, h0 => simp only [cellM]; rw [hR]
  | k + 45, hk, _, _, _ => omega
theorem MW.put {A : Nat → Nat} {I I2 : Nat → Int32} {R R2 : Nat → Nat → Int32} {dr dr2 : Int64} {σ : St} (h : MW A I R dr σ) (k : Nat) (hk : domM k = true) (hI : ∀ j f, j ≠ k → f < 50 → I2 (50 * j + f) = I (50 * j + f)) (hR : ∀ j, j ≠ k → R2 j = R j) (h0 : k ≠ 0 → dr2 = dr) : MW A I2 R2 dr2 (σ.1, σ.2.1, up σ.2.2 (A k) (cellM A I2 R2 dr2 k)) ∧ Sm (setM A) σ (σ.1, σ.2.1, up σ.2.2 (A k) (cellM A I2 R2 dr2 k)) := by
  refine ⟨⟨h.1, fun j hj => ?_⟩, rfl, fun b hb => up_n _ _ (fun e => hb ⟨k, hk, e⟩)⟩
  by_cases e : j = k
  · subst e; exact up_s _ _ _
  · show up σ.2.2 (A k) _ (A j) = _
    rw [up_n _ _ (fun q => e (h.1 j k hj hk q)), h.2 j hj]
    exact congrArg some (cellM_congr j hj (fun f hf => hI j f e hf) (hR j e) (fun z => h0 (fun q => e (z.trans q.symm))) ).symm
theorem MW.sm {A : Nat → Nat} {I : Nat → Int32} {R : Nat → Nat → Int32} {dr : Int64} {σ t : St} {S : Nat → Prop} (h : MW A I R dr σ) (hs : Sm S σ t) (hd : ∀ k, domM k = true → ¬ S (A k)) : MW A I R dr t := ⟨h.1, fun k hk => (hs.2 (A k) (hd k hk)).trans (h.2 k hk)⟩
theorem MW.putI {A : Nat → Nat} {I : Nat → Int32} {R : Nat → Nat → Int32} {dr : Int64} {σ : St} (h : MW A I R dr σ) (k f : Nat) (v : Int32) {ci : Nat} {fs : List Value} (hk : domM k = true) (hf : f < 50) (hc : cellM A I R dr k = .inr (ci, fs)) (hl : f < fs.length) (hn : cellM A (upd I (50 * k + f) v) R dr k = .inr (ci, fs.set f (.int v))) : ∃ t, pV ci f σ (A k) (.int v) = some t ∧ MW A (upd I (50 * k + f) v) R dr t ∧ Sm (setM A) σ t := by
  have h1 : σ.2.2 (A k) = some (.inr (ci, fs)) := (h.2 k hk).trans (congrArg some hc)
  obtain ⟨g1, g2⟩ := h.put (I2 := upd I (50 * k + f) v) (R2 := R) (dr2 := dr) k hk (fun j g hj hg => pk_un (by omega)) (fun _ _ => rfl) (fun _ => rfl) 
  rw [hn] at g1 g2
  exact ⟨_, pV_of h1 hl _, g1, g2⟩
theorem MW.putA {A : Nat → Nat} {I : Nat → Int32} {R : Nat → Nat → Int32} {dr : Int64} {σ : St} (h : MW A I R dr σ) (k : Nat) (i v : Int32) {t z : Nat} (hk : domM k = true) (hc : ∀ R, cellM A I R dr k = .inl (t, z, .inl (R k))) (hi : inb i z) : ∃ u, sI t σ (A k) i v = some u ∧ MW A I (updR R k (upd (R k) i.toNatClampNeg v)) dr u ∧ Sm (setM A) σ u := by
  have h1 : σ.2.2 (A k) = some (.inl (t, z, .inl (R k))) := (h.2 k hk).trans (congrArg some (hc R))
  obtain ⟨g1, g2⟩ := h.put (I2 := I) (R2 := updR R k (upd (R k) i.toNatClampNeg v)) (dr2 := dr) k hk (fun _ _ _ _ => rfl) (fun j hj => updR_n _ _ hj) (fun _ => rfl) 
  rw [hc, updR_s] at g1 g2
  exact ⟨_, sI_of h1 hi _, g1, g2⟩
theorem mO_0 {A : Nat → Nat} {I : Nat → Int32} {R : Nat → Nat → Int32} {dr : Int64} {σ : St} (h : MW A I R dr σ) : isO 10 σ (A 0) = true := isO_of (h.2 0 rfl)
theorem mr_0_0 {A : Nat → Nat} {I : Nat → Int32} {R : Nat → Nat → Int32} {dr : Int64} {σ : St} (h : MW A I R dr σ) : gI 10 0 σ (A 0) = some (I 0) := gI_of (h.2 0 rfl) rfl
theorem mr_0_1 {A : Nat → Nat} {I : Nat → Int32} {R : Nat → Nat → Int32} {dr : Int64} {σ : St} (h : MW A I R dr σ) : gR 10 1 σ (A 0) = some (A 1) := gR_of (h.2 0 rfl) rfl
theorem mr_0_2 {A : Nat → Nat} {I : Nat → Int32} {R : Nat → Nat → Int32} {dr : Int64} {σ : St} (h : MW A I R dr σ) : gI 10 2 σ (A 0) = some (I 2) := gI_of (h.2 0 rfl) rfl
theorem mr_0_3 {A : Nat → Nat} {I : Nat → Int32} {R : Nat → Nat → Int32} {dr : Int64} {σ : St} (h : MW A I R dr σ) : gI 10 3 σ (A 0) = some (I 3) := gI_of (h.2 0 rfl) rfl
theorem mr_0_4 {A : Nat → Nat} {I : Nat → Int32} {R : Nat → Nat → Int32} {dr : Int64} {σ : St} (h : MW A I R dr σ) : gI 10 4 σ (A 0) = some (I 4) := gI_of (h.2 0 rfl) rfl
theorem mr_0_5 {A : Nat → Nat} {I : Nat → Int32} {R : Nat → Nat → Int32} {dr : Int64} {σ : St} (h : MW A I R dr σ) : gI 10 5 σ (A 0) = some (I 5) := gI_of (h.2 0 rfl) rfl
theorem mr_0_6 {A : Nat → Nat} {I : Nat → Int32} {R : Nat → Nat → Int32} {dr : Int64} {σ : St} (h : MW A I R dr σ) : gR 10 6 σ (A 0) = some (A 6) := gR_of (h.2 0 rfl) rfl
theorem mr_0_7 {A : Nat → Nat} {I : Nat → Int32} {R : Nat → Nat → Int32} {dr : Int64} {σ : St} (h : MW A I R dr σ) : gR 10 7 σ (A 0) = some (A 7) := gR_of (h.2 0 rfl) rfl
theorem mr_0_8 {A : Nat → Nat} {I : Nat → Int32} {R : Nat → Nat → Int32} {dr : Int64} {σ : St} (h : MW A I R dr σ) : gR 10 8 σ (A 0) = some (A 8) := gR_of (h.2 0 rfl) rfl
theorem mr_0_9 {A : Nat → Nat} {I : Nat → Int32} {R : Nat → Nat → Int32} {dr : Int64} {σ : St} (h : MW A I R dr σ) : gR 10 9 σ (A 0) = some (A 9) := gR_of (h.2 0 rfl) rfl
theorem mr_0_10 {A : Nat → Nat} {I : Nat → Int32} {R : Nat → Nat → Int32} {dr : Int64} {σ : St} (h : MW A I R dr σ) : gR 10 10 σ (A 0) = some (A 10) := gR_of (h.2 0 rfl) rfl
theorem mr_0_11 {A : Nat → Nat} {I : Nat → Int32} {R : Nat → Nat → Int32} {dr : Int64} {σ : St} (h : MW A I R dr σ) : gR 10 11 σ (A 0) = some (A 11) := gR_of (h.2 0 rfl) rfl
theorem mr_0_12 {A : Nat → Nat} {I : Nat → Int32} {R : Nat → Nat → Int32} {dr : Int64} {σ : St} (h : MW A I R dr σ) : gR 10 12 σ (A 0) = some (A 12) := gR_of (h.2 0 rfl) rfl
theorem mr_0_13 {A : Nat → Nat} {I : Nat → Int32} {R : Nat → Nat → Int32} {dr : Int64} {σ : St} (h : MW A I R dr σ) : gI 10 13 σ (A 0) = some (I 13) := gI_of (h.2 0 rfl) rfl
theorem mr_0_14 {A : Nat → Nat} {I : Nat → Int32} {R : Nat → Nat → Int32} {dr : Int64} {σ : St} (h : MW A I R dr σ) : gI 10 14 σ (A 0) = some (I 14) := gI_of (h.2 0 rfl) rfl
theorem mr_0_15 {A : Nat → Nat} {I : Nat → Int32} {R : Nat → Nat → Int32} {dr : Int64} {σ : St} (h : MW A I R dr σ) : gR 10 15 σ (A 0) = some (A 15) := gR_of (h.2 0 rfl) rfl
theorem mr_0_16 {A : Nat → Nat} {I : Nat → Int32} {R : Nat → Nat → Int32} {dr : Int64} {σ : St} (h : MW A I R dr σ) : gR 10 16 σ (A 0) = some (A 16) := gR_of (h.2 0 rfl) rfl
theorem mr_0_17 {A : Nat → Nat} {I : Nat → Int32} {R : Nat → Nat → Int32} {dr : Int64} {σ : St} (h : MW A I R dr σ) : gR 10 17 σ (A 0) = some (A 17) := gR_of (h.2 0 rfl) rfl
theorem mr_0_18 {A : Nat → Nat} {I : Nat → Int32} {R : Nat → Nat → Int32} {dr : Int64} {σ : St} (h : MW A I R dr σ) : gR 10 18 σ (A 0) = some (A 18) := gR_of (h.2 0 rfl) rfl
theorem mr_0_19 {A : Nat → Nat} {I : Nat → Int32} {R : Nat → Nat → Int32} {dr : Int64} {σ : St} (h : MW A I R dr σ) : gR 10 19 σ (A 0) = some (A 19) := gR_of (h.2 0 rfl) rfl
theorem mr_0_20 {A : Nat → Nat} {I : Nat → Int32} {R : Nat → Nat → Int32} {dr : Int64} {σ : St} (h : MW A I R dr σ) : gR 10 20 σ (A 0) = some (A 20) := gR_of (h.2 0 rfl) rfl
theorem mr_0_21 {A : Nat → Nat} {I : Nat → Int32} {R : Nat → Nat → Int32} {dr : Int64} {σ : St} (h : MW A I R dr σ) : gI 10 21 σ (A 0) = some (I 21) := gI_of (h.2 0 rfl) rfl
theorem mr_0_22 {A : Nat → Nat} {I : Nat → Int32} {R : Nat → Nat → Int32} {dr : Int64} {σ : St} (h : MW A I R dr σ) : gI 10 22 σ (A 0) = some (I 22) := gI_of (h.2 0 rfl) rfl
theorem mr_0_23 {A : Nat → Nat} {I : Nat → Int32} {R : Nat → Nat → Int32} {dr : Int64} {σ : St} (h : MW A I R dr σ) : gR 10 23 σ (A 0) = some (A 23) := gR_of (h.2 0 rfl) rfl
theorem mr_0_24 {A : Nat → Nat} {I : Nat → Int32} {R : Nat → Nat → Int32} {dr : Int64} {σ : St} (h : MW A I R dr σ) : gR 10 24 σ (A 0) = some (A 24) := gR_of (h.2 0 rfl) rfl
theorem mr_0_25 {A : Nat → Nat} {I : Nat → Int32} {R : Nat → Nat → Int32} {dr : Int64} {σ : St} (h : MW A I R dr σ) : gR 10 25 σ (A 0) = some (A 25) := gR_of (h.2 0 rfl) rfl
theorem mr_0_26 {A : Nat → Nat} {I : Nat → Int32} {R : Nat → Nat → Int32} {dr : Int64} {σ : St} (h : MW A I R dr σ) : gI 10 26 σ (A 0) = some (I 26) := gI_of (h.2 0 rfl) rfl
theorem mr_0_27 {A : Nat → Nat} {I : Nat → Int32} {R : Nat → Nat → Int32} {dr : Int64} {σ : St} (h : MW A I R dr σ) : gI 10 27 σ (A 0) = some (I 27) := gI_of (h.2 0 rfl) rfl
theorem mr_0_28 {A : Nat → Nat} {I : Nat → Int32} {R : Nat → Nat → Int32} {dr : Int64} {σ : St} (h : MW A I R dr σ) : gR 10 28 σ (A 0) = some (A 28) := gR_of (h.2 0 rfl) rfl
theorem mr_0_29 {A : Nat → Nat} {I : Nat → Int32} {R : Nat → Nat → Int32} {dr : Int64} {σ : St} (h : MW A I R dr σ) : gR 10 29 σ (A 0) = some (A 29) := gR_of (h.2 0 rfl) rfl
theorem mr_0_30 {A : Nat → Nat} {I : Nat → Int32} {R : Nat → Nat → Int32} {dr : Int64} {σ : St} (h : MW A I R dr σ) : gI 10 30 σ (A 0) = some (I 30) := gI_of (h.2 0 rfl) rfl
theorem mr_0_31 {A : Nat → Nat} {I : Nat → Int32} {R : Nat → Nat → Int32} {dr : Int64} {σ : St} (h : MW A I R dr σ) : gI 10 31 σ (A 0) = some (I 31) := gI_of (h.2 0 rfl) rfl
theorem mr_0_32 {A : Nat → Nat} {I : Nat → Int32} {R : Nat → Nat → Int32} {dr : Int64} {σ : St} (h : MW A I R dr σ) : gR 10 32 σ (A 0) = some (A 32) := gR_of (h.2 0 rfl) rfl
theorem mr_0_33 {A : Nat → Nat} {I : Nat → Int32} {R : Nat → Nat → Int32} {dr : Int64} {σ : St} (h : MW A I R dr σ) : gI 10 33 σ (A 0) = some (I 33) := gI_of (h.2 0 rfl) rfl
theorem mr_0_34 {A : Nat → Nat} {I : Nat → Int32} {R : Nat → Nat → Int32} {dr : Int64} {σ : St} (h : MW A I R dr σ) : gL 10 34 σ (A 0) = some dr := gL_of (h.2 0 rfl) rfl
theorem mr_0_35 {A : Nat → Nat} {I : Nat → Int32} {R : Nat → Nat → Int32} {dr : Int64} {σ : St} (h : MW A I R dr σ) : gR 10 35 σ (A 0) = some (A 35) := gR_of (h.2 0 rfl) rfl
theorem mr_0_36 {A : Nat → Nat} {I : Nat → Int32} {R : Nat → Nat → Int32} {dr : Int64} {σ : St} (h : MW A I R dr σ) : gR 10 36 σ (A 0) = some (A 36) := gR_of (h.2 0 rfl) rfl
theorem mr_0_37 {A : Nat → Nat} {I : Nat → Int32} {R : Nat → Nat → Int32} {dr : Int64} {σ : St} (h : MW A I R dr σ) : gR 10 37 σ (A 0) = some (A 37) := gR_of (h.2 0 rfl) rfl
theorem mr_0_38 {A : Nat → Nat} {I : Nat → Int32} {R : Nat → Nat → Int32} {dr : Int64} {σ : St} (h : MW A I R dr σ) : gR 10 38 σ (A 0) = some (A 38) := gR_of (h.2 0 rfl) rfl
theorem mr_0_39 {A : Nat → Nat} {I : Nat → Int32} {R : Nat → Nat → Int32} {dr : Int64} {σ : St} (h : MW A I R dr σ) : gR 10 39 σ (A 0) = some (A 39) := gR_of (h.2 0 rfl) rfl
theorem mr_0_40 {A : Nat → Nat} {I : Nat → Int32} {R : Nat → Nat → Int32} {dr : Int64} {σ : St} (h : MW A I R dr σ) : gI 10 40 σ (A 0) = some (I 40) := gI_of (h.2 0 rfl) rfl
theorem mr_0_41 {A : Nat → Nat} {I : Nat → Int32} {R : Nat → Nat → Int32} {dr : Int64} {σ : St} (h : MW A I R dr σ) : gR 10 41 σ (A 0) = some (A 41) := gR_of (h.2 0 rfl) rfl
theorem mr_0_42 {A : Nat → Nat} {I : Nat → Int32} {R : Nat → Nat → Int32} {dr : Int64} {σ : St} (h : MW A I R dr σ) : gR 10 42 σ (A 0) = some (A 42) := gR_of (h.2 0 rfl) rfl
theorem mr_0_43 {A : Nat → Nat} {I : Nat → Int32} {R : Nat → Nat → Int32} {dr : Int64} {σ : St} (h : MW A I R dr σ) : gI 10 43 σ (A 0) = some (I 43) := gI_of (h.2 0 rfl) rfl
theorem mr_0_44 {A : Nat → Nat} {I : Nat → Int32} {R : Nat → Nat → Int32} {dr : Int64} {σ : St} (h : MW A I R dr σ) : gR 10 44 σ (A 0) = some (A 44) := gR_of (h.2 0 rfl) rfl
theorem mr_0_45 {A : Nat → Nat} {I : Nat → Int32} {R : Nat → Nat → Int32} {dr : Int64} {σ : St} (h : MW A I R dr σ) : gI 10 45 σ (A 0) = some (I 45) := gI_of (h.2 0 rfl) rfl
theorem ma_1 {A : Nat → Nat} {I : Nat → Int32} {R : Nat → Nat → Int32} {dr : Int64} {σ : St} (h : MW A I R dr σ) {i : Int32} (hi : inb i 240) : aI 0 σ (A 1) i = some (R 1 i.toNatClampNeg) := aI_of (h.2 1 rfl) hi
theorem ma_6 {A : Nat → Nat} {I : Nat → Int32} {R : Nat → Nat → Int32} {dr : Int64} {σ : St} (h : MW A I R dr σ) {i : Int32} (hi : inb i 2600) : aI 0 σ (A 6) i = some (R 6 i.toNatClampNeg) := aI_of (h.2 6 rfl) hi
theorem ma_7 {A : Nat → Nat} {I : Nat → Int32} {R : Nat → Nat → Int32} {dr : Int64} {σ : St} (h : MW A I R dr σ) {i : Int32} (hi : inb i 2600) : aI 0 σ (A 7) i = some (R 7 i.toNatClampNeg) := aI_of (h.2 7 rfl) hi
theorem ma_8 {A : Nat → Nat} {I : Nat → Int32} {R : Nat → Nat → Int32} {dr : Int64} {σ : St} (h : MW A I R dr σ) {i : Int32} (hi : inb i 5) : aI 0 σ (A 8) i = some (R 8 i.toNatClampNeg) := aI_of (h.2 8 rfl) hi
theorem ma_9 {A : Nat → Nat} {I : Nat → Int32} {R : Nat → Nat → Int32} {dr : Int64} {σ : St} (h : MW A I R dr σ) {i : Int32} (hi : inb i 5) : aI 0 σ (A 9) i = some (R 9 i.toNatClampNeg) := aI_of (h.2 9 rfl) hi
theorem ma_10 {A : Nat → Nat} {I : Nat → Int32} {R : Nat → Nat → Int32} {dr : Int64} {σ : St} (h : MW A I R dr σ) {i : Int32} (hi : inb i 700) : aI 0 σ (A 10) i = some (R 10 i.toNatClampNeg) := aI_of (h.2 10 rfl) hi
theorem ma_11 {A : Nat → Nat} {I : Nat → Int32} {R : Nat → Nat → Int32} {dr : Int64} {σ : St} (h : MW A I R dr σ) {i : Int32} (hi : inb i 700) : aI 0 σ (A 11) i = some (R 11 i.toNatClampNeg) := aI_of (h.2 11 rfl) hi
theorem ma_12 {A : Nat → Nat} {I : Nat → Int32} {R : Nat → Nat → Int32} {dr : Int64} {σ : St} (h : MW A I R dr σ) {i : Int32} (hi : inb i 700) : aI 0 σ (A 12) i = some (R 12 i.toNatClampNeg) := aI_of (h.2 12 rfl) hi
theorem ma_15 {A : Nat → Nat} {I : Nat → Int32} {R : Nat → Nat → Int32} {dr : Int64} {σ : St} (h : MW A I R dr σ) {i : Int32} (hi : inb i 6) : aI 0 σ (A 15) i = some (R 15 i.toNatClampNeg) := aI_of (h.2 15 rfl) hi
theorem ma_16 {A : Nat → Nat} {I : Nat → Int32} {R : Nat → Nat → Int32} {dr : Int64} {σ : St} (h : MW A I R dr σ) {i : Int32} (hi : inb i 80) : aI 0 σ (A 16) i = some (R 16 i.toNatClampNeg) := aI_of (h.2 16 rfl) hi
theorem ma_17 {A : Nat → Nat} {I : Nat → Int32} {R : Nat → Nat → Int32} {dr : Int64} {σ : St} (h : MW A I R dr σ) {i : Int32} (hi : inb i 4) : aI 0 σ (A 17) i = some (R 17 i.toNatClampNeg) := aI_of (h.2 17 rfl) hi
theorem ma_18 {A : Nat → Nat} {I : Nat → Int32} {R : Nat → Nat → Int32} {dr : Int64} {σ : St} (h : MW A I R dr σ) {i : Int32} (hi : inb i 30) : aI 0 σ (A 18) i = some (R 18 i.toNatClampNeg) := aI_of (h.2 18 rfl) hi
theorem ma_19 {A : Nat → Nat} {I : Nat → Int32} {R : Nat → Nat → Int32} {dr : Int64} {σ : St} (h : MW A I R dr σ) {i : Int32} (hi : inb i 5) : aI 0 σ (A 19) i = some (R 19 i.toNatClampNeg) := aI_of (h.2 19 rfl) hi
theorem ma_20 {A : Nat → Nat} {I : Nat → Int32} {R : Nat → Nat → Int32} {dr : Int64} {σ : St} (h : MW A I R dr σ) {i : Int32} (hi : inb i 16) : aI 0 σ (A 20) i = some (R 20 i.toNatClampNeg) := aI_of (h.2 20 rfl) hi
theorem ma_23 {A : Nat → Nat} {I : Nat → Int32} {R : Nat → Nat → Int32} {dr : Int64} {σ : St} (h : MW A I R dr σ) {i : Int32} (hi : inb i 4) : aI 0 σ (A 23) i = some (R 23 i.toNatClampNeg) := aI_of (h.2 23 rfl) hi
theorem ma_24 {A : Nat → Nat} {I : Nat → Int32} {R : Nat → Nat → Int32} {dr : Int64} {σ : St} (h : MW A I R dr σ) {i : Int32} (hi : inb i 30) : aI 0 σ (A 24) i = some (R 24 i.toNatClampNeg) := aI_of (h.2 24 rfl) hi
theorem ma_25 {A : Nat → Nat} {I : Nat → Int32} {R : Nat → Nat → Int32} {dr : Int64} {σ : St} (h : MW A I R dr σ) {i : Int32} (hi : inb i 16) : aI 0 σ (A 25) i = some (R 25 i.toNatClampNeg) := aI_of (h.2 25 rfl) hi
theorem ma_28 {A : Nat → Nat} {I : Nat → Int32} {R : Nat → Nat → Int32} {dr : Int64} {σ : St} (h : MW A I R dr σ) {i : Int32} (hi : inb i 223) : aI 0 σ (A 28) i = some (R 28 i.toNatClampNeg) := aI_of (h.2 28 rfl) hi
theorem ma_29 {A : Nat → Nat} {I : Nat → Int32} {R : Nat → Nat → Int32} {dr : Int64} {σ : St} (h : MW A I R dr σ) {i : Int32} (hi : inb i 5) : aI 0 σ (A 29) i = some (R 29 i.toNatClampNeg) := aI_of (h.2 29 rfl) hi
theorem ma_32 {A : Nat → Nat} {I : Nat → Int32} {R : Nat → Nat → Int32} {dr : Int64} {σ : St} (h : MW A I R dr σ) {i : Int32} (hi : inb i 8920) : aI 0 σ (A 32) i = some (R 32 i.toNatClampNeg) := aI_of (h.2 32 rfl) hi
theorem ma_35 {A : Nat → Nat} {I : Nat → Int32} {R : Nat → Nat → Int32} {dr : Int64} {σ : St} (h : MW A I R dr σ) {i : Int32} (hi : inb i 30) : aI 0 σ (A 35) i = some (R 35 i.toNatClampNeg) := aI_of (h.2 35 rfl) hi
theorem ma_36 {A : Nat → Nat} {I : Nat → Int32} {R : Nat → Nat → Int32} {dr : Int64} {σ : St} (h : MW A I R dr σ) {i : Int32} (hi : inb i 30) : aI 0 σ (A 36) i = some (R 36 i.toNatClampNeg) := aI_of (h.2 36 rfl) hi
theorem ma_37 {A : Nat → Nat} {I : Nat → Int32} {R : Nat → Nat → Int32} {dr : Int64} {σ : St} (h : MW A I R dr σ) {i : Int32} (hi : inb i 10) : aI 0 σ (A 37) i = some (R 37 i.toNatClampNeg) := aI_of (h.2 37 rfl) hi
theorem ma_38 {A : Nat → Nat} {I : Nat → Int32} {R : Nat → Nat → Int32} {dr : Int64} {σ : St} (h : MW A I R dr σ) {i : Int32} (hi : inb i 10) : aI 0 σ (A 38) i = some (R 38 i.toNatClampNeg) := aI_of (h.2 38 rfl) hi
theorem ma_39 {A : Nat → Nat} {I : Nat → Int32} {R : Nat → Nat → Int32} {dr : Int64} {σ : St} (h : MW A I R dr σ) {i : Int32} (hi : inb i 10) : aI 1 σ (A 39) i = some (R 39 i.toNatClampNeg) := aI_of (h.2 39 rfl) hi
theorem ma_41 {A : Nat → Nat} {I : Nat → Int32} {R : Nat → Nat → Int32} {dr : Int64} {σ : St} (h : MW A I R dr σ) {i : Int32} (hi : inb i 10) : aI 0 σ (A 41) i = some (R 41 i.toNatClampNeg) := aI_of (h.2 41 rfl) hi
theorem ma_42 {A : Nat → Nat} {I : Nat → Int32} {R : Nat → Nat → Int32} {dr : Int64} {σ : St} (h : MW A I R dr σ) {i : Int32} (hi : inb i 10) : aI 0 σ (A 42) i = some (R 42 i.toNatClampNeg) := aI_of (h.2 42 rfl) hi
theorem ma_44 {A : Nat → Nat} {I : Nat → Int32} {R : Nat → Nat → Int32} {dr : Int64} {σ : St} (h : MW A I R dr σ) {i : Int32} (hi : inb i 223) : aI 0 σ (A 44) i = some (R 44 i.toNatClampNeg) := aI_of (h.2 44 rfl) hi
