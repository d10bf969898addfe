/-! No byte of the tape is -1 -/
theorem byt_ne (w s : Int32) : byt w s ≠ -1 := by
  intro h
  have e : bt (byt w s) 31 = bt (-1) 31 := by rw [h]
  unfold byt at e
  rw [b_and, b_255, b_m1 31 (by decide)] at e
  simp at e
theorem nz_ne {b x : Int32} (hb : b ≠ -1) (h : x ∈ nz b) : x ≠ -1 := by
  unfold nz at h
  by_cases q : b = 0
  · rw [if_pos q] at h; cases h
  · rw [if_neg q] at h
    have : x = b := by simpa using h
    rw [this]; exact hb
theorem by4_ne {w x : Int32} (h : x ∈ by4 w) : x ≠ -1 := by
  unfold by4 at h
  simp only [List.mem_append] at h
  rcases h with h | h | h | h <;> exact nz_ne (byt_ne _ _) h
theorem by20_ne {a b c d e x : Int32} (h : x ∈ by20 a b c d e) : x ≠ -1 := by
  unfold by20 at h
  simp only [List.mem_append] at h
  rcases h with h | h | h | h | h <;> exact by4_ne h
theorem lay_ne : ∀ (l : List Int32) (f : Nat → Int32) (n : Nat), (∀ i, i < n → f i ≠ -1) → (∀ x, x ∈ l → x ≠ -1) → ∀ i, i < n + l.length → lay f n l i ≠ -1
  | [], f, n, hf, _, i, hi => hf i hi
  | b :: bs, f, n, hf, hl, i, hi => by
    refine lay_ne bs (upd f n b) (n + 1) (fun j hj => ?_) (fun x hx => hl x (List.mem_cons_of_mem _ hx)) i (by simp only [List.length_cons] at hi; omega)
    unfold upd
    by_cases q : j = n
    · rw [if_pos q]; exact hl b List.mem_cons_self
    · rw [if_neg q]; exact hf j (by omega)
def TpOK (T : Tap) : Prop := ∀ i, i < T.1 → T.2 i ≠ -1
theorem feed_tp {a : Abs} (h : TpOK a.1) (v1 v2 v3 v4 v5 : Int32) : TpOK (feedA a v1 v2 v3 v4 v5).2.1 := by
  unfold feedA
  by_cases q : a.1.1 + (by20 v1 v2 v3 v4 v5).length ≤ 240
  · rw [if_pos q]
    exact fun i hi => lay_ne _ _ _ h (fun x hx => by20_ne hx) i hi
  · rw [if_neg q]; exact h
