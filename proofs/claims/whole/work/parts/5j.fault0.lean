/-! FAULT of a LAND -/
section
variable {K : Cfg} {M : Mfg} {dr : Int64} {a : Abs} {σ : St}
theorem c_fault0 (h : CA K dr a σ) (hz : StK K) (hT : ∀ i, i < a.1.1 → a.1.2 i ≠ -1) : Ok (fX9_fault σ (K.1 0) 0) (fun r t => r = oI (landT a.1).2 ∧ CA K dr a t) := by
  have h0 : gR 9 1 σ (K.1 0) = some (K.1 3) ∧ isO 2 σ (K.1 3) = true := by
    obtain ⟨I, R, h1, _⟩ := h
    exact ⟨kr_0_1 h1, kO_3 h1⟩
  unfold fX9_fault
  refine Ok.bT rfl (Ok.r h0.1 (Ok.v h0.2 (t_read h hz hT) ?_))
  rintro r t ⟨rfl, p, f, g⟩
  exact Ok.p ⟨rfl, g.ca⟩
theorem m_fault0 (h : MA M dr a σ) : Ok (fX10_fault σ (M.1 0) 0) (fun r t => r = oI (landT a.1).2 ∧ MA M dr a t) := by
  unfold fX10_fault
  refine Ok.bT rfl (Ok.v (ma_O h) (u_land h) ?_)
  rintro r t ⟨rfl, g, _⟩
  exact Ok.p ⟨rfl, g⟩
end
