/-! Every call but tower answers alike -/
section
theorem Ok.e1 {E : Option (Int32 × St)} {r : Int32} {σ : St} {P : St → Prop} (e : E = some (r, σ)) (h : P σ) : Ok E (fun r' t => r' = r ∧ P t) := ⟨r, σ, e, rfl, h⟩
theorem s_feed (v0 v1 v2 v3 v4 : Int32) : stp RelX (fun t x => fX9_feed t x v0 v1 v2 v3 v4) (fun t m => fX10_feed t m v0 v1 v2 v3 v4) := pair (fun K dr a τ h hz hA hH => ⟨_, dr, _, c_feedA h v0 v1 v2 v3 v4, fun M τ' h' => m_feedA h' v0 v1 v2 v3 v4, feedA_ok hA v0 v1 v2 v3 v4, hr_feed hH v0 v1 v2 v3 v4⟩)
theorem s_end (v0 : Int32) : stp RelX (fun t x => fX9_end t x v0) (fun t m => fX10_end t m v0) := pair (fun K dr a τ h hz hA hH => ⟨_, dr, _, c_endA h v0, fun M τ' h' => m_endA h' v0, endA_ok hA (by obtain ⟨I, R, h1, h2⟩ := h; exact h2.1.2.1) v0, hr_end hH v0⟩)
theorem c_fault1 {K : Cfg} {dr : Int64} {a : Abs} {σ : St} (h : CA K dr a σ) : Ok (fX9_fault σ (K.1 0) 1) (fun r t => r = oI (fltL (lawT a.1)) ∧ CA K dr a t) := by
  have h0 : gR 9 2 σ (K.1 0) = some (K.1 7) ∧ isO 4 σ (K.1 7) = true := by
    obtain ⟨I, R, h1, _⟩ := h
    exact ⟨kr_0_2 h1, kO_7 h1⟩
  unfold fX9_fault
  refine Ok.bF (by decide) (Ok.bT rfl (Ok.r h0.1 (Ok.v h0.2 (c_readLaw h) ?_)))
  rintro r t ⟨rfl, g⟩
  refine Ok.p ⟨rfl, ?_⟩
  cases e : lawT a.1 with
  | inl q => rw [e] at g; obtain ⟨p, g⟩ := g; exact g.ca
  | inr l => rw [e] at g; obtain ⟨p, g⟩ := g; exact g.ca
theorem m_fault1 {M : Mfg} {dr : Int64} {a : Abs} {σ : St} (h : MA M dr a σ) : Ok (fX10_fault σ (M.1 0) 1) (fun r t => r = oI (fltL (lawT a.1)) ∧ MA M dr a t) := by
  have hl4 : a.2.1.1 ≤ 4 := by
    obtain ⟨J, Q, h1, h2⟩ := h
    exact h2.2.1.2.1
  unfold fX10_fault
  refine Ok.bF (by decide) (Ok.bT rfl (Ok.v (ma_O h) (r_readLaw (n0 := 4) h hl4 (Nat.le_refl _)) ?_))
  rintro r t ⟨rfl, g⟩
  refine Ok.p ⟨rfl, ?_⟩
  cases e : lawT a.1 with
  | inl q => rw [e] at g; exact g
  | inr l => rw [e] at g; obtain ⟨J, Q, g1, g2, _⟩ := g; exact ⟨J, Q, g1, g2⟩
theorem s_fault (v0 : Int32) : stp RelX (fun t x => fX9_fault t x v0) (fun t m => fX10_fault t m v0) := by
  refine pair (fun K dr a τ h hz hA hH => ?_)
  by_cases z0 : v0 = 0
  · subst z0
    exact ⟨_, dr, a, c_fault0 h hz hA.tp, fun M τ' h' => m_fault0 h', hA, hH⟩
  by_cases z1 : v0 = 1
  · subst z1
    exact ⟨_, dr, a, c_fault1 h, fun M τ' h' => m_fault1 h', hA, hH⟩
  · refine ⟨-2, dr, a, ?_, fun M τ' h' => ?_, hA, hH⟩
    · show Ok (fX9_fault τ (K.1 0) v0) _
      unfold fX9_fault
      exact Ok.bF z0 (Ok.bF z1 (Ok.p ⟨rfl, h⟩))
    · show Ok (fX10_fault τ' (M.1 0) v0) _
      unfold fX10_fault
      exact Ok.bF z0 (Ok.bF z1 (Ok.p ⟨rfl, h'⟩))
theorem s_rule (v0 : Int32) : stp RelX (fun t x => fX9_rule t x v0) (fun t m => fX10_rule t m v0) := pair (fun K dr a τ h hz hA hH => ⟨_, dr, a, Ok.e1 (c_rule h hA.2 v0) h, fun M τ' h' => Ok.e1 (m_rule h' hA.2 v0) h', hA, hH⟩)
theorem s_height (v0 : Int32) : stp RelX (fun t x => fX9_height t x v0) (fun t m => fX10_height t m v0) := pair (fun K dr a τ h hz hA hH => ⟨_, dr, a, Ok.e1 (c_heightA h hA.2 v0) h, fun M τ' h' => Ok.e1 (m_heightA h' hA.2 v0) h', hA, hH⟩)
theorem s_law (v0 : Int32) : stp RelX (fun t x => fX9_law t x v0) (fun t m => fX10_law t m v0) := pair (fun K dr a τ h hz hA hH => ⟨_, dr, _, c_lawA h v0, fun M τ' h' => m_lawA h' v0, lawA_ok hA v0, hr_law hH v0⟩)
theorem s_hours (v0 : Int32) : stp RelX (fun t x => fX9_hours t x v0) (fun t m => fX10_hours t m v0) := pair (fun K dr a τ h hz hA hH => ⟨_, dr, _, c_hours h hA.2 v0, fun M τ' h' => m_hours h' hA.2 v0, hoursA_ok hA v0, hr_hours hH v0⟩)
theorem s_heap (v0 : Int32) : stp RelX (fun t x => fX9_heap t x v0) (fun t m => fX10_heap t m v0) := pair (fun K dr a τ h hz hA hH => ⟨_, dr, _, c_heap h hA.2 v0, fun M τ' h' => m_heap h' hA.2 v0, shapeA_ok hA v0 9 (· + 1) (fun g h1 h2 => by show g + 1 ≤ 9; omega), hr_shape hH v0 9 (· + 1)⟩)
theorem s_dig (v0 : Int32) : stp RelX (fun t x => fX9_dig t x v0) (fun t m => fX10_dig t m v0) := pair (fun K dr a τ h hz hA hH => ⟨_, dr, _, c_dig h hA.2 v0, fun M τ' h' => m_dig h' hA.2 v0, shapeA_ok hA v0 0 (· - 1) (fun g h1 h2 => by show g - 1 ≤ 9; omega), hr_shape hH v0 0 (· - 1)⟩)
theorem s_mast (v0 : Int32) : stp RelX (fun t x => fX9_mast t x v0) (fun t m => fX10_mast t m v0) := pair (fun K dr a τ h hz hA hH => ⟨_, dr, _, c_mast h hA.2 v0, fun M τ' h' => m_mast h' hA.2 v0, mastA_ok hA v0, hr_mast hH v0⟩)
theorem s_moves (v0 v1 : Int32) : stp RelX (fun t x => fX9_moves t x v0 v1) (fun t m => fX10_moves t m v0 v1) := pair (fun K dr a τ h hz hA hH => ⟨_, dr, _, c_moves h hA.2 v0 v1, fun M τ' h' => m_moves h' hA.2 v0 v1, movesA_ok hA v0 v1, hr_moves hH v0 v1⟩)
theorem s_fogX (v0 : Int32) : stp RelX (fun t x => fX9_fog t x v0) (fun t m => fX10_fog t m v0) := pair (fun K dr a τ h hz hA hH => ⟨_, dr, _, c_fog h hA.2 v0, fun M τ' h' => m_fog h' hA.2 v0, fogA_ok hA v0, hr_fog hH v0⟩)
theorem s_oath (v0 : Int32) : stp RelX (fun t x => fX9_oath t x v0) (fun t m => fX10_oath t m v0) := pair (fun K dr a τ h hz hA hH => ⟨_, dr, _, c_oath h hA.2 v0, fun M τ' h' => m_oath h' hA.2 v0, oathA_ok hA v0, hr_oath hH v0⟩)
theorem s_give (v0 : Int32) : stp RelX (fun t x => fX9_give t x v0) (fun t m => fX10_give t m v0) := pair (fun K dr a τ h hz hA hH => ⟨_, dr, _, c_give h hA.2 v0, fun M τ' h' => m_give h' hA.2 v0, giveA_ok hA v0, hr_give hH v0⟩)
theorem s_mist (v0 : Int32) : stp RelX (fun t x => fX9_mist t x v0) (fun t m => fX10_mist t m v0) := pair (fun K dr a τ h hz hA hH => ⟨_, dr, _, c_mistA h v0, fun M τ' h' => m_mistA h' v0, mistA_ok hA v0, hr_mist hH v0⟩)
theorem s_yearsF {f : Int64 → Int64} (hf : dwF f) (v0 : Int32) (v1 : Int64) : stp RelX (fun t x => fX9_years t x v0 v1) (fun t m => fX10_years t m v0 v1) := pair (fun K dr a τ h hz hA hH => ⟨_, (yearsA f a v0 v1 dr).2.2, _, c_years hf h hA.2 v0 v1, fun M τ' h' => m_years hf h' hA.2 v0 v1, yearsA_ok f hA v0 v1 dr, hr_years f hA hH v0 v1 dr⟩)
theorem s_years (v0 : Int32) (v1 : Int64) : stp RelX (fun t x => fX9_years t x v0 v1) (fun t m => fX10_years t m v0 v1) := s_yearsF (f := fun x => (x * 6364136223846793005) + 1442695040888963407) (fun _ => rfl) v0 v1
theorem s_status (v0 : Int32) : stp RelX (fun t x => fX9_status t x v0) (fun t m => fX10_status t m v0) := pair (fun K dr a τ h hz hA hH => ⟨_, dr, a, Ok.e1 (c_statusA h v0) h, fun M τ' h' => Ok.e1 (m_statusA h' v0) h', hA, hH⟩)
theorem s_undo : stp RelX (fun t x => fX9_undo t x ) (fun t m => fX10_undo t m ) := pair (fun K dr a τ h hz hA hH => ⟨_, dr, _, ca_undo h hA.2, fun M τ' h' => ma_undo h' hA.2, undoA_ok hA, hr_undo hH⟩)
theorem s_log (v0 v1 : Int32) : stp RelX (fun t x => fX9_log t x v0 v1) (fun t m => fX10_log t m v0 v1) := pair (fun K dr a τ h hz hA hH => ⟨_, dr, a, Ok.e1 (ca_log h hA.2 v0 v1) h, fun M τ' h' => Ok.e1 (ma_log h' hA.2 v0 v1) h', hA, hH⟩)
theorem s_sees (v0 v1 : Int32) : stp RelX (fun t x => fX9_sees t x v0 v1) (fun t m => fX10_sees t m v0 v1) := pair (fun K dr a τ h hz hA hH => ⟨_, dr, a, c_sees h hA.2 v0 v1, fun M τ' h' => m_sees h' hA.2 v0 v1, hA, hH⟩)
theorem s_map (v0 v1 : Int32) : stp RelX (fun t x => fX9_map t x v0 v1) (fun t m => fX10_map t m v0 v1) := pair (fun K dr a τ h hz hA hH => ⟨_, dr, a, c_map h hA.2 v0 v1, fun M τ' h' => m_map h' hA.2 v0 v1, hA, hH⟩)
theorem s_way (v0 v1 v2 : Int32) : stp RelX (fun t x => fX9_way t x v0 v1 v2) (fun t m => fX10_way t m v0 v1 v2) := pair (fun K dr a τ h hz hA hH => ⟨_, dr, a, c_way h hA.2 v0 v1 v2, fun M τ' h' => m_way h' hA.2 v0 v1 v2, hA, hH⟩)
theorem s_risk (v0 v1 : Int32) : stp RelX (fun t x => fX9_risk t x v0 v1) (fun t m => fX10_risk t m v0 v1) := pair (fun K dr a τ h hz hA hH => ⟨_, dr, a, c_risk h hA.2 v0 v1, fun M τ' h' => m_risk h' hA.2 v0 v1, hA, hH⟩)
theorem s_enough : stp RelX (fun t x => fX9_enough t x ) (fun t m => fX10_enough t m ) := pair (fun K dr a τ h hz hA hH => ⟨_, dr, a, c_enough h hA.2, fun M τ' h' => m_enough h' hA.2, hA, hH⟩)
theorem s_site (v0 v1 v2 : Int32) : stp RelX (fun t x => fX9_site t x v0 v1 v2) (fun t m => fX10_site t m v0 v1 v2) := pair (fun K dr a τ h hz hA hH => ⟨_, dr, a, c_site h hA.2 v0 v1 v2, fun M τ' h' => m_site h' hA.2 v0 v1 v2, hA, hH⟩)
theorem s_watched (v0 : Int32) : stp RelX (fun t x => fX9_watched t x v0) (fun t m => fX10_watched t m v0) := pair (fun K dr a τ h hz hA hH => ⟨_, dr, a, c_watched h hA.2 v0, fun M τ' h' => m_watched h' hA.2 v0, hA, hH⟩)
theorem s_given (v0 v1 v2 : Int32) (hb : v2 = 0 ∨ v2 = 1) : stp RelX (fun t x => fX9_given t x v0 v1 v2) (fun t m => fX10_given t m v0 v1 v2) := by
  rcases hb with rfl | rfl
  · exact pair (fun K dr a τ h hz hA hH => ⟨_, dr, _, c_given h hA.2 v0 v1 false, fun M τ' h' => m_given h' hA.2 v0 v1 false, givenA_ok hA v0 v1 false, hr_given hH v0 v1 false⟩)
  · exact pair (fun K dr a τ h hz hA hH => ⟨_, dr, _, c_given h hA.2 v0 v1 true, fun M τ' h' => m_given h' hA.2 v0 v1 true, givenA_ok hA v0 v1 true, hr_given hH v0 v1 true⟩)
theorem s_heights (v0 v1 : Int32) : stp RelX (fun t x => fX9_heights t x v0 v1) (fun t m => fX10_heights t m v0 v1) := pair (fun K dr a τ h hz hA hH => ⟨_, dr, a, c_heights h hA.2 v0 v1, fun M τ' h' => m_heights h' hA.2 v0 v1, hA, hH⟩)
theorem s_ask (v0 : Int32) : stp RelX (fun t x => fX9_ask t x v0) (fun t m => fX10_ask t m v0) := pair (fun K dr a τ h hz hA hH => ⟨_, dr, a, c_ask h hA.2 v0, fun M τ' h' => m_ask h' hA.2 v0, hA, hH⟩)
theorem s_heard (v0 v1 : Int32) : stp RelX (fun t x => fX9_heard t x v0 v1) (fun t m => fX10_heard t m v0 v1) := pair (fun K dr a τ h hz hA hH => ⟨_, dr, _, c_heard h hA.2 v0 v1, fun M τ' h' => m_heard h' hA.2 v0 v1, heardA_ok hA v0 v1, hr_heard hH v0 v1⟩)
theorem s_game (v0 v1 v2 v3 v4 : Int32) : stp RelX (fun t x => fX9_game t x v0 v1 v2 v3 v4) (fun t m => fX10_game t m v0 v1 v2 v3 v4) := pair (fun K dr a τ h hz hA hH => ⟨_, dr, a, c_game h hA.2 v0 v1 v2 v3 v4, fun M τ' h' => m_game h' hA.2 v0 v1 v2 v3 v4, hA, hH⟩)
theorem s_rests (v0 v1 v2 : Int32) : stp RelX (fun t x => fX9_rests t x v0 v1 v2) (fun t m => fX10_rests t m v0 v1 v2) := pair (fun K dr a τ h hz hA hH => ⟨_, dr, a, c_rests h hA.2 v0 v1 v2, fun M τ' h' => m_rests h' hA.2 v0 v1 v2, hA, hH⟩)
theorem s_odds (v0 v1 v2 : Int32) : stp RelX (fun t x => fX9_odds t x v0 v1 v2) (fun t m => fX10_odds t m v0 v1 v2) := pair (fun K dr a τ h hz hA hH => ⟨_, dr, a, c_odds h hA.2 hH.1 v0 v1 v2, fun M τ' h' => m_odds h' hA.2 hH.1 v0 v1 v2, hA, hH⟩)
theorem s_shares (v0 v1 : Int32) : stp RelX (fun t x => fX9_shares t x v0 v1) (fun t m => fX10_shares t m v0 v1) := pair (fun K dr a τ h hz hA hH => ⟨_, dr, a, c_shares h hA.2 v0 v1, fun M τ' h' => m_shares h' hA.2 v0 v1, hA, hH⟩)
theorem s_most (v0 : Int32) : stp RelX (fun t x => fX9_most t x v0) (fun t m => fX10_most t m v0) := pair (fun K dr a τ h hz hA hH => ⟨_, dr, a, c_most h hA.2 v0, fun M τ' h' => m_most h' hA.2 v0, hA, hH⟩)
theorem s_image : stp RelX (fun t x => fX9_image t x ) (fun t m => fX10_image t m ) := pair (fun K dr a τ h hz hA hH => ⟨_, dr, _, ca_image h hA.2, fun M τ' h' => ma_image h' hA.2, imageA_ok hA, hr_image hH⟩)
theorem s_back : stp RelX (fun t x => fX9_back t x ) (fun t m => fX10_back t m ) := pair (fun K dr a τ h hz hA hH => ⟨_, dr, _, ca_back h hA.2, fun M τ' h' => ma_back h' hA.2, backA_ok hA, hr_back hH⟩)
theorem s_count (v0 : Int32) : stp RelX (fun t x => fX9_count t x v0) (fun t m => fX10_count t m v0) := pair (fun K dr a τ h hz hA hH => ⟨_, dr, a, Ok.e1 (c_count h hA.2 v0) h, fun M τ' h' => Ok.e1 (m_count h' v0) h', hA, hH⟩)
theorem s_text (v0 : Int32) : stpT RelX (fun t m => fX10_text t m v0) (fun t x F => wX9_text t x v0 F) := by
  rintro x mo ou σ ⟨K, M, dr, a, f, ⟨rfl, rfl⟩, hc, hm, hA, hH, hd, hs, ho, ho1, ho2⟩
  have hz := st_K hc (fun j hj => ⟨(hs j hj).1, (hs j hj).2.1⟩)
  refine ⟨fun z0 => ⟨fun z1 => ?_, fun z1 => ⟨ca_O hc, ?_⟩⟩, fun z0 => ⟨ca_O hc, ?_⟩⟩
  · refine rel_fin (E2 := fun t m => fX10_text t m v0) (r := -1) rfl hm hc rfl (fun _ _ => rfl) hd hs ho ho1 ho2 (fun M τ h' => ?_) hA hH
    show Ok (fX10_text τ (M.1 0) v0) _
    unfold fX10_text
    exact Ok.j1 (Ok.bF z0 (Ok.bF z1 (Ok.p ⟨rfl, h'⟩)))
  · subst z1
    refine c_takeLaw hc (fun t1 c1 q => ?_) (fun l c K' t1 el h4 hcc hK hsub hnew c1 e1 ez => ?_)
    · have w := hc.sm2 c1
      refine rel_fin (E2 := fun t m => fX10_text t m 1) (r := -1) rfl hm c1 w.1 w.2 hd hs ho ho1 ho2 (fun M τ h' => ?_) hA hH
      exact (m_text1 h').imp (fun r t g => g.1 q)
    · have hn : ∀ z, setK K' z → ∀ e, σ.2.2 z = some e → setK K z := fun z hz e he => by
        rcases hnew z hz with q | q
        · exact q
        · rw [q.1] at he; cases he
      refine rel_fin (E2 := fun t m => fX10_text t m 1) (r := nI a.2.1.1) hK hm c1 e1 ez (fun z hz q => ?_) (fun j hj => ?_) ho (fun q => ho1 (hn ou q _ ho)) ho2 (fun M τ h' => ?_) (lawN_ok hA _) hH
      · obtain ⟨e, he⟩ := ma_has hm q
        exact hd z (hn z hz e he) q
      · obtain ⟨s1, s2, s3⟩ := hs j hj
        refine ⟨s1, fun q => ?_, s3⟩
        rcases hnew _ q with q | ⟨q1, q2⟩
        · exact s2 q
        · unfold rd at s1
          rw [q1, q2] at s1
          cases s1
      · exact (m_text1 h').imp (fun r t g => g.2 l el h4 c hcc)
  · subst z0
    obtain ⟨r, t1, e1, g1, g2⟩ := c_takeLand hc hz hA.tp
    refine ⟨r, t1, e1, ?_⟩
    by_cases q : (landT a.1).2 = none
    · obtain ⟨rfl, c1⟩ := g2 q
      have w := hc.sm2 c1
      obtain ⟨k1, k2⟩ := landN_ok q
      refine rel_fin (E2 := fun t m => fX10_text t m 0) (r := nI (qC (scnL (landT a.1).1))) rfl hm c1 w.1 w.2 hd hs ho ho1 ho2 (fun M τ h' => ?_) k1 k2
      exact (m_text0 h').imp (fun r t g => g.2 q)
    · obtain ⟨rfl, c1⟩ := g1 q
      have w := hc.sm2 c1
      refine rel_fin (E2 := fun t m => fX10_text t m 0) (r := -1) rfl hm c1 w.1 w.2 hd hs ho ho1 ho2 (fun M τ h' => ?_) hA hH
      exact (m_text0 h').imp (fun r t g => g.1 q)
theorem all_steps (h6 : law6 RelX) : AllSteps RelX := ⟨relO, h6, s_feed, s_end, s_fault, s_text, s_rule, s_height, s_law, s_hours, s_heap, s_dig, s_mast, s_moves, s_fogX, s_oath, s_give, s_mist, s_years, s_status, s_undo, s_log, s_sees, s_map, s_way, s_risk, s_enough, s_site, s_watched, s_given, s_heights, s_ask, s_heard, s_game, s_rests, s_odds, s_shares, s_most, s_image, s_back, s_count⟩
end
