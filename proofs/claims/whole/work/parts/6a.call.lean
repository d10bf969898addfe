/-! the helper's call out of the law -/
theorem law_xw {p : Program} {s : State} {m : MethodId} {meth : Method} {c : Code} {b L : Nat} {xs : Nat → Int32} (C0 : lw_At p s m meth c b L xs) : ∃ sa, XW (fun q => s.heap.size ≤ q) sa s := by
  have hts := lw_w2 C0
  have hfl := flat_of_before _ C0.2.2.2.2.2.2.2.2.2
  have hA : ∀ a : Nat, a < s.heap.size → ¬ (fun q => s.heap.size ≤ q) a := fun a h => Nat.not_le.mpr h
  obtain ⟨sa, _, _, _, hb, _⟩ := Cond.exactly_spec (hfl (Cond.exactly (.string RX9 165) "java/lang/String") (by decide +kernel))
  exact ⟨sa, vx_Zqof (hts (.laysStatic Bundle.tN "UNASSIGNED_STACK" Bundle.steD) (by decide +kernel)) (hts (.initialized Bundle.tN) (by decide +kernel)) (hfl (.isRef (.static Bundle.tN "UNASSIGNED_STACK" Bundle.steD)) (by decide +kernel)) hA,
    vx_Zqof (hts (.laysStatic Bundle.tN "SUPPRESSED_SENTINEL" Bundle.listD) (by decide +kernel)) (hts (.initialized Bundle.tN) (by decide +kernel)) (hfl (.isRef (.static Bundle.tN "SUPPRESSED_SENTINEL" Bundle.listD)) (by decide +kernel)) hA,
    vk_R.of (hts (.stringRef RX9 165 nseX) (by decide +kernel)) hb, fun w hw => va_Nw.of (nse_tab (nse_n w hw).2) (hts w (nse_n w hw).1)⟩
theorem lt_ws0 : ∀ w ∈ ([.methodLink RL 46 yL_tower, .static yL_tower, .initialized yL_tower.cls] : List Cond), w ∈ lw_tbl ∧ goodWord w = true := by decide +kernel
theorem lt_ws : GoodIn lw_tbl (va_wsS RL 46 yL_tower wsL) := fun w hw => (List.mem_append.mp hw).elim (fun h => ⟨(lt_ws0 w h).1, good_of_word (lt_ws0 w h).2⟩) (fun h => lw_goodIn ltCd w h)
theorem LW.tow {b L : Nat} {xs : Nat → Int32} {k n : Nat} {lv : List (Nat × Value)} {rest : List Value} {σ : St} {x ou : Nat} {v w : Int32} {F2 : Option Value → St → Prop} (hk : k + 1 ≤ 600128) (hn : n + 6 ≤ 7301098) (hr : (rest.map fun v => v.category).sum ≤ 8)
    (hc : ∀ (l : Launch), l.stackTraces = false → ∀ D cy sz sa, LT l D cy σ sz sa [.ref x, .int v, .int w, .ref ou] F2) (h : ∀ r t, F2 r t → LW b L xs (k + 1) (n + 6) 431 lv (r.toList ++ rest) t) : LW b L xs k n 428 lv (.ref ou :: .int w :: .int v :: .ref x :: rest) σ := by
  intro p l e s m below meth c D cy H locs ls C0 hW hH hl
  obtain ⟨sa, hX⟩ := law_xw C0
  have f5 := lw_w2 C0
  refine callQ (F := F2) (vx_runSW (hh := ltH) (As := [.ref x, .int v, .int w, .ref ou]) (rest := rest) ⟨C0.1, C0.2.1, C0.2.2.2.1, C0.2.2.2.2.1, f5⟩ (hc l.1 l.2 D cy H.size sa) (vx_cwSW 4 f5 lt_ws rfl rfl rfl (by decide +kernel) ⟨by decide, by decide⟩) ⟨PreX.blind, fun U hU hWm => ⟨rfl, hH.pre hW (fun _ h => h) hU hWm, hX.call hH.2.2.1 (hH.free (fun _ h => h)) hU hWm⟩⟩ rfl rfl hl.1 rfl (lv_room hr) dL_law_428 ⟨hk, hn⟩) hH (fun _ h => h) (fun r u H1 locs1 hr hH1 => ?_)
  exact h r (σ.1, u) hr p l e s m below meth c D cy H1 locs1 ls C0 hW hH1 hl
