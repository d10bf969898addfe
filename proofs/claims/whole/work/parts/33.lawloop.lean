/-- the call of tower, with what the law does around it -/
def law6 (Rel : Nat → Nat → Nat → St → Prop) : Prop := ∀ {b L : Nat} {xs : Nat → Int32} {x mo ou j : Nat} (_ : 6 * j + 6 ≤ L) (_ : L ≤ 384) {σ : St} (_ : Rel x mo ou σ) (_ : ∀ t, Rel x mo ou t → LW b L xs (75 + 4 * (j + 1)) (20149 + 300 * (j + 1)) 1583 [(0, .ref b), (1, .ref x), (2, .ref mo), (3, .ref ou), (4, .int (nI (6 * j)))] [] t), LW b L xs (75 + 4 * j) (20149 + 300 * j) 414 [(0, .ref b), (1, .ref x), (2, .ref mo), (3, .ref ou), (4, .int (nI (6 * j)))] [] σ
/-- what is left to show of class and reference: each call answers alike, and keeps them alike -/
def AllSteps (Rel : Nat → Nat → Nat → St → Prop) : Prop :=
  lawO Rel ∧ law6 Rel ∧ (∀ (v0 : Int32) (v1 : Int32) (v2 : Int32) (v3 : Int32) (v4 : Int32), stp Rel (fun t x => fX9_feed t x v0 v1 v2 v3 v4) (fun t m => fX10_feed t m v0 v1 v2 v3 v4)) ∧
  (∀ (v0 : Int32), stp Rel (fun t x => fX9_end t x v0) (fun t m => fX10_end t m v0)) ∧
  (∀ (v0 : Int32), stp Rel (fun t x => fX9_fault t x v0) (fun t m => fX10_fault t m v0)) ∧
  (∀ (v0 : Int32), stpT Rel (fun t m => fX10_text t m v0) (fun t x F => wX9_text t x v0 F)) ∧
  (∀ (v0 : Int32), stp Rel (fun t x => fX9_rule t x v0) (fun t m => fX10_rule t m v0)) ∧
  (∀ (v0 : Int32), stp Rel (fun t x => fX9_height t x v0) (fun t m => fX10_height t m v0)) ∧
  (∀ (v0 : Int32), stp Rel (fun t x => fX9_law t x v0) (fun t m => fX10_law t m v0)) ∧
  (∀ (v0 : Int32), stp Rel (fun t x => fX9_hours t x v0) (fun t m => fX10_hours t m v0)) ∧
  (∀ (v0 : Int32), stp Rel (fun t x => fX9_heap t x v0) (fun t m => fX10_heap t m v0)) ∧
  (∀ (v0 : Int32), stp Rel (fun t x => fX9_dig t x v0) (fun t m => fX10_dig t m v0)) ∧
  (∀ (v0 : Int32), stp Rel (fun t x => fX9_mast t x v0) (fun t m => fX10_mast t m v0)) ∧
  (∀ (v0 : Int32) (v1 : Int32), stp Rel (fun t x => fX9_moves t x v0 v1) (fun t m => fX10_moves t m v0 v1)) ∧
  (∀ (v0 : Int32), stp Rel (fun t x => fX9_fog t x v0) (fun t m => fX10_fog t m v0)) ∧
  (∀ (v0 : Int32), stp Rel (fun t x => fX9_oath t x v0) (fun t m => fX10_oath t m v0)) ∧
  (∀ (v0 : Int32), stp Rel (fun t x => fX9_give t x v0) (fun t m => fX10_give t m v0)) ∧
  (∀ (v0 : Int32), stp Rel (fun t x => fX9_mist t x v0) (fun t m => fX10_mist t m v0)) ∧
  (∀ (v0 : Int32) (v1 : Int64), stp Rel (fun t x => fX9_years t x v0 v1) (fun t m => fX10_years t m v0 v1)) ∧
  (∀ (v0 : Int32), stp Rel (fun t x => fX9_status t x v0) (fun t m => fX10_status t m v0)) ∧
  (stp Rel (fun t x => fX9_undo t x ) (fun t m => fX10_undo t m )) ∧
  (∀ (v0 : Int32) (v1 : Int32), stp Rel (fun t x => fX9_log t x v0 v1) (fun t m => fX10_log t m v0 v1)) ∧
  (∀ (v0 : Int32) (v1 : Int32), stp Rel (fun t x => fX9_sees t x v0 v1) (fun t m => fX10_sees t m v0 v1)) ∧
  (∀ (v0 : Int32) (v1 : Int32), stp Rel (fun t x => fX9_map t x v0 v1) (fun t m => fX10_map t m v0 v1)) ∧
  (∀ (v0 : Int32) (v1 : Int32) (v2 : Int32), stp Rel (fun t x => fX9_way t x v0 v1 v2) (fun t m => fX10_way t m v0 v1 v2)) ∧
  (∀ (v0 : Int32) (v1 : Int32), stp Rel (fun t x => fX9_risk t x v0 v1) (fun t m => fX10_risk t m v0 v1)) ∧
  (stp Rel (fun t x => fX9_enough t x ) (fun t m => fX10_enough t m )) ∧
  (∀ (v0 : Int32) (v1 : Int32) (v2 : Int32), stp Rel (fun t x => fX9_site t x v0 v1 v2) (fun t m => fX10_site t m v0 v1 v2)) ∧
  (∀ (v0 : Int32), stp Rel (fun t x => fX9_watched t x v0) (fun t m => fX10_watched t m v0)) ∧
  (∀ (v0 : Int32) (v1 : Int32) (v2 : Int32), (v2 = 0 ∨ v2 = 1) → stp Rel (fun t x => fX9_given t x v0 v1 v2) (fun t m => fX10_given t m v0 v1 v2)) ∧
  (∀ (v0 : Int32) (v1 : Int32), stp Rel (fun t x => fX9_heights t x v0 v1) (fun t m => fX10_heights t m v0 v1)) ∧
  (∀ (v0 : Int32), stp Rel (fun t x => fX9_ask t x v0) (fun t m => fX10_ask t m v0)) ∧
  (∀ (v0 : Int32) (v1 : Int32), stp Rel (fun t x => fX9_heard t x v0 v1) (fun t m => fX10_heard t m v0 v1)) ∧
  (∀ (v0 : Int32) (v1 : Int32) (v2 : Int32) (v3 : Int32) (v4 : Int32), stp Rel (fun t x => fX9_game t x v0 v1 v2 v3 v4) (fun t m => fX10_game t m v0 v1 v2 v3 v4)) ∧
  (∀ (v0 : Int32) (v1 : Int32) (v2 : Int32), stp Rel (fun t x => fX9_rests t x v0 v1 v2) (fun t m => fX10_rests t m v0 v1 v2)) ∧
  (∀ (v0 : Int32) (v1 : Int32) (v2 : Int32), stp Rel (fun t x => fX9_odds t x v0 v1 v2) (fun t m => fX10_odds t m v0 v1 v2)) ∧
  (∀ (v0 : Int32) (v1 : Int32), stp Rel (fun t x => fX9_shares t x v0 v1) (fun t m => fX10_shares t m v0 v1)) ∧
  (∀ (v0 : Int32), stp Rel (fun t x => fX9_most t x v0) (fun t m => fX10_most t m v0)) ∧
  (stp Rel (fun t x => fX9_image t x ) (fun t m => fX10_image t m )) ∧
  (stp Rel (fun t x => fX9_back t x ) (fun t m => fX10_back t m )) ∧
  (∀ (v0 : Int32), stp Rel (fun t x => fX9_count t x v0) (fun t m => fX10_count t m v0))

theorem nI6 : (6 : Int32) = nI 6 := by decide
set_option maxHeartbeats 4000000 in
set_option maxRecDepth 100000 in
theorem law_loop {Rel : Nat → Nat → Nat → St → Prop} (hS : AllSteps Rel) {b L : Nat} {xs : Nat → Int32} (hL : L ≤ 384) {x mo ou : Nat} : ∀ (d j : Nat) (σ : St), L < 6 * (j + d) + 6 → j ≤ 64 → Rel x mo ou σ → LW b L xs (75 + 4 * j) (20149 + 300 * j) 23 [(0, .ref b), (1, .ref x), (2, .ref mo), (3, .ref ou), (4, .int (nI (6 * j)))] [] σ := by
  intro d
  induction d with
  | zero =>
    intro j σ hd hj64 hR
    refine LW.iload 4 dL_law_23 rfl ?_
    refine LW.aload_n 0 dL_law_25 rfl rfl ?_
    refine LW.slen dL_law_26 ?_
    refine LW.bipush dL_law_27 kB_6 ?_
    refine LW.isub dL_law_29 ?_
    refine LW.icmp_gt (tgt := 1589) dL_law_30 (by decide) (fun hc => ?_) (fun hc => ?_)
    · refine LW.iconst dL_law_1589 kI_1 ?_
      exact LW.ret (rest := []) dL_law_1590 (by omega) (by omega)
    · refine absurd ?_ hc
      rw [nI6, Int32.lt_iff_toInt_lt, pk_sub_toInt (by omega) (by omega), nI_toInt (by omega)]
      omega
  | succ d ih =>
    intro j σ hd hj64 hR
    refine LW.iload 4 dL_law_23 rfl ?_
    refine LW.aload_n 0 dL_law_25 rfl rfl ?_
    refine LW.slen dL_law_26 ?_
    refine LW.bipush dL_law_27 kB_6 ?_
    refine LW.isub dL_law_29 ?_
    refine LW.icmp_gt (tgt := 1589) dL_law_30 (by decide) (fun hc => ?_) (fun hc => ?_)
    · refine LW.iconst dL_law_1589 kI_1 ?_
      exact LW.ret (rest := []) dL_law_1590 (by omega) (by omega)
    · have hj : 6 * j + 6 ≤ L := by
        rw [nI6, Int32.lt_iff_toInt_lt, pk_sub_toInt (by omega) (by omega), nI_toInt (by omega)] at hc
        omega
      have hk : ∀ t, Rel x mo ou t → LW b L xs (75 + 4 * (j + 1)) (20149 + 300 * (j + 1)) 1583 [(0, .ref b), (1, .ref x), (2, .ref mo), (3, .ref ou), (4, .int (nI (6 * j)))] [] t := by
        intro t hRt
        refine LW.iinc (lv' := [(0, .ref b), (1, .ref x), (2, .ref mo), (3, .ref ou), (4, .int (nI (6 * j) + 6))]) 4 dL_law_1583 rfl kI_6 (by decide) [1, 2, 3, 4, 0] rfl ?_
        refine LW.goto (tgt := 23) dL_law_1586 (by decide) ?_
        have e : nI (6 * j) + 6 = nI (6 * (j + 1)) := by rw [nI6, nI_add]; rfl
        rw [e]
        exact ih (j + 1) t (by omega) (by omega) hRt
      refine LW.aload_n 0 dL_law_33 rfl rfl ?_
      refine LW.iload 4 dL_law_34 rfl ?_
      refine LW.sld dL_law_36 (vp_in_nI (by omega) (by omega)) ?_
      refine LW.bipush dL_law_37 kB_63 ?_
      refine LW.iand dL_law_39 ?_
      refine LW.tsw (tgd := 1583) dL_law_40 (by decide) ?_ ?_ (by decide)
      · exact LW.widen (by omega) (by omega) (hk σ hR)
      intro j9 o9 hx9 ho9
      match j9, ho9 with
      | 0, ho9 => cases ho9; exact ⟨216, by decide, law_c0 hS.1 (hS.2.2.1) hj hL hR hk⟩
      | 1, ho9 => cases ho9; exact ⟨289, by decide, law_c1 hS.1 (hS.2.2.2.1) hj hL hR hk⟩
      | 2, ho9 => cases ho9; exact ⟨314, by decide, law_c2 hS.1 (hS.2.2.2.2.1) hj hL hR hk⟩
      | 3, ho9 => cases ho9; exact ⟨339, by decide, law_c3 hS.1 (hS.2.2.2.2.2.1) hj hL hR hk⟩
      | 4, ho9 => cases ho9; exact ⟨364, by decide, law_c4 hS.1 (hS.2.2.2.2.2.2.1) hj hL hR hk⟩
      | 5, ho9 => cases ho9; exact ⟨389, by decide, law_c5 hS.1 (hS.2.2.2.2.2.2.2.1) hj hL hR hk⟩
      | 6, ho9 => cases ho9; exact ⟨414, by decide, hS.2.1 hj hL hR hk⟩
      | 7, ho9 => cases ho9; exact ⟨482, by decide, law_c7 hS.1 (hS.2.2.2.2.2.2.2.2.1) hj hL hR hk⟩
      | 8, ho9 => cases ho9; exact ⟨507, by decide, law_c8 hS.1 (hS.2.2.2.2.2.2.2.2.2.1) hj hL hR hk⟩
      | 9, ho9 => cases ho9; exact ⟨532, by decide, law_c9 hS.1 (hS.2.2.2.2.2.2.2.2.2.2.1) hj hL hR hk⟩
      | 10, ho9 => cases ho9; exact ⟨557, by decide, law_c10 hS.1 (hS.2.2.2.2.2.2.2.2.2.2.2.1) hj hL hR hk⟩
      | 11, ho9 => cases ho9; exact ⟨582, by decide, law_c11 hS.1 (hS.2.2.2.2.2.2.2.2.2.2.2.2.1) hj hL hR hk⟩
      | 12, ho9 => cases ho9; exact ⟨607, by decide, law_c12 hS.1 (hS.2.2.2.2.2.2.2.2.2.2.2.2.2.1) hj hL hR hk⟩
      | 13, ho9 => cases ho9; exact ⟨644, by decide, law_c13 hS.1 (hS.2.2.2.2.2.2.2.2.2.2.2.2.2.2.1) hj hL hR hk⟩
      | 14, ho9 => cases ho9; exact ⟨669, by decide, law_c14 hS.1 (hS.2.2.2.2.2.2.2.2.2.2.2.2.2.2.2.1) hj hL hR hk⟩
      | 15, ho9 => cases ho9; exact ⟨694, by decide, law_c15 hS.1 (hS.2.2.2.2.2.2.2.2.2.2.2.2.2.2.2.2.1) hj hL hR hk⟩
      | 16, ho9 => cases ho9; exact ⟨719, by decide, law_c16 hS.1 (hS.2.2.2.2.2.2.2.2.2.2.2.2.2.2.2.2.2.1) hj hL hR hk⟩
      | 17, ho9 => cases ho9; exact ⟨744, by decide, law_c17 hS.1 (hS.2.2.2.2.2.2.2.2.2.2.2.2.2.2.2.2.2.2.1) hj hL hR hk⟩
      | 18, ho9 => cases ho9; exact ⟨813, by decide, law_c18 hS.1 (hS.2.2.2.2.2.2.2.2.2.2.2.2.2.2.2.2.2.2.2.1) hj hL hR hk⟩
      | 19, ho9 => cases ho9; exact ⟨838, by decide, law_c19 hS.1 (hS.2.2.2.2.2.2.2.2.2.2.2.2.2.2.2.2.2.2.2.2.1) hj hL hR hk⟩
      | 20, ho9 => cases ho9; exact ⟨851, by decide, law_c20 hS.1 (hS.2.2.2.2.2.2.2.2.2.2.2.2.2.2.2.2.2.2.2.2.2.1) hj hL hR hk⟩
      | 21, ho9 => cases ho9; exact ⟨888, by decide, law_c21 hS.1 (hS.2.2.2.2.2.2.2.2.2.2.2.2.2.2.2.2.2.2.2.2.2.2.1) hj hL hR hk⟩
      | 22, ho9 => cases ho9; exact ⟨925, by decide, law_c22 hS.1 (hS.2.2.2.2.2.2.2.2.2.2.2.2.2.2.2.2.2.2.2.2.2.2.2.1) hj hL hR hk⟩
      | 23, ho9 => cases ho9; exact ⟨962, by decide, law_c23 hS.1 (hS.2.2.2.2.2.2.2.2.2.2.2.2.2.2.2.2.2.2.2.2.2.2.2.2.1) hj hL hR hk⟩
      | 24, ho9 => cases ho9; exact ⟨1011, by decide, law_c24 hS.1 (hS.2.2.2.2.2.2.2.2.2.2.2.2.2.2.2.2.2.2.2.2.2.2.2.2.2.1) hj hL hR hk⟩
      | 25, ho9 => cases ho9; exact ⟨1048, by decide, law_c25 hS.1 (hS.2.2.2.2.2.2.2.2.2.2.2.2.2.2.2.2.2.2.2.2.2.2.2.2.2.2.1) hj hL hR hk⟩
      | 26, ho9 => cases ho9; exact ⟨1061, by decide, law_c26 hS.1 (hS.2.2.2.2.2.2.2.2.2.2.2.2.2.2.2.2.2.2.2.2.2.2.2.2.2.2.2.1) hj hL hR hk⟩
      | 27, ho9 => cases ho9; exact ⟨1110, by decide, law_c27 hS.1 (hS.2.2.2.2.2.2.2.2.2.2.2.2.2.2.2.2.2.2.2.2.2.2.2.2.2.2.2.2.1) hj hL hR hk⟩
      | 28, ho9 => cases ho9; exact ⟨1135, by decide, law_c28 hS.1 (hS.2.2.2.2.2.2.2.2.2.2.2.2.2.2.2.2.2.2.2.2.2.2.2.2.2.2.2.2.2.1) hj hL hR hk⟩
      | 29, ho9 => cases ho9; exact ⟨1200, by decide, law_c29 hS.1 (hS.2.2.2.2.2.2.2.2.2.2.2.2.2.2.2.2.2.2.2.2.2.2.2.2.2.2.2.2.2.2.1) hj hL hR hk⟩
      | 30, ho9 => cases ho9; exact ⟨1237, by decide, law_c30 hS.1 (hS.2.2.2.2.2.2.2.2.2.2.2.2.2.2.2.2.2.2.2.2.2.2.2.2.2.2.2.2.2.2.2.1) hj hL hR hk⟩
      | 31, ho9 => cases ho9; exact ⟨1262, by decide, law_c31 hS.1 (hS.2.2.2.2.2.2.2.2.2.2.2.2.2.2.2.2.2.2.2.2.2.2.2.2.2.2.2.2.2.2.2.2.1) hj hL hR hk⟩
      | 32, ho9 => cases ho9; exact ⟨1299, by decide, law_c32 hS.1 (hS.2.2.2.2.2.2.2.2.2.2.2.2.2.2.2.2.2.2.2.2.2.2.2.2.2.2.2.2.2.2.2.2.2.1) hj hL hR hk⟩
      | 33, ho9 => cases ho9; exact ⟨1372, by decide, law_c33 hS.1 (hS.2.2.2.2.2.2.2.2.2.2.2.2.2.2.2.2.2.2.2.2.2.2.2.2.2.2.2.2.2.2.2.2.2.2.1) hj hL hR hk⟩
      | 34, ho9 => cases ho9; exact ⟨1421, by decide, law_c34 hS.1 (hS.2.2.2.2.2.2.2.2.2.2.2.2.2.2.2.2.2.2.2.2.2.2.2.2.2.2.2.2.2.2.2.2.2.2.2.1) hj hL hR hk⟩
      | 35, ho9 => cases ho9; exact ⟨1470, by decide, law_c35 hS.1 (hS.2.2.2.2.2.2.2.2.2.2.2.2.2.2.2.2.2.2.2.2.2.2.2.2.2.2.2.2.2.2.2.2.2.2.2.2.1) hj hL hR hk⟩
      | 36, ho9 => cases ho9; exact ⟨1507, by decide, law_c36 hS.1 (hS.2.2.2.2.2.2.2.2.2.2.2.2.2.2.2.2.2.2.2.2.2.2.2.2.2.2.2.2.2.2.2.2.2.2.2.2.2.1) hj hL hR hk⟩
      | 37, ho9 => cases ho9; exact ⟨1532, by decide, law_c37 hS.1 (hS.2.2.2.2.2.2.2.2.2.2.2.2.2.2.2.2.2.2.2.2.2.2.2.2.2.2.2.2.2.2.2.2.2.2.2.2.2.2.1) hj hL hR hk⟩
      | 38, ho9 => cases ho9; exact ⟨1545, by decide, law_c38 hS.1 (hS.2.2.2.2.2.2.2.2.2.2.2.2.2.2.2.2.2.2.2.2.2.2.2.2.2.2.2.2.2.2.2.2.2.2.2.2.2.2.2.1) hj hL hR hk⟩
      | 39, ho9 => cases ho9; exact ⟨1558, by decide, law_c39 hS.1 (hS.2.2.2.2.2.2.2.2.2.2.2.2.2.2.2.2.2.2.2.2.2.2.2.2.2.2.2.2.2.2.2.2.2.2.2.2.2.2.2.2) hj hL hR hk⟩
      | j9 + 40, ho9 => cases ho9

