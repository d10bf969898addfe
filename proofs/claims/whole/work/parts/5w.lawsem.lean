/-! What a LAW is worth: its pieces on both sides -/
def tkV (t : Tk) : Prop := t.1 ≠ 59 ∧ t.1 ≠ 63 ∧ ∃ s v : Nat, s < 256 ∧ v < 8388608 ∧ t = (nI s, nI v)
theorem tkV.d {t : Tk} (h : tkV t) : enT t &&& 255 = t.1 ∧ enT t >>> (8 &&& 31) = t.2 := by
  obtain ⟨_, _, s, v, hs, hv, rfl⟩ := h
  exact en_d hs hv
def stM (g : Nat → Int32) (t : Tk) (st : List Int32) : Option (List Int32) := if rcT t.1 = 0 then (if st.length < 80 then some (t.2 :: st) else none) else if rcT t.1 = 1 then (if st.length < 80 ∧ ¬ t.2 < 0 ∧ t.2 < 6 then some (g t.2.toNatClampNeg :: st) else none) else if rcT t.1 = 9 then (match st with
    | [] => none
    | x :: q => some ((1 - x) :: q)) else (match st with
    | y :: x :: q => some (jnM (rcT t.1) x y :: q)
    | _ => none)
def fM (g : Nat → Int32) : List Tk → List Int32 → Option (List Int32)
  | [], st => some st
  | t :: ts, st => (stM g t st).bind (fM g ts)
def fC (g : Nat → Int32) : List Tk → List Int32 → List Int32
  | [], st => st
  | t :: ts, st => fC g ts (evS t.1 t.2 g st)
theorem fM_app (g : Nat → Int32) (V : List Tk) : ∀ (W : List Tk) (st : List Int32), fM g (W ++ V) st = (fM g W st).bind (fM g V)
  | [], st => rfl
  | t :: W, st => by
    show (stM g t st).bind (fM g (W ++ V)) = ((stM g t st).bind (fM g W)).bind (fM g V)
    cases stM g t st with
    | none => rfl
    | some u => exact fM_app g V W u
theorem fC_app (g : Nat → Int32) (V : List Tk) : ∀ (W : List Tk) (st : List Int32), fC g (W ++ V) st = fC g V (fC g W st)
  | [], st => rfl
  | t :: W, st => fC_app g V W _
def Sem (g : Nat → Int32) (n : Nat) (W : List Tk) (P : Int32 → Prop) : Prop := (∀ t ∈ W, tkV t) ∧ W ≠ [] ∧ ∀ st : List Int32, st.length + n ≤ 40 → ∃ v, P v ∧ fC g W st = v :: st ∧ fM g W st = some (v :: st)
def SmP (g : Nat → Int32) (n : Nat) (P : Int32 → Prop) (f : Nat → PR) : Prop := ∀ p p' W, f p = .inr (p', W) → Sem g n W P
def OpOK (s : Int32) (P1 P2 P3 : Int32 → Prop) : Prop := tkV (s, 0) ∧ s ≠ 35 ∧ s ≠ 64 ∧ s ≠ 33 ∧ rcT s ≠ 0 ∧ rcT s ≠ 1 ∧ rcT s ≠ 9 ∧ ∀ x y, P1 x → P2 y → jnC s x y = jnM (rcT s) x y ∧ P3 (jnC s x y)
section
variable {g : Nat → Int32} {n m : Nat} {W V : List Tk} {P P1 P2 P3 : Int32 → Prop} {T : Tap}
theorem Sem.mono (h : Sem g n W P) (hn : n ≤ m) : Sem g m W P := ⟨h.1, h.2.1, fun st hs => h.2.2 st (by omega)⟩
theorem SmP.mono {f : Nat → PR} (h : SmP g n P f) (hn : n ≤ m) : SmP g m P f := fun p p' W e => (h p p' W e).mono hn
theorem Sem.bin (h1 : Sem g n W P1) (h2 : Sem g m V P2) (hm : m + 1 ≤ n) {s : Int32} (ho : OpOK s P1 P2 P3) : Sem g n (W ++ (V ++ [(s, 0)])) P3 := by
  obtain ⟨o1, o2, o3, o4, o5, o6, o7, o8⟩ := ho
  refine ⟨fun t ht => ?_, fun e => ?_, fun st hs => ?_⟩
  · simp only [List.mem_append, List.mem_singleton] at ht
    rcases ht with ht | ht | ht
    · exact h1.1 t ht
    · exact h2.1 t ht
    · rw [ht]; exact o1
  · simp at e
  · obtain ⟨x, px, c1, m1⟩ := h1.2.2 st hs
    obtain ⟨y, py, c2, m2⟩ := h2.2.2 (x :: st) (by simp only [List.length_cons]; omega)
    obtain ⟨j1, j2⟩ := o8 x y px py
    refine ⟨jnC s x y, j2, ?_, ?_⟩
    · rw [fC_app, fC_app, c1, c2]
      show evS s 0 g (y :: x :: st) = _
      unfold evS
      rw [if_neg o2, if_neg o3, if_neg o4]
    · rw [fM_app, m1, Option.bind_some, fM_app, m2, Option.bind_some]
      show (stM g (s, 0) (y :: x :: st)).bind (fM g []) = _
      unfold stM
      rw [if_neg o5, if_neg o6, if_neg o7]
      show some (jnM (rcT s) x y :: st) = _
      rw [j1]
theorem Sem.nott (h : Sem g n W B01) : Sem g n (W ++ [(33, 0)]) B01 := by
  refine ⟨fun t ht => ?_, fun e => ?_, fun st hs => ?_⟩
  · simp only [List.mem_append, List.mem_singleton] at ht
    rcases ht with ht | ht
    · exact h.1 t ht
    · rw [ht]; exact ⟨by decide, by decide, 33, 0, by decide, by decide, rfl⟩
  · simp at e
  · obtain ⟨x, px, c1, m1⟩ := h.2.2 st hs
    refine ⟨1 - x, ?_, ?_, ?_⟩
    · rcases px with rfl | rfl
      · exact Or.inr (by decide)
      · exact Or.inl (by decide)
    · rw [fC_app, c1]; rfl
    · rw [fM_app, m1]; rfl
theorem SmP.lp {f : Nat → PR} {ok : Int32 → Bool} (hf : SmP g n P f) (ho : ∀ s, ok s = true → OpOK s P P P) : ∀ d p p' V, lpP T ok f d p = .inr (p', V) → ∀ W, Sem g (n + 1) W P → Sem g (n + 1) (W ++ V) P := by
  intro d
  induction d with
  | zero =>
    intro p p' V e W hW
    cases e
    rw [List.append_nil]; exact hW
  | succ d ih =>
    intro p p' V e W hW
    by_cases q : ok (atT T (skT T p)) = true
    · rw [lpP_y q] at e
      obtain ⟨y, z, e1, e2, rfl, rfl⟩ := bnP_inr e
      obtain ⟨w, f1, f2, f3⟩ := tkP_inr (p := y.1) (W := y.2) e1
      rw [← List.append_assoc]
      refine ih y.1 z.1 z.2 e2 _ ?_
      rw [f3]
      exact Sem.bin hW (hf _ _ _ f1) (Nat.le_refl _) (ho _ q)
    · rw [lpP_n q] at e
      cases e
      rw [List.append_nil]; exact hW
theorem SmP.th {f h : Nat → PR} {ok : Int32 → Bool} (hf : SmP g n P f) (hh : SmP g (n + 1) P h) (ho : ∀ s, ok s = true → OpOK s P P P) : SmP g (n + 1) P (thP T ok f h) := by
  intro p p' W e
  obtain ⟨y, z, e1, e2, rfl, rfl⟩ := bnP_inr e
  exact SmP.lp hf ho 241 _ _ _ e2 _ (hh _ _ _ e1)
theorem tk_0 {s : Nat} (h1 : s < 256) (h2 : nI s ≠ 59) (h3 : nI s ≠ 63) : tkV (nI s, 0) := ⟨h2, h3, s, 0, h1, by decide, rfl⟩
theorem op_T (s : Int32) (h : okT s = true) : OpOK s Bd Bd Bd := by
  rcases (okT_i s).mp h with rfl | rfl
  · exact ⟨tk_0 (s := 42) (by decide) (by decide) (by decide), by decide, by decide, by decide, by decide, by decide, by decide, fun x y hx hy => jn_ar (Or.inr (Or.inr (Or.inl rfl))) hx⟩
  · exact ⟨tk_0 (s := 47) (by decide) (by decide) (by decide), by decide, by decide, by decide, by decide, by decide, by decide, fun x y hx hy => jn_ar (Or.inr (Or.inr (Or.inr rfl))) hx⟩
theorem op_S (s : Int32) (h : okS s = true) : OpOK s Bd Bd Bd := by
  rcases (okS_i s).mp h with rfl | rfl
  · exact ⟨tk_0 (s := 43) (by decide) (by decide) (by decide), by decide, by decide, by decide, by decide, by decide, by decide, fun x y hx hy => jn_ar (Or.inl rfl) hx⟩
  · exact ⟨tk_0 (s := 45) (by decide) (by decide) (by decide), by decide, by decide, by decide, by decide, by decide, by decide, fun x y hx hy => jn_ar (Or.inr (Or.inl rfl)) hx⟩
theorem op_C (s : Int32) (h : oqC s = true) : OpOK s Bd Bd B01 := by
  rcases of_decide_eq_true h with rfl | rfl | rfl
  · exact ⟨tk_0 (s := 61) (by decide) (by decide) (by decide), by decide, by decide, by decide, by decide, by decide, by decide, fun x y hx hy => jn_cm (Or.inl rfl)⟩
  · exact ⟨tk_0 (s := 60) (by decide) (by decide) (by decide), by decide, by decide, by decide, by decide, by decide, by decide, fun x y hx hy => jn_cm (Or.inr (Or.inl rfl))⟩
  · exact ⟨tk_0 (s := 62) (by decide) (by decide) (by decide), by decide, by decide, by decide, by decide, by decide, by decide, fun x y hx hy => jn_cm (Or.inr (Or.inr rfl))⟩
theorem op_A (s : Int32) (h : okA s = true) : OpOK s B01 B01 B01 := by
  have e := (okA_i s).mp h
  subst e
  exact ⟨tk_0 (s := 38) (by decide) (by decide) (by decide), by decide, by decide, by decide, by decide, by decide, by decide, fun x y hx hy => jn_an (Or.inl rfl) hx hy⟩
theorem op_O (s : Int32) (h : okO s = true) : OpOK s B01 B01 B01 := by
  have e := (okO_i s).mp h
  subst e
  exact ⟨tk_0 (s := 124) (by decide) (by decide) (by decide), by decide, by decide, by decide, by decide, by decide, by decide, fun x y hx hy => jn_an (Or.inr rfl) hx hy⟩
theorem dg_v {x : Int32} (h : dgB x = true) : ∃ e : Nat, e < 10 ∧ x = nI (48 + e) := by
  obtain ⟨h1, h2⟩ := of_decide_eq_true h
  rw [fa_lt, show (48 : Int32).toInt = 48 by decide] at h1
  rw [fa_lt, show (57 : Int32).toInt = 57 by decide] at h2
  refine ⟨(x.toInt - 48).toNat, by omega, ?_⟩
  apply Int32.toInt_inj.mp
  rw [nI_toInt (by omega)]
  omega
theorem nuF_v (T : Tap) : ∀ d m p b, m < b → ∃ m', m' < b * 10 ^ d ∧ (nuF T d (nI m) p).1 = nI m'
  | 0, m, p, b, h => ⟨m, by omega, rfl⟩
  | d + 1, m, p, b, h => by
    by_cases q : dgB (atT T p) = true
    · rw [nuF_y T d _ p q]
      have hp := dg_lt T q
      have ea : atT T p = T.2 p := by unfold atT; rw [if_pos hp]
      rw [ea] at q
      obtain ⟨e, he, ex⟩ := dg_v q
      have e2 : nI m * 10 + T.2 p - 48 = nI (m * 10 + e) := by
        rw [ex, show (10 : Int32) = nI 10 from rfl, pk_mul, nI_add, show (48 : Int32) = nI 48 from rfl, pk_sub (by omega)]
        congr 1; omega
      rw [e2]
      obtain ⟨m', h1, h2⟩ := nuF_v T d (m * 10 + e) (p + 1) (b * 10) (by omega)
      refine ⟨m', ?_, h2⟩
      rw [Nat.pow_succ, Nat.mul_comm (10 ^ d) 10, ← Nat.mul_assoc]
      exact h1
    · rw [nuF_n T _ _ p q]
      refine ⟨m, ?_, rfl⟩
      have : b * 1 ≤ b * 10 ^ (d + 1) := Nat.mul_le_mul_left b (Nat.pos_of_ne_zero (by simp))
      omega
theorem bd_nI {v : Nat} (h : v ≤ 1000000) : Bd (nI v) := by
  unfold Bd
  rw [nI_toInt (by omega)]; omega
theorem sem_num {v : Nat} (h : v < 10000) : Sem g 1 [(35, nI v)] Bd := by
  refine ⟨fun t ht => ?_, by simp, fun st hs => ⟨nI v, bd_nI (by omega), ?_, ?_⟩⟩
  · rw [List.mem_singleton] at ht
    rw [ht]
    exact ⟨(show (35 : Int32) ≠ 59 by decide), (show (35 : Int32) ≠ 63 by decide), 35, v, by decide, by omega, rfl⟩
  · show evS 35 (nI v) g st = _
    unfold evS
    rw [if_pos rfl, if_neg (by omega), if_neg (nI_pos (by omega))]
  · show (stM g (35, nI v) st).bind (fM g []) = _
    unfold stM
    rw [if_pos (show rcT (35, nI v).1 = 0 from (by decide : rcT 35 = 0)), if_pos (by omega)]
    rfl
theorem sem_let (hg : LtB g) {j : Nat} (h : j < 6) : Sem g 1 [(64, nI j)] Bd := by
  have k0 : ¬ nI j < 0 := nI_pos (by omega)
  have k6 : nI j < 6 := nI_lt (b := 6) h (by decide)
  have kc : (nI j).toNatClampNeg = j := nI_clamp (by omega)
  obtain ⟨b, hb, eb⟩ := hg j h
  refine ⟨fun t ht => ?_, by simp, fun st hs => ⟨g j, by rw [eb]; exact bd_nI (by omega), ?_, ?_⟩⟩
  · rw [List.mem_singleton] at ht
    rw [ht]
    exact ⟨(show (64 : Int32) ≠ 59 by decide), (show (64 : Int32) ≠ 63 by decide), 64, j, by decide, by omega, rfl⟩
  · show evS 64 (nI j) g st = _
    unfold evS
    rw [if_neg (by decide), if_pos rfl, if_neg (by omega), if_neg k0, if_neg (Int32.not_le.mpr k6), kc]
  · show (stM g (64, nI j) st).bind (fM g []) = _
    unfold stM
    rw [if_neg (show ¬ rcT (64, nI j).1 = 0 from (by decide : ¬ rcT 64 = 0)), if_pos (show rcT (64, nI j).1 = 1 from (by decide : rcT 64 = 1)), if_pos ⟨by omega, k0, k6⟩, kc]
    rfl
theorem lt_v {c : Int32} (h : ltC c ≠ -1) : ∃ j, j < 6 ∧ ltC c = nI j := by
  unfold ltC at h ⊢
  by_cases h1 : c = 108
  · rw [if_pos h1]; exact ⟨0, by decide, rfl⟩
  rw [if_neg h1] at h ⊢
  by_cases h2 : c = 102
  · rw [if_pos h2]; exact ⟨1, by decide, rfl⟩
  rw [if_neg h2] at h ⊢
  by_cases h3 : c = 104
  · rw [if_pos h3]; exact ⟨2, by decide, rfl⟩
  rw [if_neg h3] at h ⊢
  by_cases h4 : c = 103
  · rw [if_pos h4]; exact ⟨3, by decide, rfl⟩
  rw [if_neg h4] at h ⊢
  by_cases h5 : c = 109
  · rw [if_pos h5]; exact ⟨4, by decide, rfl⟩
  rw [if_neg h5] at h ⊢
  by_cases h6 : c = 110
  · rw [if_pos h6]; exact ⟨5, by decide, rfl⟩
  rw [if_neg h6] at h; exact absurd rfl h
theorem SmP.ao (hg : LtB g) {s : Option (Nat → PR)} (hs : ∀ f, s = some f → SmP g n Bd f) (hn : 1 ≤ n) : SmP g n Bd (aoP T s) := by
  intro p p' W h
  unfold aoP at h
  by_cases q : dgB (atT T (skT T p)) = true
  · rw [if_pos q] at h
    unfold nuP at h
    by_cases z : dgB (atT T (nuF T 4 0 (skT T p)).2) = true
    · rw [if_pos z] at h; cases h
    · rw [if_neg z] at h
      obtain ⟨m', h1, h2⟩ := nuF_v T 4 0 (skT T p) 1 (by decide)
      have h2' : (nuF T 4 0 (skT T p)).1 = nI m' := h2
      cases h
      rw [h2']
      exact (sem_num (by omega)).mono hn
  rw [if_neg q] at h
  by_cases q2 : atT T (skT T p) = 91
  · rw [if_pos q2] at h
    cases s with
    | none => cases h
    | some f =>
      obtain ⟨y, e1, _, _, rfl⟩ := exP_inr h
      exact hs f rfl _ _ _ e1
  rw [if_neg q2] at h
  by_cases q3 : ltC (atT T (skT T p)) = -1
  · rw [if_pos q3] at h; cases h
  · rw [if_neg q3] at h
    cases h
    obtain ⟨j, hj, e⟩ := lt_v q3
    rw [e]
    exact (sem_let hg hj).mono hn
theorem SmP.sa (hg : LtB g) {s : Option (Nat → PR)} (hs : ∀ f, s = some f → SmP g n Bd f) (hn : 1 ≤ n) : SmP g (n + 2) Bd (smA T s) := by
  have h1 : SmP g n Bd (aoP T s) := SmP.ao hg hs hn
  have h2 : SmP g (n + 1) Bd (tmP T s) := SmP.th h1 (h1.mono (by omega)) op_T
  exact SmP.th h2 (h2.mono (by omega)) op_S
theorem SmP.sm (hg : LtB g) : ∀ k, SmP g (2 * k + 3) Bd (smT T k)
  | 0 => SmP.sa hg (fun f e => by cases e) (Nat.le_refl _)
  | k + 1 => SmP.sa hg (n := 2 * k + 3) (fun f e => by cases e; exact SmP.sm hg k) (by omega)
theorem sem_cm (hg : LtB g) {k p p' : Nat} (hW : Sem g (2 * k + 4) W Bd) (h : cmP T k p = .inr (p', V)) : Sem g (2 * k + 4) (W ++ V) B01 := by
  unfold cmP at h
  by_cases q : oqC (atT T (skT T p)) = true
  · rw [if_pos q] at h
    obtain ⟨y, e1, rfl, rfl⟩ := tkP_inr h
    exact Sem.bin hW (SmP.sm hg k _ _ _ e1) (by omega) (op_C _ q)
  · rw [if_neg q] at h; cases h
theorem SmP.tr {u : Nat → PR} (hu : SmP g n B01 u) {f : Nat → PR} (hf : SmP g (n + 1) B01 f) : SmP g (n + 1) B01 (trP T u f) := SmP.th hu hf op_A
theorem SmP.cd {u : Nat → PR} (hu : SmP g n B01 u) {f : Nat → PR} (hf : SmP g (n + 1) B01 f) : SmP g (n + 2) B01 (cdP T u f) := SmP.th (SmP.tr hu (hu.mono (by omega))) ((SmP.tr hu hf).mono (by omega)) op_O
theorem SmP.ua (hg : LtB g) {k : Nat} {u : Option (Nat → PR)} (hu : ∀ f, u = some f → SmP g (2 * k + 2) B01 f) : SmP g (2 * k + 4) B01 (unA T k u) := by
  intro p p' W h
  unfold unA at h
  by_cases q : atT T (skT T p) = 33
  · rw [if_pos q] at h
    cases u with
    | none => cases h
    | some f =>
      obtain ⟨y, e1, rfl, rfl⟩ := tkP_inr h
      exact (Sem.nott (hu f rfl _ _ _ e1)).mono (by omega)
  rw [if_neg q] at h
  by_cases q2 : atT T (skT T p) = 40
  · rw [if_pos q2] at h
    cases u with
    | none => cases h
    | some f =>
      obtain ⟨y, e1, _, _, rfl⟩ := exP_inr h
      exact SmP.cd (hu f rfl) ((hu f rfl).mono (by omega)) _ _ _ e1
  rw [if_neg q2] at h
  obtain ⟨y, z, e1, e2, rfl, rfl⟩ := bnP_inr h
  exact sem_cm hg ((SmP.sm hg k _ _ _ e1).mono (by omega)) e2
theorem SmP.un (hg : LtB g) : ∀ k, SmP g (2 * k + 4) B01 (unT T k)
  | 0 => SmP.ua hg (fun f e => by cases e)
  | k + 1 => SmP.ua hg (fun f e => by cases e; exact SmP.un hg k)
/-- a CLAUSE that was read -/
def ClOK (g : Nat → Int32) (c : Clz) : Prop := Sem g 40 c.2 Bd ∧ ∀ W, c.1 = some W → Sem g 40 W B01
theorem sem_tl (hg : LtB g) {c : PR} {y : Nat × Clz} (hc : ∀ z, c = .inr z → Sem g 40 z.2 B01) (h : tlP T c = .inr y) : ClOK g y.2 := by
  unfold tlP at h
  cases e : exP T c 63 with
  | inl q => rw [e] at h; cases h
  | inr z =>
    rw [e] at h
    simp only [] at h
    cases e2 : smT T 6 z.1 with
    | inl q => rw [e2] at h; cases h
    | inr w =>
      rw [e2] at h
      cases h
      obtain ⟨v, e3, _, _, e5⟩ := exP_inr (p := z.1) (W := z.2) e
      refine ⟨(SmP.sm hg 6 _ _ _ e2).mono (by omega), fun W e => ?_⟩
      cases e
      rw [e5]
      exact hc v e3
theorem sem_cl (hg : LtB g) {p : Nat} {y : Nat × Clz} (h : clT T p = .inr y) : ClOK g y.2 := by
  unfold clT at h
  cases e : hdP T p with
  | inl q => rw [e] at h; cases h
  | inr z =>
    rw [e] at h
    simp only [] at h
    by_cases q : atT T (skT T z.1) = 33 ∨ atT T (skT T z.1) = 40
    · rw [if_pos q] at h
      exact sem_tl hg (fun w e => (SmP.cd (SmP.un hg 6) ((SmP.un hg 6).mono (by omega)) _ _ _ e).mono (by omega)) h
    · rw [if_neg q] at h
      cases e2 : smT T 6 (skT T z.1) with
      | inl q => rw [e2] at h; cases h
      | inr w =>
        rw [e2] at h
        simp only [] at h
        by_cases q2 : oqC (atT T (skT T w.1)) = true
        · rw [if_pos q2] at h
          refine sem_tl hg (fun v ev => ?_) h
          obtain ⟨v1, v2, f1, f2, f3, f4⟩ := bnP_inr (p := v.1) (W := v.2) ev
          cases f1
          obtain ⟨v3, v4, f5, f6, f7, f8⟩ := bnP_inr (p := v2.1) (W := v2.2) f2
          obtain ⟨v5, v6, f9, f10, f11, f12⟩ := bnP_inr (p := v3.1) (W := v3.2) f5
          have s1 := sem_cm hg ((SmP.sm hg 6 _ _ _ e2).mono (by omega)) f9
          have s2 := SmP.lp (SmP.un hg 6) op_A 241 _ _ _ f10 _ (s1.mono (by omega))
          have s3 := SmP.lp (SmP.tr (SmP.un hg 6) ((SmP.un hg 6).mono (by omega))) op_O 241 _ _ _ f6 _ (s2.mono (by omega))
          rw [f4, f8, f12]
          rw [List.append_assoc, List.append_assoc] at s3
          rw [List.append_assoc]
          exact s3.mono (by omega)
        · rw [if_neg q2] at h
          cases h
          exact ⟨(SmP.sm hg 6 _ _ _ e2).mono (by omega), fun W e => by cases e⟩
theorem sem_lw (hg : LtB g) : ∀ d p l, lwF T d p = .inr l → ∀ c ∈ l, ClOK g c
  | 0, p, l, h => by cases h
  | d + 1, p, l, h => by
    rw [lw_s] at h
    cases e : clT T p with
    | inl q => rw [e] at h; cases h
    | inr y =>
      rw [e] at h
      simp only [] at h
      by_cases q : atT T (skT T y.1) = 59
      · rw [if_pos q] at h
        cases e2 : lwF T d (skT T y.1 + 1) with
        | inl q => rw [e2] at h; cases h
        | inr l2 =>
          rw [e2] at h
          cases h
          intro c hc
          rcases List.mem_cons.mp hc with rfl | hc
          · exact sem_cl hg e
          · exact sem_lw hg d _ _ e2 c hc
      · rw [if_neg q] at h
        by_cases q2 : atT T (skT T y.1) = -1
        · rw [if_pos q2] at h
          cases h
          intro c hc
          rw [List.mem_singleton] at hc
          rw [hc]
          exact sem_cl hg e
        · rw [if_neg q2] at h; cases h
end
