/-! THE TAPE's next token, as the reference reads it -/
def tpM (z : Sg) (n : Nat) (T : Nat → Int32) : Prop := z 78 6 = nI n ∧ n ≤ 160 ∧ (∀ j, j < n → z 83 j = T j) ∧ (∀ j, j < n → bI 256 (T j)) ∧ iW z
def FR (z Z : Sg) : Prop := ∀ c j, ¬ (c = 78 ∧ 18 ≤ j ∧ j ≤ 21) → Z c j = z c j
theorem FR.rf {z : Sg} : FR z z := fun _ _ _ => rfl
theorem FR.tr {z Z Y : Sg} (h1 : FR z Z) (h2 : FR Z Y) : FR z Y := fun c j h => (h2 c j h).trans (h1 c j h)
theorem FR.u {z Z : Sg} {j : Nat} {v : Int32} (h : FR z Z) (hj : 18 ≤ j ∧ j ≤ 21) : FR z (u2 Z 78 j v) := fun a b hab => by
  rw [pv_u2, if_neg (by omega)]
  exact h a b hab
def rK (k : Nat) : Int32 := if k < 3 then 3 else if k < 6 then nI (k + 1) else if k < 12 then 2 else if k = 256 then 1 else if k = 257 then 0 else if k = 258 then -1 else nI k
def cuR (z : Sg) (t : Tok) : Prop := z 78 20 = rK t.1 ∧ (t.1 = 256 → z 78 21 = nI t.2.1) ∧ (t.1 < 3 → z 78 21 = nI t.1) ∧ (6 ≤ t.1 → t.1 < 12 → z 78 21 = nI (t.1 - 6)) ∧ z 78 19 = nI t.2.2.1 ∧ z 78 18 = nI t.2.2.2
def mmB (T : Nat → Int32) (p e k : Nat) : Nat → Nat → Bool
  | 0, _ => true
  | d + 1, c => decide (wtb.getD (8 * k + c) 0 = if e ≤ p + c then 32 else T (p + c)) && mmB T p e k d (c + 1)
def mmA (T : Nat → Int32) (p e k : Nat) : Bool := decide (e - p ≤ 8) && mmB T p e k 8 0
theorem mmB_b {T : Nat → Int32} {p e k : Nat} : ∀ d c, mmB T p e k d c = true ↔ ∀ i, c ≤ i → i < c + d → wtb.getD (8 * k + i) 0 = if e ≤ p + i then 32 else T (p + i) := by
  intro d
  induction d with
  | zero => intro c; exact ⟨fun _ i i1 i2 => by omega, fun _ => rfl⟩
  | succ d ih =>
    intro c
    have ew : mmB T p e k (d + 1) c = (decide (wtb.getD (8 * k + c) 0 = if e ≤ p + c then 32 else T (p + c)) && mmB T p e k d (c + 1)) := rfl
    rw [ew, Bool.and_eq_true, decide_eq_true_eq, ih (c + 1)]
    constructor
    · intro h i i1 i2
      by_cases q : i = c
      · rw [q]; exact h.1
      · exact h.2 i (by omega) (by omega)
    · intro h
      exact ⟨h c (Nat.le_refl _) (by omega), fun i i1 i2 => h i (by omega) (by omega)⟩
/-- the class's order from the reference's -/
def pmW (k : Nat) : Nat := if k < 3 then k else if k < 9 then k + 3 else k - 6
theorem wtb_tab : ∀ k, k < 12 → wlL (pmW k) ≤ 6 ∧ 1 ≤ wlL (pmW k) ∧ (∀ c, c < wlL (pmW k) → wtb.getD (8 * k + c) 0 = nI ((wlN.getD (pmW k) []).getD c 0) ∧ nI ((wlN.getD (pmW k) []).getD c 0) ≠ 32) ∧ ∀ c, c < 8 → wlL (pmW k) ≤ c → wtb.getD (8 * k + c) 0 = 32 := by decide +kernel
theorem let_32 {b : Int32} (h : letB b = true) : b ≠ 32 := by
  rintro rfl
  exact absurd h (by decide)
theorem mm_cm {T : Nat → Int32} {p e k : Nat} (hk : k < 12) (hpe : p ≤ e) (hl : ∀ i, p ≤ i → i < e → letB (T i) = true) : mmA T p e k = cmB T p e (pmW k) := by
  obtain ⟨t1, t2, t3, t4⟩ := wtb_tab k hk
  rw [Bool.eq_iff_iff]
  unfold mmA cmB
  rw [Bool.and_eq_true, Bool.and_eq_true, decide_eq_true_eq, decide_eq_true_eq, mmB_b, List.all_eq_true]
  constructor
  · rintro ⟨h1, h2⟩
    have a1 : wlL (pmW k) ≤ e - p := by
      have := h2 (wlL (pmW k) - 1) (by omega) (by omega)
      by_cases q : e ≤ p + (wlL (pmW k) - 1)
      · rw [if_pos q, (t3 _ (by omega)).1] at this
        exact absurd this (t3 _ (by omega)).2
      · omega
    have a2 : ¬ wlL (pmW k) < e - p := fun q => by
      have := h2 (wlL (pmW k)) (by omega) (by omega)
      rw [t4 _ (by omega) (Nat.le_refl _), if_neg (by omega)] at this
      exact let_32 (hl _ (by omega) (by omega)) this.symm
    refine ⟨by omega, fun c hc => ?_⟩
    rw [List.mem_range] at hc
    rw [decide_eq_true_eq]
    have := h2 c (by omega) (by omega)
    rw [if_neg (by omega), (t3 c hc).1] at this
    exact this
  · rintro ⟨h1, h2⟩
    refine ⟨by omega, fun i i1 i2 => ?_⟩
    by_cases q : i < wlL (pmW k)
    · rw [if_neg (by omega), (t3 i q).1]
      have := h2 i (List.mem_range.mpr q)
      rw [decide_eq_true_eq] at this
      exact this
    · rw [if_pos (by omega)]
      exact t4 i (by omega) (by omega)
theorem wlN_tab : ∀ w, w < 12 → ∀ v, v < 12 → w ≠ v → wlL w = wlL v → ∃ c, c < wlL w ∧ nI ((wlN.getD w []).getD c 0) ≠ nI ((wlN.getD v []).getD c 0) := by decide +kernel
theorem cm_one {T : Nat → Int32} {p e w v : Nat} (hw : w < 12) (hv : v < 12) (h1 : cmB T p e w = true) (h2 : cmB T p e v = true) : w = v := by
  unfold cmB at h1 h2
  rw [Bool.and_eq_true, decide_eq_true_eq, List.all_eq_true] at h1 h2
  by_cases q : w = v
  · exact q
  · obtain ⟨c, c1, c2⟩ := wlN_tab w hw v hv q (by omega)
    have a1 := h1.2 c (List.mem_range.mpr c1)
    have a2 := h2.2 c (List.mem_range.mpr (by omega))
    rw [decide_eq_true_eq] at a1 a2
    exact absurd (a1.trans a2.symm) c2
theorem wkF_b {T : Nat → Int32} {p e : Nat} : ∀ k, (wkF T p e k = 258 ∧ ∀ w, w < k → cmB T p e w = false) ∨ (wkF T p e k < k ∧ cmB T p e (wkF T p e k) = true) := by
  intro k
  induction k with
  | zero => exact Or.inl ⟨rfl, fun w h => by omega⟩
  | succ k ih =>
    unfold wkF
    cases q : cmB T p e k with
    | true => rw [if_pos rfl]; exact Or.inr ⟨by omega, q⟩
    | false =>
      rw [if_neg (by decide)]
      rcases ih with h | h
      · refine Or.inl ⟨h.1, fun w hw => ?_⟩
        by_cases e : w = k
        · rw [e]; exact q
        · exact h.2 w (by omega)
      · exact Or.inr ⟨by omega, h.2⟩
section NEXM
variable {fu n : Nat} {T : Nat → Int32}
theorem tpM.a {z Z : Sg} (h : tpM z n T) (e : FR z Z) : tpM Z n T := ⟨by rw [e _ _ (by omega)]; exact h.1, h.2.1, fun j hj => by rw [e _ _ (by omega)]; exact h.2.2.1 j hj, h.2.2.2.1, h.2.2.2.2.at (fun c j hc => e c j (by omega))⟩
theorem letMr (v : Int32) (z : Sg) : pM_in fu v 97 122 z = some (if letB v then 1 else 0, z) := by
  unfold pM_in letB
  by_cases h1 : v < 97
  · simp [h1]
  · by_cases h2 : 122 < v <;> simp [h1, h2]
theorem digMr (v : Int32) (z : Sg) : pM_in fu v 48 57 z = some (if digB v then 1 else 0, z) := by
  unfold pM_in digB
  by_cases h1 : v < 48
  · simp [h1]
  · by_cases h2 : 57 < v <;> simp [h1, h2]
theorem wf26 {rc2 : Int32 → Int32 → Int32 → Sg → Option (Int32 × Sg)} {p e k : Nat} {z : Sg} (h : tpM z n T) (hk : k < 12) (hpe : p ≤ e) (hen : e ≤ n) : ∀ d c f, c + d = 8 → d + 1 < f → pM_wordFrom_26 fu rc2 f (nI p) (nI e) (nI k) 1 (nI c) z = if mmB T p e k d c then some (nI k, z) else rc2 (nI p) (nI e) (nI (k + 1)) z := by
  have hn := h.2.1
  intro d
  induction d with
  | zero =>
    intro c f h1 h2
    obtain ⟨f, rfl⟩ := fuS h2
    rw [pM_wordFrom_26, if_pos (show (8 : Int32) ≤ nI c from nI_le (a := 8) (by omega) (by omega))]
    unfold pM_wordFrom_88
    rw [if_neg (show ¬ (1 : Int32) = 0 by decide)]
    rfl
  | succ d ih =>
    intro c f h1 h2
    obtain ⟨f, rfl⟩ := fuS h2
    have ew : mmB T p e k (d + 1) c = (decide (wtb.getD (8 * k + c) 0 = if e ≤ p + c then 32 else T (p + c)) && mmB T p e k d (c + 1)) := rfl
    have e92 : ga z 92 (8 * nI k + nI c) = wtb.getD (8 * k + c) 0 := by
      rw [show (8 : Int32) = nI 8 from rfl, pk_mul, nI_add, pv_ga (by omega)]
      exact h.2.2.2.2 _ (by omega)
    have step : ∀ x : Int32, x = (if e ≤ p + c then 32 else T (p + c)) → pM_wordFrom_72 fu rc2 (pM_wordFrom_26 fu rc2 f) (nI p) (nI e) (nI k) (nI c) (ga z 92 (8 * nI k + nI c)) x z = if mmB T p e k (d + 1) c then some (nI k, z) else rc2 (nI p) (nI e) (nI (k + 1)) z := fun x hx => by
      unfold pM_wordFrom_72 pM_wordFrom_80
      rw [e92, hx, ew, nI_1]
      by_cases q : wtb.getD (8 * k + c) 0 = if e ≤ p + c then 32 else T (p + c)
      · rw [if_pos q, pv_letm, ih (c + 1) f (by omega) (by omega), decide_eq_true q, Bool.true_and]
      · rw [if_neg q, pv_letm, decide_eq_false q, Bool.false_and, if_neg (show ¬ false = true by decide)]
        obtain ⟨f, rfl⟩ := fuS (show 0 < f by omega)
        rw [pM_wordFrom_26, if_pos (show (0 : Int32) = 0 from rfl)]
        unfold pM_wordFrom_88
        rw [if_pos (show (0 : Int32) = 0 from rfl), pv_letm, nI_1]
        split <;> rfl
    rw [pM_wordFrom_26, if_neg (show ¬ (8 : Int32) ≤ nI c from nI_ge (b := 8) (by omega) (by omega)), if_neg (show ¬ (1 : Int32) = 0 by decide), show (8 : Int32) * nI k + nI c = nI (8 * k + c) from by rw [show (8 : Int32) = nI 8 from rfl, pk_mul, nI_add], pv_inb (by omega) (by omega), pv_chk, nI_add, show nI (8 * k + c) = (8 : Int32) * nI k + nI c from by rw [show (8 : Int32) = nI 8 from rfl, pk_mul, nI_add]]
    by_cases q : e ≤ p + c
    · rw [if_pos (nI_le q (by omega)), step 32 (by rw [if_pos q])]
    · rw [if_neg (nI_ge (by omega) (by omega)), pv_inb (by omega) (by omega), pv_chk, step _ (by rw [if_neg q, pv_ga (by omega)]; exact h.2.2.1 _ (by omega))]
theorem wf2 {p e : Nat} {z : Sg} (hf : 100 ≤ fu) (h : tpM z n T) (hpe : p ≤ e) (hen : e ≤ n) : ∀ d k f, k + d = 12 → d < f → ∃ r, pM_wordFrom_2 fu f (nI p) (nI e) (nI k) z = some (nI r, z) ∧ ((r = 12 ∧ ∀ i, k ≤ i → i < 12 → mmA T p e i = false) ∨ (k ≤ r ∧ r < 12 ∧ mmA T p e r = true)) := by
  have hn := h.2.1
  intro d
  induction d with
  | zero =>
    intro k f h1 h2
    obtain ⟨f, rfl⟩ := fuS h2
    rw [pM_wordFrom_2, if_pos (show (12 : Int32) ≤ nI k from nI_le (a := 12) (by omega) (by omega))]
    exact ⟨12, rfl, Or.inl ⟨rfl, fun i i1 i2 => by omega⟩⟩
  | succ d ih =>
    intro k f h1 h2
    obtain ⟨f, rfl⟩ := fuS h2
    obtain ⟨r, r1, r2⟩ := ih (k + 1) f (by omega) (by omega)
    have nxt : mmA T p e k = false → ∃ r, pM_wordFrom_2 fu f (nI p) (nI e) (nI (k + 1)) z = some (nI r, z) ∧ ((r = 12 ∧ ∀ i, k ≤ i → i < 12 → mmA T p e i = false) ∨ (k ≤ r ∧ r < 12 ∧ mmA T p e r = true)) := fun hm => by
      refine ⟨r, r1, ?_⟩
      rcases r2 with ⟨a1, a2⟩ | ⟨a1, a2, a3⟩
      · refine Or.inl ⟨a1, fun i i1 i2 => ?_⟩
        by_cases q : i = k
        · rw [q]; exact hm
        · exact a2 i (by omega) i2
      · exact Or.inr ⟨by omega, a2, a3⟩
    rw [pM_wordFrom_2, if_neg (show ¬ (12 : Int32) ≤ nI k from nI_ge (b := 12) (by omega) (by omega)), pk_sub hpe]
    unfold pM_wordFrom_21
    by_cases q : 8 < e - p
    · rw [if_pos (show (8 : Int32) < nI (e - p) from nI_lt (a := 8) q (by omega))]
      obtain ⟨f', hf'⟩ := fuS (show 0 < fu by omega)
      have e26 : pM_wordFrom_26 fu (pM_wordFrom_2 fu f) fu (nI p) (nI e) (nI k) 0 0 z = pM_wordFrom_2 fu f (nI p) (nI e) (nI (k + 1)) z := by
        conv => lhs; arg 3; rw [hf']
        rw [pM_wordFrom_26, if_neg (show ¬ (8 : Int32) ≤ 0 by decide), if_pos (show (0 : Int32) = 0 from rfl)]
        unfold pM_wordFrom_88
        rw [if_pos (show (0 : Int32) = 0 from rfl), pv_letm, nI_1]
      rw [e26]
      exact nxt (by unfold mmA; rw [decide_eq_false (by omega), Bool.false_and])
    · rw [if_neg (show ¬ (8 : Int32) < nI (e - p) from nI_nlt (a := 8) (by omega) (by omega)), show (0 : Int32) = nI 0 from rfl, wf26 (fu := fu) h (by omega) hpe hen 8 0 fu rfl (by omega)]
      cases hm : mmB T p e k 8 0 with
      | true =>
        rw [if_pos rfl]
        exact ⟨k, rfl, Or.inr ⟨Nat.le_refl _, by omega, by unfold mmA; rw [hm, decide_eq_true (by omega)]; rfl⟩⟩
      | false =>
        rw [if_neg (by decide)]
        exact nxt (by unfold mmA; rw [hm, Bool.and_false])
theorem wfM1 {p e : Nat} {z : Sg} (hf : 100 ≤ fu) (h : tpM z n T) (hpe : p ≤ e) (hen : e ≤ n) (hl : ∀ i, p ≤ i → i < e → letB (T i) = true) : ∃ r, pM_wordFrom fu (nI p) (nI e) z = some (nI r, z) ∧ ((r = 12 ∧ wkN T p e = 258) ∨ (r < 12 ∧ wkN T p e = pmW r)) := by
  obtain ⟨r, r1, r2⟩ := wf2 (fu := fu) hf h hpe hen 12 0 fu rfl (by omega)
  refine ⟨r, r1, ?_⟩
  have hp : ∀ k, k < 12 → pmW k < 12 := by decide
  have hs : ∀ w, w < 12 → ∃ k, k < 12 ∧ pmW k = w := by decide
  rcases wkF_b (T := T) (p := p) (e := e) 12 with ⟨b1, b2⟩ | ⟨b1, b2⟩
  · rcases r2 with ⟨a1, a2⟩ | ⟨a1, a2, a3⟩
    · exact Or.inl ⟨a1, b1⟩
    · rw [mm_cm a2 hpe hl, b2 _ (hp r a2)] at a3
      exact absurd a3 (by decide)
  · rcases r2 with ⟨a1, a2⟩ | ⟨a1, a2, a3⟩
    · obtain ⟨k, k1, k2⟩ := hs _ b1
      have := a2 k (by omega) k1
      rw [mm_cm k1 hpe hl, k2, b2] at this
      exact absurd this (by decide)
    · rw [mm_cm a2 hpe hl] at a3
      exact Or.inr ⟨a2, cm_one b1 (hp r a2) b2 a3⟩
theorem blaMr : ∀ k a f z, a + k = n → k < f → tpM z n T → z 78 18 = nI a → ∃ Z, pM_next_0 fu f z = pM_next_52 fu Z ∧ Z 78 18 = nI (tspM blaB T k a) ∧ ∀ c j, ¬ (c = 78 ∧ j = 18) → Z c j = z c j := by
  intro k
  induction k with
  | zero =>
    intro a f z h1 h2 h3 h4
    obtain ⟨f, rfl⟩ := fuS h2
    have hn := h3.2.1
    rw [pM_next_0, h3.1, h4, if_pos (nI_le (by omega) (by omega))]
    exact ⟨z, rfl, h4, fun _ _ _ => rfl⟩
  | succ k ih =>
    intro a f z h1 h2 h3 h4
    obtain ⟨f, rfl⟩ := fuS h2
    have hn := h3.2.1
    have ez : ga z 83 (nI a) = T a := by rw [pv_ga (by omega)]; exact h3.2.2.1 a (by omega)
    have go : ∃ Z, pM_next_39 fu (pM_next_0 fu f) z = pM_next_52 fu Z ∧ Z 78 18 = nI (tspM blaB T k (a + 1)) ∧ ∀ c j, ¬ (c = 78 ∧ j = 18) → Z c j = z c j := by
      unfold pM_next_39
      rw [pv_letm, h4, nI_1]
      obtain ⟨Z, z1, z2, z3⟩ := ih (a + 1) f (u2 z 78 18 (nI (a + 1))) (by omega) (by omega) (h3.a (FR.rf.u (by omega))) (by rw [pv_u2, if_pos ⟨rfl, rfl⟩])
      exact ⟨Z, z1, z2, fun c j hc => by rw [z3 c j hc, pv_u2, if_neg hc]⟩
    rw [pM_next_0, h3.1, h4, if_neg (nI_ge (by omega) (by omega)), pv_inb (by omega) (by omega), pv_chk, pv_chk, ez]
    unfold tspM
    by_cases q1 : T a = 32
    · rw [if_pos q1, show blaB (T a) = true from by unfold blaB; rw [decide_eq_true q1]; rfl, if_pos rfl]
      exact go
    · rw [if_neg q1]
      by_cases q2 : T a = 10
      · rw [if_pos q2, show blaB (T a) = true from by unfold blaB; rw [decide_eq_true q2, Bool.or_true], if_pos rfl]
        exact go
      · rw [if_neg q2, show blaB (T a) = false from by unfold blaB; rw [decide_eq_false q1, decide_eq_false q2]; rfl, if_neg (by decide)]
        exact ⟨z, rfl, h4, fun _ _ _ => rfl⟩
theorem lesMr : ∀ k a f z, a + k = n → k < f → tpM z n T → z 78 18 = nI a → ∃ Z, pM_next_103 fu f z = pM_next_146 fu Z ∧ Z 78 18 = nI (tspM letB T k a) ∧ ∀ c j, ¬ (c = 78 ∧ j = 18) → Z c j = z c j := by
  intro k
  induction k with
  | zero =>
    intro a f z h1 h2 h3 h4
    obtain ⟨f, rfl⟩ := fuS h2
    have hn := h3.2.1
    rw [pM_next_103, h3.1, h4, if_pos (nI_le (by omega) (by omega))]
    exact ⟨z, rfl, h4, fun _ _ _ => rfl⟩
  | succ k ih =>
    intro a f z h1 h2 h3 h4
    obtain ⟨f, rfl⟩ := fuS h2
    have hn := h3.2.1
    have ez : ga z 83 (nI a) = T a := by rw [pv_ga (by omega)]; exact h3.2.2.1 a (by omega)
    rw [pM_next_103, h3.1, h4, if_neg (nI_ge (by omega) (by omega)), pv_inb (by omega) (by omega), pv_chk, ez, letMr, pv_bnd, h4, nI_1, pv_letm]
    unfold tspM
    cases hq : letB (T a) with
    | true =>
      simp only [eq_self, if_true, show ((1 : Int32) = 0) = False from by decide, if_false]
      obtain ⟨Z, z1, z2, z3⟩ := ih (a + 1) f (u2 z 78 18 (nI (a + 1))) (by omega) (by omega) (h3.a (FR.rf.u (by omega))) (by rw [pv_u2, if_pos ⟨rfl, rfl⟩])
      exact ⟨Z, z1, z2, fun c j hc => by rw [z3 c j hc, pv_u2, if_neg hc]⟩
    | false =>
      simp only [eq_self, if_true, Bool.false_eq_true, if_false]
      exact ⟨z, rfl, h4, fun _ _ _ => rfl⟩
theorem disMr : ∀ k a f c z, a + k = n → k < f → c ≤ a → tpM z n T → z 78 18 = nI a → ∃ Z, pM_next_230 fu f (nI c) z = pM_next_309 fu (nI (c + (tspM digB T k a - a))) Z ∧ Z 78 18 = nI (tspM digB T k a) ∧ (c + (tspM digB T k a - a) ≤ 4 → Z 78 21 = nuI T (tspM digB T k a - a) a (z 78 21)) ∧ ∀ i j, ¬ (i = 78 ∧ (j = 18 ∨ j = 21)) → Z i j = z i j := by
  intro k
  induction k with
  | zero =>
    intro a f c z h1 h2 hc h3 h4
    obtain ⟨f, rfl⟩ := fuS h2
    have hn := h3.2.1
    rw [pM_next_230, h3.1, h4, if_pos (nI_le (by omega) (by omega))]
    have e0 : tspM digB T 0 a - a = 0 := Nat.sub_self a
    rw [e0]
    exact ⟨z, rfl, h4, fun _ => rfl, fun _ _ _ => rfl⟩
  | succ k ih =>
    intro a f c z h1 h2 hc h3 h4
    obtain ⟨f, rfl⟩ := fuS h2
    have hn := h3.2.1
    have ez : ga z 83 (nI a) = T a := by rw [pv_ga (by omega)]; exact h3.2.2.1 a (by omega)
    rw [pM_next_230, h3.1, h4, if_neg (nI_ge (by omega) (by omega)), pv_inb (by omega) (by omega), pv_chk, ez, digMr, pv_bnd]
    unfold tspM
    cases hq : digB (T a) with
    | true =>
      simp only [eq_self, if_true, show ((1 : Int32) = 0) = False from by decide, if_false]
      have hb := (tspM_b digB T k (a + 1)).1
      have go : ∀ v : Int32, (c < 4 → v = z 78 21 * 10 + T a - 48) → ∃ Z, pM_next_290 fu (pM_next_230 fu f) (nI c) v z = pM_next_309 fu (nI (c + (tspM digB T k (a + 1) - a))) Z ∧ Z 78 18 = nI (tspM digB T k (a + 1)) ∧ (c + (tspM digB T k (a + 1) - a) ≤ 4 → Z 78 21 = nuI T (tspM digB T k (a + 1) - a) a (z 78 21)) ∧ ∀ i j, ¬ (i = 78 ∧ (j = 18 ∨ j = 21)) → Z i j = z i j := fun v hv => by
        unfold pM_next_290
        have e18 : (u2 z 78 21 v) 78 18 = nI a := by rw [pv_u2, if_neg (by omega)]; exact h4
        rw [pv_letm, pv_letm, pv_letm, e18, nI_1, nI_1]
        obtain ⟨Z, z1, z2, z3, z4⟩ := ih (a + 1) f (c + 1) (u2 (u2 z 78 21 v) 78 18 (nI (a + 1))) (by omega) (by omega) (by omega) (h3.a ((FR.rf.u (by omega)).u (by omega))) (by rw [pv_u2, if_pos ⟨rfl, rfl⟩])
        refine ⟨Z, by rw [z1, show c + 1 + (tspM digB T k (a + 1) - (a + 1)) = c + (tspM digB T k (a + 1) - a) by omega], z2, fun q => ?_, fun i j hij => by rw [z4 i j hij, pv_u2, if_neg (by omega), pv_u2, if_neg (by omega)]⟩
        rw [z3 (by omega), pv_u2, if_neg (by omega), pv_u2, if_pos ⟨rfl, rfl⟩, hv (by omega)]
        obtain ⟨d, hd⟩ : ∃ d, tspM digB T k (a + 1) - a = d + 1 := ⟨tspM digB T k (a + 1) - a - 1, by omega⟩
        rw [hd, show tspM digB T k (a + 1) - (a + 1) = d by omega]
        rfl
      rw [h4]
      by_cases q4 : 4 ≤ c
      · rw [if_pos (show (4 : Int32) ≤ nI c from nI_le (a := 4) q4 (by omega))]
        exact go 0 (fun q => by omega)
      · rw [if_neg (show ¬ (4 : Int32) ≤ nI c from nI_ge (b := 4) (by omega) (by omega)), pv_inb (by omega) (by omega), pv_chk, ez]
        exact go _ (fun _ => by rw [Int32.mul_comm])
    | false =>
      simp only [eq_self, if_true, Bool.false_eq_true, if_false]
      refine ⟨z, by rw [Nat.sub_self, Nat.add_zero], h4, fun _ => by rw [Nat.sub_self]; rfl, fun _ _ _ => rfl⟩
theorem sgn_un {b : Int32} {x : Nat} (hb : b = nI x) (hx : x < 256) : (sgB b = true → ∃ k, k ∈ [40, 41, 59, 43, 45, 42, 60, 61] ∧ b = nI k ∧ b.toNatClampNeg = k) := by
  intro h
  unfold sgB at h
  simp only [Bool.or_eq_true, decide_eq_true_eq] at h
  rcases h with ((((((h | h) | h) | h) | h) | h) | h) | h <;> rw [h]
  · exact ⟨40, by decide, rfl, rfl⟩
  · exact ⟨41, by decide, rfl, rfl⟩
  · exact ⟨59, by decide, rfl, rfl⟩
  · exact ⟨43, by decide, rfl, rfl⟩
  · exact ⟨45, by decide, rfl, rfl⟩
  · exact ⟨42, by decide, rfl, rfl⟩
  · exact ⟨60, by decide, rfl, rfl⟩
  · exact ⟨61, by decide, rfl, rfl⟩
theorem rK_sg : ∀ k, k ∈ [40, 41, 59, 43, 45, 42, 60, 61] → rK k = nI k ∧ k ≠ 256 ∧ ¬ k < 3 ∧ ¬ k < 12 := by decide
theorem ne2M {p : Nat} {w : Sg} (hf : 300 ≤ fu) (h : tpM w n T) (h3 : w 78 18 = nI p) (hp : p ≤ n) : ∃ Z, pM_next_52 fu w = some Z ∧ cuR Z (tok2 T n p) ∧ FR w Z := by
  have hn := h.2.1
  unfold pM_next_52 tok2
  rw [pv_letm, pv_letm, pv_letm, h3]
  have hF : FR w (u2 (u2 (u2 w 78 19 (nI p)) 78 20 0) 78 21 0) := ((FR.rf.u (by omega)).u (by omega)).u (by omega)
  have y18 : (u2 (u2 (u2 w 78 19 (nI p)) 78 20 0) 78 21 0) 78 18 = nI p := by rw [pv_u2, if_neg (by omega), pv_u2, if_neg (by omega), pv_u2, if_neg (by omega)]; exact h3
  have y19 : (u2 (u2 (u2 w 78 19 (nI p)) 78 20 0) 78 21 0) 78 19 = nI p := by rw [pv_u2, if_neg (by omega), pv_u2, if_neg (by omega), pv_u2, if_pos ⟨rfl, rfl⟩]
  have y20 : (u2 (u2 (u2 w 78 19 (nI p)) 78 20 0) 78 21 0) 78 20 = 0 := by rw [pv_u2, if_neg (by omega), pv_u2, if_pos ⟨rfl, rfl⟩]
  have y21 : (u2 (u2 (u2 w 78 19 (nI p)) 78 20 0) 78 21 0) 78 21 = 0 := by rw [pv_u2, if_pos ⟨rfl, rfl⟩]
  have yT := h.a hF
  generalize u2 (u2 (u2 w 78 19 (nI p)) 78 20 0) 78 21 0 = y at hF y18 y19 y20 y21 yT ⊢
  rw [y18, yT.1]
  by_cases q : n ≤ p
  · rw [if_pos (show nI p = nI n by rw [show p = n by omega]), if_pos q]
    exact ⟨y, rfl, ⟨y20, fun hk => absurd hk (show ¬ (257 : Nat) = 256 by decide), fun hk => absurd hk (show ¬ (257 : Nat) < 3 by decide), fun _ hk => absurd hk (show ¬ (257 : Nat) < 12 by decide), y19, y18⟩, hF⟩
  · have ez : ga y 83 (nI p) = T p := by rw [pv_ga (by omega)]; exact yT.2.2.1 p (by omega)
    rw [if_neg (by rw [pv_eq (by omega) (by omega)]; omega), if_neg q, pv_inb (by omega) (by omega), pv_chk, pv_letm, ez, letMr, pv_bnd]
    cases hl : letB (T p) with
    | true =>
      simp only [eq_self, if_true, show ((1 : Int32) = 0) = False from by decide, if_false]
      obtain ⟨b1, b2, b3, b4⟩ := tspM_b letB T (n - p) p
      obtain ⟨Z2, e2, f2, g2⟩ := lesMr (fu := fu) (n - p) p fu y (by omega) (by omega) yT y18
      have k2 : FR y Z2 := fun c j hc => g2 c j (fun q => hc (by omega))
      obtain ⟨r, r1, r2⟩ := wfM1 (fu := fu) (p := p) (e := tspM letB T (n - p) p) (by omega) (yT.a k2) b1 (by omega) (fun i i1 i2 => b3 i i1 i2)
      have g19 : Z2 78 19 = nI p := by rw [g2 _ _ (by omega)]; exact y19
      rw [e2]
      unfold pM_next_146
      rw [g19, f2, r1, pv_bnd]
      have fin : ∀ (x v : Int32) (k : Nat), x = rK k → v = (if 3 ≤ nI r then nI r - 3 else nI r) → k ≠ 256 → (k < 3 → v = nI k) → (6 ≤ k → k < 12 → v = nI (k - 6)) → ∃ Z, pM_next_195 fu (nI r) x Z2 = some Z ∧ cuR Z (k, 0, p, tspM letB T (n - p) p) ∧ FR w Z := fun x v k hx hv h256 hk3 hk6 => by
        refine ⟨u2 (u2 Z2 78 20 x) 78 21 v, ?_, ⟨by rw [pv_u2, if_neg (by omega), pv_u2, if_pos ⟨rfl, rfl⟩]; exact hx, fun hk => absurd hk h256, fun hk => by rw [pv_u2, if_pos ⟨rfl, rfl⟩]; exact hk3 hk, fun hk hk' => by rw [pv_u2, if_pos ⟨rfl, rfl⟩]; exact hk6 hk hk', by rw [pv_u2, if_neg (by omega), pv_u2, if_neg (by omega)]; exact g19, by rw [pv_u2, if_neg (by omega), pv_u2, if_neg (by omega)]; exact f2⟩, ((hF.tr k2).u (by omega)).u (by omega)⟩
        unfold pM_next_195 pM_next_211
        rw [pv_letm, hv]
        split <;> rfl
      rcases r2 with ⟨a1, a2⟩ | ⟨a1, a2⟩
      · subst a1
        rw [if_pos (by decide), if_pos (by decide), if_pos (by decide), a2]
        exact fin _ _ 258 rfl rfl (by decide) (fun q => absurd q (by decide)) (fun _ q => absurd q (by decide))
      · rw [a2]
        have hr : r = 0 ∨ r = 1 ∨ r = 2 ∨ r = 3 ∨ r = 4 ∨ r = 5 ∨ r = 6 ∨ r = 7 ∨ r = 8 ∨ r = 9 ∨ r = 10 ∨ r = 11 := by omega
        rcases hr with rfl | rfl | rfl | rfl | rfl | rfl | rfl | rfl | rfl | rfl | rfl | rfl
        · rw [if_neg (by decide)]; exact fin _ _ 0 (by decide) rfl (by decide) (fun _ => by decide) (fun q => absurd q (by decide))
        · rw [if_neg (by decide)]; exact fin _ _ 1 (by decide) rfl (by decide) (fun _ => by decide) (fun q => absurd q (by decide))
        · rw [if_neg (by decide)]; exact fin _ _ 2 (by decide) rfl (by decide) (fun _ => by decide) (fun q => absurd q (by decide))
        · rw [if_pos (by decide), if_neg (by decide)]; exact fin _ _ 6 (by decide) rfl (by decide) (fun q => absurd q (by decide)) (fun _ _ => by decide)
        · rw [if_pos (by decide), if_neg (by decide)]; exact fin _ _ 7 (by decide) rfl (by decide) (fun q => absurd q (by decide)) (fun _ _ => by decide)
        · rw [if_pos (by decide), if_neg (by decide)]; exact fin _ _ 8 (by decide) rfl (by decide) (fun q => absurd q (by decide)) (fun _ _ => by decide)
        · rw [if_pos (by decide), if_neg (by decide)]; exact fin _ _ 9 (by decide) rfl (by decide) (fun q => absurd q (by decide)) (fun _ _ => by decide)
        · rw [if_pos (by decide), if_neg (by decide)]; exact fin _ _ 10 (by decide) rfl (by decide) (fun q => absurd q (by decide)) (fun _ _ => by decide)
        · rw [if_pos (by decide), if_neg (by decide)]; exact fin _ _ 11 (by decide) rfl (by decide) (fun q => absurd q (by decide)) (fun _ _ => by decide)
        · rw [if_pos (by decide), if_pos (by decide), if_neg (by decide)]; exact fin _ _ 3 (by decide) rfl (by decide) (fun q => absurd q (by decide)) (fun q => absurd q (by decide))
        · rw [if_pos (by decide), if_pos (by decide), if_neg (by decide)]; exact fin _ _ 4 (by decide) rfl (by decide) (fun q => absurd q (by decide)) (fun q => absurd q (by decide))
        · rw [if_pos (by decide), if_pos (by decide), if_neg (by decide)]; exact fin _ _ 5 (by decide) rfl (by decide) (fun q => absurd q (by decide)) (fun q => absurd q (by decide))
    | false =>
      simp only [eq_self, if_true, Bool.false_eq_true, if_false]
      rw [digMr, pv_bnd]
      cases hd : digB (T p) with
      | true =>
        simp only [eq_self, if_true, show ((1 : Int32) = 0) = False from by decide, if_false]
        obtain ⟨b1, b2, b3, b4⟩ := tspM_b digB T (n - p) p
        obtain ⟨Z2, e2, f2, v2, g2⟩ := disMr (fu := fu) (n - p) p fu 0 y (by omega) (by omega) (by omega) yT y18
        have k2 : FR y Z2 := fun c j hc => g2 c j (fun q => hc (by omega))
        have g19 : Z2 78 19 = nI p := by rw [g2 _ _ (by omega)]; exact y19
        rw [show (0 : Int32) = nI 0 from rfl, e2]
        unfold pM_next_309 pM_next_320
        rw [Nat.zero_add] at v2 ⊢
        by_cases q4 : tspM digB T (n - p) p - p ≤ 4
        · rw [if_pos (show nI (tspM digB T (n - p) p - p) ≤ 4 from nI_le (b := 4) q4 (by omega)), if_pos q4, pv_letm]
          refine ⟨_, rfl, ⟨by rw [pv_u2, if_pos ⟨rfl, rfl⟩]; rfl, fun _ => ?_, fun hk => absurd hk (show ¬ (256 : Nat) < 3 by decide), fun _ hk => absurd hk (show ¬ (256 : Nat) < 12 by decide), by rw [pv_u2, if_neg (by omega)]; exact g19, by rw [pv_u2, if_neg (by omega)]; exact f2⟩, (hF.tr k2).u (by omega)⟩
          rw [pv_u2, if_neg (by omega), v2 q4, y21]
          obtain ⟨x, x1, x2⟩ := nuI_b (T := T) (tspM digB T (n - p) p - p) p 0 0 (fun i i1 i2 => b3 i i1 (by omega)) (by omega) (by omega)
          have x3 : nuI T (tspM digB T (n - p) p - p) p 0 = nI x := x2
          have : 10 ^ (0 + (tspM digB T (n - p) p - p)) ≤ 10 ^ 4 := Nat.pow_le_pow_right (by omega) (by omega)
          show nuI T (tspM digB T (n - p) p - p) p 0 = nI (nuI T (tspM digB T (n - p) p - p) p 0).toNatClampNeg
          rw [x3, nI_clamp (by omega)]
        · rw [if_neg (show ¬ nI (tspM digB T (n - p) p - p) ≤ 4 from nI_ge (a := 4) (by omega) (by omega)), if_neg q4, pv_letm]
          exact ⟨_, rfl, ⟨by rw [pv_u2, if_pos ⟨rfl, rfl⟩]; rfl, fun hk => absurd hk (show ¬ (258 : Nat) = 256 by decide), fun hk => absurd hk (show ¬ (258 : Nat) < 3 by decide), fun _ hk => absurd hk (show ¬ (258 : Nat) < 12 by decide), by rw [pv_u2, if_neg (by omega)]; exact g19, by rw [pv_u2, if_neg (by omega)]; exact f2⟩, (hF.tr k2).u (by omega)⟩
      | false =>
        simp only [eq_self, if_true, Bool.false_eq_true, if_false]
        have last : ∀ v k, v = rK k → k ≠ 256 → ¬ k < 3 → ¬ k < 12 → ∃ Z, pM_next_390 fu v y = some Z ∧ cuR Z (k, 0, p, p + 1) ∧ FR w Z := fun v k hv hk h3 h12 => by
          unfold pM_next_390
          rw [pv_letm, pv_letm]
          refine ⟨_, rfl, ⟨by rw [pv_u2, if_neg (by omega), pv_u2, if_pos ⟨rfl, rfl⟩]; exact hv, fun q => absurd q hk, fun q => absurd q h3, fun _ q => absurd q h12, ?_, ?_⟩, (hF.u (by omega)).u (by omega)⟩
          · rw [pv_u2, if_neg (by omega), pv_u2, if_neg (by omega)]; exact y19
          · rw [pv_u2, if_pos ⟨rfl, rfl⟩, pv_u2, if_neg (by omega), y18, nI_1]
        unfold pM_next_374 pM_next_379
        simp only [show ((1 : Int32) = 0) = False from by decide, if_false, eq_self, if_true]
        cases hs : sgB (T p) with
        | true =>
          obtain ⟨x, x1, x2⟩ := yT.2.2.2.1 p (by omega)
          obtain ⟨k, k1, k2, k3⟩ := sgn_un x2 x1 hs
          obtain ⟨u1, u2', u3, u4⟩ := rK_sg k k1
          have e : (if T p = 40 then pM_next_390 fu (T p) y else if T p = 41 then pM_next_390 fu (T p) y else if T p = 59 then pM_next_390 fu (T p) y else if T p = 43 then pM_next_390 fu (T p) y else if T p = 45 then pM_next_390 fu (T p) y else if T p = 42 then pM_next_390 fu (T p) y else if T p = 60 then pM_next_390 fu (T p) y else if T p = 61 then pM_next_390 fu (T p) y else pM_next_390 fu (-1) y) = pM_next_390 fu (T p) y := by
            unfold sgB at hs
            simp only [Bool.or_eq_true, decide_eq_true_eq] at hs
            rcases hs with ((((((h | h) | h) | h) | h) | h) | h) | h <;> simp [h]
          rw [if_pos rfl, k3]
          rw [e]
          exact last _ k (by rw [k2, u1]) u2' u3 u4
        | false =>
          have e : (if T p = 40 then pM_next_390 fu (T p) y else if T p = 41 then pM_next_390 fu (T p) y else if T p = 59 then pM_next_390 fu (T p) y else if T p = 43 then pM_next_390 fu (T p) y else if T p = 45 then pM_next_390 fu (T p) y else if T p = 42 then pM_next_390 fu (T p) y else if T p = 60 then pM_next_390 fu (T p) y else if T p = 61 then pM_next_390 fu (T p) y else pM_next_390 fu (-1) y) = pM_next_390 fu (-1) y := by
            unfold sgB at hs
            simp only [Bool.or_eq_false_iff, decide_eq_false_iff_not] at hs
            obtain ⟨⟨⟨⟨⟨⟨⟨h1, h2⟩, h3⟩, h4⟩, h5⟩, h6⟩, h7⟩, h8⟩ := hs
            rw [if_neg h1, if_neg h2, if_neg h3, if_neg h4, if_neg h5, if_neg h6, if_neg h7, if_neg h8]
          rw [if_neg (show ¬ false = true by decide), e]
          exact last _ 258 rfl (by decide) (by decide) (by decide)
theorem nexM {a : Nat} {z : Sg} (hf : 300 ≤ fu) (h : tpM z n T) (h3 : z 78 18 = nI a) (ha : a ≤ n) : ∃ Z, pM_next fu z = some Z ∧ cuR Z (tok1 T n a) ∧ FR z Z := by
  have hn := h.2.1
  obtain ⟨b1, b2, _, _⟩ := tspM_b blaB T (n - a) a
  obtain ⟨Z1, e1, f1, g1⟩ := blaMr (fu := fu) (n - a) a fu z (by omega) (by omega) h h3
  have k1 : FR z Z1 := fun c j hc => g1 c j (fun q => hc (by omega))
  obtain ⟨Z, z1, z2, z3⟩ := ne2M (fu := fu) (p := tspM blaB T (n - a) a) hf (h.a k1) f1 (by omega)
  exact ⟨Z, by unfold pM_next; rw [e1, z1], z2, k1.tr z3⟩
end NEXM
