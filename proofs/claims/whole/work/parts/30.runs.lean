theorem pv_cpy {z : Sg} {a b sp dp n : Nat} (h1 : sp < 2147483648) (h2 : dp < 2147483648) (h3 : n < 2147483648) (c j : Nat) : cpy z a (nI sp) b (nI dp) (nI n) c j = if c = b ∧ dp ≤ j ∧ j < dp + n then z a (sp + (j - dp)) else z c j := by
  unfold cpy ur va_cpy
  rw [pv_clamp h1, pv_clamp h2, pv_clamp h3]
  by_cases e : c = b
  · subst e
    by_cases e2 : dp ≤ j ∧ j < dp + n
    · rw [if_pos rfl, if_pos e2, if_pos ⟨rfl, e2⟩]
    · rw [if_pos rfl, if_neg e2, if_neg (fun q => e2 q.2)]
  · rw [if_neg e, if_neg (fun q => e q.1)]
theorem pv_cpb {sp dp n n0 n1 : Nat} (h1 : sp + n ≤ n0) (h2 : dp + n ≤ n1) (h3 : n0 < 2147483648) (h4 : n1 < 2147483648) : cpb (nI sp) (nI dp) (nI n) n0 n1 = true := by
  unfold cpb
  rw [pv_clamp (by omega), pv_clamp (by omega), pv_clamp (by omega)]
  simp [nI_pos (show sp < 2 ^ 31 by omega), nI_pos (show dp < 2 ^ 31 by omega), nI_pos (show n < 2 ^ 31 by omega), h1, h2]
/-! strokes in a row -/
abbrev FK : Type := (Nat → Nat → Int32) × (Nat → Int32)
def s1M (L : LT) (n : Nat) (s : FK) : FK := (stF L n s.1 s.2, stK s.2)
def itM (L : LT) (n : Nat) : Nat → FK → FK
  | 0, s => s
  | k + 1, s => itM L n k (s1M L n s)
def suM (L : LT) (n : Nat) : Nat → FK → Int32 → Int32
  | 0, _, a => a
  | k + 1, s, a => suM L n k (s1M L n s) (a + cuM L n s.1 s.2)
theorem bs.next {fu n lw : Nat} {F : Nat → Nat → Int32} {K : Nat → Int32} {C E : Nat → Nat} (h : bs fu n lw F K C E) : bs fu n lw (stF (saM C E) n F K) (stK K) C E := ⟨h.1, h.2.1, h.2.2.1, h.2.2.2.1, st_b h.2.2.2.2 h.1⟩
theorem lC.w {z Z : Sg} {r lw : Nat} {C E : Nat → Nat} (hr : isRow r) (hw : lw < 7) (h : lC z (42 + 4 * lw) C E) (e : EqW r z Z) : lC Z (42 + 4 * lw) C E := by
  obtain ⟨h1, h2, h3, h4⟩ := h
  have q2 : ∀ j, ¬ SW r (42 + 4 * lw + 2) j := fun j => by unfold SW SC isRow at *; omega
  have q1 : ∀ j, ¬ SW r (42 + 4 * lw + 1) j := fun j => by unfold SW SC isRow at *; omega
  exact ⟨by rw [e _ _ (q2 _)]; exact h1, by rw [e _ _ (q2 _)]; exact h2, by rw [e _ _ (q2 _)]; exact h3, fun i hi => by rw [e _ _ (q1 _)]; exact h4 i hi⟩
theorem lM.n {z Z : Sg} {t : Nat} {C E : Nat → Nat} (h : lM z t C E) (e : EqN z Z) : lM Z t C E := by
  obtain ⟨h0, h1, h2, h3, h4⟩ := h
  have q : ∀ c, c = 84 ∨ c = 85 → ∀ j, Z c j = z c j := fun c hc j => e c j (by omega) (by omega) (by omega) (by omega) (by omega)
  exact ⟨by rw [q 85 (by omega)]; exact h0, by rw [q 85 (by omega)]; exact h1, by rw [q 85 (by omega)]; exact h2, by rw [q 85 (by omega)]; exact h3, fun i hi => by rw [q 84 (by omega)]; exact h4 i hi⟩
section RUN
variable {fu r n lw : Nat} {z : Sg} {F : Nat → Nat → Int32} {K : Nat → Int32} {C E : Nat → Nat}
theorem cutC_loop (hr : isRow r) (q : Nat) (hq : q < 100) : ∀ k i f a (s : FK) z, i + k = q → k < f → bs fu n lw s.1 s.2 C E → rC z r n lw s.1 s.2 → lC z (42 + 4 * lw) C E → ∃ Z, pR_cutBy_4 fu r f (nI q) a (nI i) z = some (suM (saM C E) n k s a, Z) ∧ rC Z r n lw (itM (saM C E) n k s).1 (itM (saM C E) n k s).2 ∧ EqW r z Z := by
  intro k
  induction k with
  | zero =>
    intro i f a s z h1 h2 h3 h4 h5
    obtain ⟨f, rfl⟩ := fuS h2
    rw [pR_cutBy_4, if_pos (nI_le (by omega) (by omega))]
    exact ⟨z, rfl, h4, EqW.rf⟩
  | succ k ih =>
    intro i f a s z h1 h2 h3 h4 h5
    obtain ⟨f, rfl⟩ := fuS h2
    obtain ⟨Y, y1, y2, y3, y4⟩ := swC hr h3 h4 h5
    rw [pR_cutBy_4, if_neg (nI_ge (by omega) (by omega)), y1, pv_bnd, pv_letm, pv_letm, nI_1]
    obtain ⟨Z, z1, z2, z3⟩ := ih (i + 1) f (a + cuM (saM C E) n s.1 s.2) (s1M (saM C E) n s) Y (by omega) (by omega) h3.next y2 (h5.w hr (by have := h3.2.1; omega) y4)
    exact ⟨Z, z1, z2, y4.tr z3⟩
theorem cutC (hr : isRow r) {q : Nat} (hq : q < 100) (s : FK) (hb : bs fu n lw s.1 s.2 C E) (h0 : rC z r n lw s.1 s.2) (hl : lC z (42 + 4 * lw) C E) : ∃ Z, pR_cutBy fu r (nI q) z = some (suM (saM C E) n q s 0, Z) ∧ rC Z r n lw (itM (saM C E) n q s).1 (itM (saM C E) n q s).2 ∧ EqW r z Z :=
  cutC_loop hr q hq q 0 fu 0 s z (by omega) (by have := hb.2.2.2.1; omega) hb h0 hl
theorem goMr_loop (q : Nat) (hq : q < 100) : ∀ k i f a (s : FK) z, i + k = q → k < f → bs fu n lw s.1 s.2 C E → rM z n lw s.1 s.2 → lM z lw C E → ∃ Z, pM_goes_4 fu f (nI q) a (nI i) z = some (suM (saM C E) n k s a, Z) ∧ rM Z n lw (itM (saM C E) n k s).1 (itM (saM C E) n k s).2 ∧ EqN z Z := by
  intro k
  induction k with
  | zero =>
    intro i f a s z h1 h2 h3 h4 h5
    obtain ⟨f, rfl⟩ := fuS h2
    rw [pM_goes_4, if_pos (nI_le (by omega) (by omega))]
    exact ⟨z, rfl, h4, EqN.rf⟩
  | succ k ih =>
    intro i f a s z h1 h2 h3 h4 h5
    obtain ⟨f, rfl⟩ := fuS h2
    obtain ⟨Y, y1, y2, y4⟩ := swMr h3 h4 h5
    rw [pM_goes_4, if_neg (nI_ge (by omega) (by omega)), y1, pv_bnd, pv_letm, pv_letm, nI_1]
    obtain ⟨Z, z1, z2, z3⟩ := ih (i + 1) f (a + cuM (saM C E) n s.1 s.2) (s1M (saM C E) n s) Y (by omega) (by omega) h3.next y2 (h5.n y4)
    exact ⟨Z, z1, z2, y4.tr z3⟩
theorem goMr {q : Nat} (hq : q < 100) (s : FK) (hb : bs fu n lw s.1 s.2 C E) (h0 : rM z n lw s.1 s.2) (hl : lM z lw C E) : ∃ Z, pM_goes fu (nI q) z = some (suM (saM C E) n q s 0, Z) ∧ rM Z n lw (itM (saM C E) n q s).1 (itM (saM C E) n q s).2 ∧ EqN z Z :=
  goMr_loop q hq q 0 fu 0 s z (by omega) (by have := hb.2.2.2.1; omega) hb h0 hl
end RUN
/-! a row becomes another -/
def EqB (r : Nat) (z Z : Sg) : Prop := ∀ c j, ¬ ((c = r ∧ (j = 3 ∨ j = 4)) ∨ c = r + 1 ∨ (r + 3 ≤ c ∧ c ≤ r + 7)) → Z c j = z c j
theorem becC_loop {fu r r2 : Nat} {y : Sg} (hr : isRow r) (hr2 : isRow r2) (hne : r ≠ r2) : ∀ k i f z, i + k = 5 → k < f → (∀ w, w < i → ∀ j, j < 6 → z (r + 3 + w) j = y (r2 + 3 + w) j) → (∀ c j, ¬ (r + 3 ≤ c ∧ c ≤ r + 7) → z c j = y c j) → ∃ Z, pR_become_20 fu r r2 f (nI i) z = some Z ∧ (∀ w, w < 5 → ∀ j, j < 6 → Z (r + 3 + w) j = y (r2 + 3 + w) j) ∧ (∀ c j, ¬ (r + 3 ≤ c ∧ c ≤ r + 7) → ¬ (c = r ∧ (j = 3 ∨ j = 4)) → Z c j = y c j) ∧ Z r 3 = y r2 3 ∧ Z r 4 = y r2 4 := by
  intro k
  induction k with
  | zero =>
    intro i f z h1 h2 h3 h4
    obtain ⟨f, rfl⟩ := fuS h2
    have e3 : z r2 3 = y r2 3 := h4 _ _ (by unfold isRow at *; omega)
    have e4 : ∀ v, (u2 z r 3 v) r2 4 = y r2 4 := fun v => by rw [pv_u2, if_neg (by omega)]; exact h4 _ _ (by unfold isRow at *; omega)
    rw [pR_become_20, if_pos (show (5 : Int32) ≤ nI i from by rw [l_5, pv_le (by omega) (by omega)]; omega), pv_letm, pv_letm, e3, e4]
    refine ⟨_, rfl, fun w hw j hj => ?_, fun c j c1 c2 => ?_, ?_, ?_⟩
    · rw [pv_u2, if_neg (by omega), pv_u2, if_neg (by omega)]; exact h3 w (by omega) j hj
    · rw [pv_u2, if_neg (by omega), pv_u2, if_neg (by omega)]; exact h4 c j c1
    · rw [pv_u2, if_neg (by omega), pv_u2, if_pos ⟨rfl, rfl⟩]
    · rw [pv_u2, if_pos ⟨rfl, rfl⟩]
  | succ k ih =>
    intro i f z h1 h2 h3 h4
    obtain ⟨f, rfl⟩ := fuS h2
    have hcb : cpb 0 0 6 6 6 = true := by decide +kernel
    have hcp : ∀ c j, cpy z (r2 + 3 + i) 0 (r + 3 + i) 0 6 c j = if c = r + 3 + i ∧ 0 ≤ j ∧ j < 0 + 6 then z (r2 + 3 + i) (0 + (j - 0)) else z c j := fun c j => pv_cpy (sp := 0) (dp := 0) (n := 6) (by omega) (by omega) (by omega) c j
    rw [pR_become_20, if_neg (show ¬ (5 : Int32) ≤ nI i from by rw [l_5, pv_le (by omega) (by omega)]; omega), pv_inb (by omega) (by omega), pv_chk, pv_chk, pv_clamp (by omega), hcb, pv_chk, pv_letm, pv_letm, nI_1]
    refine ih (i + 1) f _ (by omega) (by omega) (fun w hw j hj => ?_) (fun c j c1 => ?_)
    · by_cases e : w = i
      · rw [e, hcp, if_pos (by omega), show 0 + (j - 0) = j by omega]
        exact h4 _ _ (by unfold isRow at *; omega)
      · rw [hcp, if_neg (by omega)]
        exact h3 w (by omega) j hj
    · rw [hcp, if_neg (by omega)]
      exact h4 c j c1
theorem becC {fu r r2 n lw : Nat} {z : Sg} {F : Nat → Nat → Int32} {K : Nat → Int32} (hr : isRow r) (hr2 : isRow r2) (hne : r ≠ r2) (hf : 10 ≤ fu) (hn : n ≤ 6) (h : rC z r2 n lw F K) : ∃ Z, pR_become fu r r2 z = some Z ∧ rC Z r n lw F K ∧ Z (r + 1) 4 = z (r2 + 1) 4 ∧ EqB r z Z := by
  have hcb : cpb 0 0 5 5 5 = true := by decide +kernel
  have hcp : ∀ c j, cpy z (r2 + 1) 0 (r + 1) 0 5 c j = if c = r + 1 ∧ 0 ≤ j ∧ j < 0 + 5 then z (r2 + 1) (0 + (j - 0)) else z c j := fun c j => pv_cpy (sp := 0) (dp := 0) (n := 5) (by omega) (by omega) (by omega) c j
  obtain ⟨Z, z1, z2, z3, z4, z5⟩ := becC_loop (fu := fu) (y := cpy z (r2 + 1) 0 (r + 1) 0 5) hr hr2 hne 5 0 fu (cpy z (r2 + 1) 0 (r + 1) 0 5) (by omega) (by omega) (fun w hw => absurd hw (by omega)) (fun _ _ _ => rfl)
  have k0 : ∀ i, i < 5 → Z (r + 1) i = z (r2 + 1) i := fun i hi => by
    rw [z3 _ _ (by omega) (by omega), hcp, if_pos (by omega), show 0 + (i - 0) = i by omega]
  have f0 : ∀ w, w < 5 → ∀ m, m < n → Z (r + 3 + w) m = z (r2 + 3 + w) m := fun w hw m hm => by
    rw [z2 w hw m (by omega), hcp, if_neg (by unfold isRow at *; omega)]
  obtain ⟨a1, a2, a3, a4, a5, a6, a7, a8, a9, a10, a11⟩ := h
  refine ⟨Z, ?_, ⟨?_, ?_, fun m hm => ?_, fun m hm => ?_, fun m hm => ?_, fun m hm => ?_, fun m hm => ?_, ?_, ?_, ?_, ?_⟩, k0 4 (by omega), fun c j hc => ?_⟩
  · unfold pR_become
    rw [hcb, pv_chk, pv_letm]
    exact z1
  · rw [z4, hcp, if_neg (by unfold isRow at *; omega)]; exact a1
  · rw [z5, hcp, if_neg (by unfold isRow at *; omega)]; exact a2
  · exact (f0 0 (by omega) m hm).trans (a3 m hm)
  · exact (f0 1 (by omega) m hm).trans (a4 m hm)
  · exact (f0 2 (by omega) m hm).trans (a5 m hm)
  · exact (f0 3 (by omega) m hm).trans (a6 m hm)
  · exact (f0 4 (by omega) m hm).trans (a7 m hm)
  · exact (k0 0 (by omega)).trans a8
  · exact (k0 1 (by omega)).trans a9
  · exact (k0 2 (by omega)).trans a10
  · exact (k0 3 (by omega)).trans a11
  · rw [z3 c j (by omega) (by omega), hcp, if_neg (by omega)]
/-! the reference keeps its rows, and lays them back -/
theorem keepMr2 {fu : Nat} {y : Sg} : ∀ k i f z, i + k = 5 → k < f → (∀ c j, c ≠ 97 → z c j = y c j) → (∀ j, j < 18 → z 97 j = y 81 j) → (∀ j, j < i → z 97 (18 + j) = y 82 j) → ∃ Z, pM_keeps_28 fu f (nI i) z = some Z ∧ (∀ c j, c ≠ 97 → Z c j = y c j) ∧ (∀ j, j < 18 → Z 97 j = y 81 j) ∧ (∀ j, j < 5 → Z 97 (18 + j) = y 82 j) := by
  intro k
  induction k with
  | zero =>
    intro i f z h1 h2 h3 h4 h5
    obtain ⟨f, rfl⟩ := fuS h2
    rw [pM_keeps_28, if_pos (show (5 : Int32) ≤ nI i from by rw [l_5, pv_le (by omega) (by omega)]; omega)]
    exact ⟨z, rfl, h3, h4, fun j hj => h5 j (by omega)⟩
  | succ k ih =>
    intro i f z h1 h2 h3 h4 h5
    obtain ⟨f, rfl⟩ := fuS h2
    rw [pM_keeps_28, if_neg (show ¬ (5 : Int32) ≤ nI i from by rw [l_5, pv_le (by omega) (by omega)]; omega), pv_inb (by omega) (by omega), pv_chk, l_18, nI_add, pv_inb (by omega) (by omega), pv_chk, pv_letm, pv_letm, pv_sa (by omega), pv_ga (by omega), nI_1, h3 82 i (by omega)]
    refine ih (i + 1) f _ (by omega) (by omega) (fun c j c1 => ?_) (fun j hj => ?_) (fun j hj => ?_)
    · rw [pv_u2, if_neg (by omega)]; exact h3 c j c1
    · rw [pv_u2, if_neg (by omega)]; exact h4 j hj
    · by_cases e : j = i
      · rw [e, pv_u2, if_pos ⟨rfl, rfl⟩]
      · rw [pv_u2, if_neg (by omega)]; exact h5 j (by omega)
theorem keepMr1 {fu : Nat} {y : Sg} (hf : 10 ≤ fu) : ∀ k i f z, i + k = 18 → k < f → (∀ c j, c ≠ 97 → z c j = y c j) → (∀ j, j < i → z 97 j = y 81 j) → ∃ Z, pM_keeps_2 fu f (nI i) z = some Z ∧ (∀ c j, c ≠ 97 → Z c j = y c j) ∧ (∀ j, j < 18 → Z 97 j = y 81 j) ∧ (∀ j, j < 5 → Z 97 (18 + j) = y 82 j) := by
  intro k
  induction k with
  | zero =>
    intro i f z h1 h2 h3 h4
    obtain ⟨f, rfl⟩ := fuS h2
    rw [pM_keeps_2, if_pos (show (18 : Int32) ≤ nI i from by rw [l_18, pv_le (by omega) (by omega)]; omega)]
    exact keepMr2 5 0 fu z (by omega) (by omega) h3 (fun j hj => h4 j (by omega)) (fun j hj => absurd hj (by omega))
  | succ k ih =>
    intro i f z h1 h2 h3 h4
    obtain ⟨f, rfl⟩ := fuS h2
    rw [pM_keeps_2, if_neg (show ¬ (18 : Int32) ≤ nI i from by rw [l_18, pv_le (by omega) (by omega)]; omega), pv_inb (by omega) (by omega), pv_chk, pv_inb (by omega) (by omega), pv_chk, pv_letm, pv_letm, pv_sa (by omega), pv_ga (by omega), nI_1, h3 81 i (by omega)]
    refine ih (i + 1) f _ (by omega) (by omega) (fun c j c1 => ?_) (fun j hj => ?_)
    · rw [pv_u2, if_neg (by omega)]; exact h3 c j c1
    · by_cases e : j = i
      · rw [e, pv_u2, if_pos ⟨rfl, rfl⟩]
      · rw [pv_u2, if_neg (by omega)]; exact h4 j (by omega)
theorem layMr2 {fu : Nat} {y : Sg} : ∀ k i f z, i + k = 5 → k < f → (∀ c j, (c ≠ 81 ∨ 18 ≤ j) → (c ≠ 82 ∨ 5 ≤ j) → z c j = y c j) → (∀ j, j < 18 → z 81 j = y 97 j) → (∀ j, j < i → z 82 j = y 97 (18 + j)) → ∃ Z, pM_lays_28 fu f (nI i) z = some Z ∧ (∀ c j, (c ≠ 81 ∨ 18 ≤ j) → (c ≠ 82 ∨ 5 ≤ j) → Z c j = y c j) ∧ (∀ j, j < 18 → Z 81 j = y 97 j) ∧ (∀ j, j < 5 → Z 82 j = y 97 (18 + j)) := by
  intro k
  induction k with
  | zero =>
    intro i f z h1 h2 h3 h4 h5
    obtain ⟨f, rfl⟩ := fuS h2
    rw [pM_lays_28, if_pos (show (5 : Int32) ≤ nI i from by rw [l_5, pv_le (by omega) (by omega)]; omega)]
    exact ⟨z, rfl, h3, h4, fun j hj => h5 j (by omega)⟩
  | succ k ih =>
    intro i f z h1 h2 h3 h4 h5
    obtain ⟨f, rfl⟩ := fuS h2
    rw [pM_lays_28, if_neg (show ¬ (5 : Int32) ≤ nI i from by rw [l_5, pv_le (by omega) (by omega)]; omega), l_18, nI_add, pv_inb (by omega) (by omega), pv_chk, pv_inb (by omega) (by omega), pv_chk, pv_letm, pv_letm, pv_sa (by omega), pv_ga (by omega), nI_1, h3 97 (18 + i) (by omega) (by omega)]
    refine ih (i + 1) f _ (by omega) (by omega) (fun c j c1 c2 => ?_) (fun j hj => ?_) (fun j hj => ?_)
    · rw [pv_u2, if_neg (by omega)]; exact h3 c j c1 c2
    · rw [pv_u2, if_neg (by omega)]; exact h4 j hj
    · by_cases e : j = i
      · rw [e, pv_u2, if_pos ⟨rfl, rfl⟩]
      · rw [pv_u2, if_neg (by omega)]; exact h5 j (by omega)
theorem layMr1 {fu : Nat} {y : Sg} (hf : 10 ≤ fu) : ∀ k i f z, i + k = 18 → k < f → (∀ c j, (c ≠ 81 ∨ 18 ≤ j) → z c j = y c j) → (∀ j, j < i → z 81 j = y 97 j) → ∃ Z, pM_lays_2 fu f (nI i) z = some Z ∧ (∀ c j, (c ≠ 81 ∨ 18 ≤ j) → (c ≠ 82 ∨ 5 ≤ j) → Z c j = y c j) ∧ (∀ j, j < 18 → Z 81 j = y 97 j) ∧ (∀ j, j < 5 → Z 82 j = y 97 (18 + j)) := by
  intro k
  induction k with
  | zero =>
    intro i f z h1 h2 h3 h4
    obtain ⟨f, rfl⟩ := fuS h2
    rw [pM_lays_2, if_pos (show (18 : Int32) ≤ nI i from by rw [l_18, pv_le (by omega) (by omega)]; omega)]
    exact layMr2 5 0 fu z (by omega) (by omega) (fun c j c1 _ => h3 c j c1) (fun j hj => h4 j (by omega)) (fun j hj => absurd hj (by omega))
  | succ k ih =>
    intro i f z h1 h2 h3 h4
    obtain ⟨f, rfl⟩ := fuS h2
    rw [pM_lays_2, if_neg (show ¬ (18 : Int32) ≤ nI i from by rw [l_18, pv_le (by omega) (by omega)]; omega), pv_inb (by omega) (by omega), pv_chk, pv_inb (by omega) (by omega), pv_chk, pv_letm, pv_letm, pv_sa (by omega), pv_ga (by omega), nI_1, h3 97 i (by omega)]
    refine ih (i + 1) f _ (by omega) (by omega) (fun c j c1 => ?_) (fun j hj => ?_)
    · rw [pv_u2, if_neg (by omega)]; exact h3 c j c1
    · by_cases e : j = i
      · rw [e, pv_u2, if_pos ⟨rfl, rfl⟩]
      · rw [pv_u2, if_neg (by omega)]; exact h4 j (by omega)
/-- all but the reference's thought is as it was -/
def EqX (z Z : Sg) : Prop := ∀ c j, ¬ (94 ≤ c ∧ c ≤ 97) → Z c j = z c j
theorem EqX.rf {z : Sg} : EqX z z := fun _ _ _ => rfl
theorem EqX.tr {z Z Y : Sg} (h1 : EqX z Z) (h2 : EqX Z Y) : EqX z Y := fun c j h => (h2 c j h).trans (h1 c j h)
theorem EqM.x {z Z : Sg} (h : EqM z Z) : EqX z Z := fun c j hc => h c j (fun q => by unfold SM at q; omega)
/-- the reference keeps: all stands, the kept rows are the rows -/
def kptM (z Z : Sg) : Prop := (∀ c j, c ≠ 97 → Z c j = z c j) ∧ (∀ j, j < 18 → Z 97 j = z 81 j) ∧ (∀ j, j < 5 → Z 97 (18 + j) = z 82 j)
theorem keepMr {fu : Nat} (hf : 100 ≤ fu) (z : Sg) : ∃ Z, pM_keeps fu z = some Z ∧ kptM z Z := by
  unfold pM_keeps
  obtain ⟨Z, h1, h2, h3, h4⟩ := keepMr1 (fu := fu) (by omega) 18 0 fu z (by omega) (by omega) (fun _ _ _ => rfl) (fun j hj => absurd hj (by omega))
  exact ⟨Z, h1, h2, h3, h4⟩
theorem layMr {fu : Nat} (hf : 100 ≤ fu) {z y Y : Sg} (hk : kptM z y) (he : EqN y Y) : ∃ Z, pM_lays fu Y = some Z ∧ EqX z Z := by
  unfold pM_lays
  obtain ⟨Z, h1, h2, h3, h4⟩ := layMr1 (fu := fu) (by omega) 18 0 fu Y (by omega) (by omega) (fun _ _ _ => rfl) (fun j hj => absurd hj (by omega))
  refine ⟨Z, h1, fun c j hc => ?_⟩
  by_cases e1 : c = 81 ∧ j < 18
  · obtain ⟨rfl, hj⟩ := e1
    rw [h3 j hj, he 97 j (by omega) (by omega) (by omega) (by omega) (by omega)]; exact hk.2.1 j hj
  · by_cases e2 : c = 82 ∧ j < 5
    · obtain ⟨rfl, hj⟩ := e2
      rw [h4 j hj, he 97 _ (by omega) (by omega) (by omega) (by omega) (by omega)]; exact hk.2.2 j hj
    · rw [h2 c j (by omega) (by omega), he c j (by omega) (by omega) (by omega) (by omega) (by omega)]; exact hk.1 c j (by omega)
theorem rM.kpt {z Z : Sg} {n lw : Nat} {F : Nat → Nat → Int32} {K : Nat → Int32} (h : rM z n lw F K) (e : kptM z Z) : rM Z n lw F K := by
  obtain ⟨a1, a2, a3, a4, a5, a6, a7, a8, a9, a10, a11⟩ := h
  have hn : ∀ c j, c < 97 → Z c j = z c j := fun c j hc => e.1 c j (by omega)
  refine ⟨?_, ?_, fun m h => ?_, fun m h => ?_, fun m h => ?_, fun m h => ?_, fun m h => ?_, ?_, ?_, ?_, ?_⟩ <;> rw [hn _ _ (by omega)] <;> first | assumption | exact a3 m h | exact a4 m h | exact a5 m h | exact a6 m h | exact a7 m h
theorem lM.kpt {z Z : Sg} {t : Nat} {C E : Nat → Nat} (h : lM z t C E) (e : kptM z Z) : lM Z t C E := by
  obtain ⟨h0, h1, h2, h3, h4⟩ := h
  have q : ∀ c, c < 94 → ∀ j, Z c j = z c j := fun c hc j => e.1 c j (by omega)
  exact ⟨by rw [q 85 (by omega)]; exact h0, by rw [q 85 (by omega)]; exact h1, by rw [q 85 (by omega)]; exact h2, by rw [q 85 (by omega)]; exact h3, fun i hi => by rw [q 84 (by omega)]; exact h4 i hi⟩
theorem rM.x {z Z : Sg} {n lw : Nat} {F : Nat → Nat → Int32} {K : Nat → Int32} (h : rM z n lw F K) (e : EqX z Z) : rM Z n lw F K := by
  obtain ⟨a1, a2, a3, a4, a5, a6, a7, a8, a9, a10, a11⟩ := h
  have hn : ∀ c j, c < 94 → Z c j = z c j := fun c j hc => e c j (by omega)
  refine ⟨?_, ?_, fun m h => ?_, fun m h => ?_, fun m h => ?_, fun m h => ?_, fun m h => ?_, ?_, ?_, ?_, ?_⟩ <;> rw [hn _ _ (by omega)] <;> first | assumption | exact a3 m h | exact a4 m h | exact a5 m h | exact a6 m h | exact a7 m h
theorem lM.x {z Z : Sg} {t : Nat} {C E : Nat → Nat} (h : lM z t C E) (e : EqX z Z) : lM Z t C E := by
  obtain ⟨h0, h1, h2, h3, h4⟩ := h
  have q : ∀ c, c < 94 → ∀ j, Z c j = z c j := fun c hc j => e c j (by omega)
  exact ⟨by rw [q 85 (by omega)]; exact h0, by rw [q 85 (by omega)]; exact h1, by rw [q 85 (by omega)]; exact h2, by rw [q 85 (by omega)]; exact h3, fun i hi => by rw [q 84 (by omega)]; exact h4 i hi⟩
/-- cutNow, in thought -/
theorem cnMr {fu n lw q : Nat} {z : Sg} {C E : Nat → Nat} (hq : q < 100) (s : FK) (hb : bs fu n lw s.1 s.2 C E) (h0 : rM z n lw s.1 s.2) (hl : lM z lw C E) : ∃ Z, pM_cutNow fu (nI q) z = some (suM (saM C E) n q s 0, Z) ∧ EqX z Z := by
  have hf := hb.2.2.2.1
  obtain ⟨y, y1, y2⟩ := keepMr (fu := fu) (by omega) z
  obtain ⟨Y, x1, x2, x3⟩ := goMr hq s hb (h0.kpt y2) (hl.kpt y2)
  obtain ⟨Z, z1, z2⟩ := layMr (fu := fu) (by omega) y2 x3
  unfold pM_cutNow
  rw [y1, pv_bndv, x1, pv_bnd, z1, pv_bndv]
  exact ⟨Z, rfl, z2⟩
