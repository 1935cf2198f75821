/-! THE TAPE's next token: kind, value, place, end -/
abbrev Tok := Nat × Nat × Nat × Nat
def tok2 (T : Nat → Int32) (n p : Nat) : Tok :=
  if n ≤ p then (257, 0, p, p)
  else if letB (T p) then (wkN T p (tspM letB T (n - p) p), 0, p, tspM letB T (n - p) p)
  else if digB (T p) then (if tspM digB T (n - p) p - p ≤ 4 then (256, (nuI T (tspM digB T (n - p) p - p) p 0).toNatClampNeg, p, tspM digB T (n - p) p) else (258, 0, p, tspM digB T (n - p) p))
  else if sgB (T p) then ((T p).toNatClampNeg, 0, p, p + 1) else (258, 0, p, p + 1)
def tok1 (T : Nat → Int32) (n a : Nat) : Tok := tok2 T n (tspM blaB T (n - a) a)
/-- the class has read it -/
def cuC (z : Sg) (t : Tok) : Prop := z 3 4 = nI t.1 ∧ (t.1 = 256 → z 3 6 = nI t.2.1) ∧ z 3 5 = nI t.2.2.1 ∧ z 3 3 = nI t.2.2.2
section ADVC
variable {fu n : Nat} {T : Nat → Int32}
theorem adwC {p : Nat} {y : Sg} (hf : 300 ≤ fu) (h : tpC y n T) (h3 : y 3 3 = nI p) (h5 : y 3 5 = nI p) (hp : p < n) : ∃ Z, pD_advanceWord fu y = some Z ∧ cuC Z (wkN T p (tspM letB T (n - p) p), 0, p, tspM letB T (n - p) p) ∧ FA y Z := by
  have hn := h.2.1
  obtain ⟨b1, b2, b3, b4⟩ := tspM_b letB T (n - p) p
  obtain ⟨Z2, e2, f2, g2⟩ := lesC (fu := fu) (n - p) p fu y (by omega) (by omega) h h3
  have k2 : FA y Z2 := fun c j hc => g2 c j (fun q => hc (by omega))
  obtain ⟨Z3, e3, f3, g3⟩ := wloC (T := T) (n := n) (p := p) (e := tspM letB T (n - p) p) (fu := fu) (by omega) b1 (by omega) 12 0 fu (u2 Z2 3 4 (nI 258)) rfl (by omega) (h.a (k2.u (by omega))) (by rw [pv_u2, if_neg (by omega), g2 _ _ (by omega)]; exact h5) (by rw [pv_u2, if_neg (by omega)]; exact f2) (by rw [pv_u2, if_pos ⟨rfl, rfl⟩]; rfl)
  refine ⟨Z3, ?_, ⟨f3, ?_, ?_, ?_⟩, ?_⟩
  · unfold pD_advanceWord
    rw [e2]
    unfold pD_advanceWord_39
    rw [pv_letm]
    exact e3
  · intro hk
    exfalso
    have : ∀ k, k ≤ 12 → wkF T p (tspM letB T (n - p) p) k = 258 ∨ wkF T p (tspM letB T (n - p) p) k < 12 := by
      intro k
      induction k with
      | zero => intro _; exact Or.inl rfl
      | succ k ih =>
        intro hk
        unfold wkF
        by_cases q : cmB T p (tspM letB T (n - p) p) k = true
        · rw [if_pos q]; exact Or.inr (by omega)
        · rw [if_neg q]; exact ih (by omega)
    have h1 := this 12 (Nat.le_refl _)
    unfold wkN at hk
    have h2 : wkF T p (tspM letB T (n - p) p) 12 = 256 := hk
    omega
  · show Z3 3 5 = nI p
    rw [g3 _ _ (by omega), pv_u2, if_neg (by omega), g2 _ _ (by omega)]
    exact h5
  · show Z3 3 3 = _
    rw [g3 _ _ (by omega), pv_u2, if_neg (by omega)]
    exact f2
  · exact fun c j hc => by rw [g3 c j (by omega), pv_u2, if_neg (by omega), g2 c j (by omega)]
theorem adnC {p : Nat} {y : Sg} (hf : 300 ≤ fu) (h : tpC y n T) (h3 : y 3 3 = nI p) (h5 : y 3 5 = nI p) (hp : p < n) : ∃ Z, pD_advanceNumber fu y = some Z ∧ cuC Z (if tspM digB T (n - p) p - p ≤ 4 then (256, (nuI T (tspM digB T (n - p) p - p) p 0).toNatClampNeg, p, tspM digB T (n - p) p) else (258, 0, p, tspM digB T (n - p) p)) ∧ FA y Z := by
  have hn := h.2.1
  obtain ⟨b1, b2, b3, b4⟩ := tspM_b digB T (n - p) p
  obtain ⟨Z2, e2, f2, v2, g2⟩ := disC (fu := fu) (n - p) p fu (u2 y 3 6 0) (by omega) (by omega) (h.a (FA.rf.u (by omega))) (by rw [pv_u2, if_neg (by omega)]; exact h3)
  rw [pv_u2, if_pos ⟨rfl, rfl⟩] at v2
  have g5 : Z2 3 5 = nI p := by rw [g2 _ _ (by omega), pv_u2, if_neg (by omega)]; exact h5
  have hF : FA y Z2 := fun c j hc => by rw [g2 c j (by omega), pv_u2, if_neg (by omega)]
  by_cases q : tspM digB T (n - p) p - p ≤ 4
  · rw [if_pos q]
    refine ⟨u2 Z2 3 4 (nI 256), ?_, ⟨by rw [pv_u2, if_pos ⟨rfl, rfl⟩], fun _ => ?_, ?_, ?_⟩, hF.u (by omega)⟩
    · unfold pD_advanceNumber
      rw [pv_letm, e2]
      unfold pD_advanceNumber_68 pD_advanceNumber_91
      rw [f2, g5, pk_sub b1, if_pos (by rw [show (4 : Int32) = nI 4 from rfl, pv_le (by omega) (by omega)]; exact q)]
      rfl
    · rw [pv_u2, if_neg (by omega), v2]
      obtain ⟨x, x1, x2⟩ := nuI_b (T := T) (tspM digB T (n - p) p - p) p 0 0 (fun i i1 i2 => b3 i i1 (by omega)) (by omega) (by omega)
      have x3 : nuI T (tspM digB T (n - p) p - p) p 0 = nI x := x2
      have : 10 ^ (0 + (tspM digB T (n - p) p - p)) ≤ 10 ^ 4 := Nat.pow_le_pow_right (by omega) (by omega)
      show nuI T (tspM digB T (n - p) p - p) p 0 = nI (nuI T (tspM digB T (n - p) p - p) p 0).toNatClampNeg
      rw [x3, nI_clamp (by omega)]
    · rw [pv_u2, if_neg (by omega)]; exact g5
    · rw [pv_u2, if_neg (by omega)]; exact f2
  · rw [if_neg q]
    refine ⟨u2 Z2 3 4 (nI 258), ?_, ⟨by rw [pv_u2, if_pos ⟨rfl, rfl⟩], fun hk => absurd hk (show ¬ (258 : Nat) = 256 by decide), ?_, ?_⟩, hF.u (by omega)⟩
    · unfold pD_advanceNumber
      rw [pv_letm, e2]
      unfold pD_advanceNumber_68 pD_advanceNumber_91
      rw [f2, g5, pk_sub b1, if_neg (by rw [show (4 : Int32) = nI 4 from rfl, pv_le (by omega) (by omega)]; exact q)]
      rfl
    · rw [pv_u2, if_neg (by omega)]; exact g5
    · rw [pv_u2, if_neg (by omega)]; exact f2
theorem ad2C {p : Nat} {w : Sg} (hf : 300 ≤ fu) (h : tpC w n T) (h3 : w 3 3 = nI p) (hp : p ≤ n) : ∃ Z, pD_advance_52 fu w = some Z ∧ cuC Z (tok2 T n p) ∧ FA w Z := by
  have hn := h.2.1
  unfold pD_advance_52 tok2
  rw [pv_letm, h3]
  have hy3 : (u2 w 3 5 (nI p)) 3 3 = nI p := by rw [pv_u2, if_neg (by omega)]; exact h3
  have hy5 : (u2 w 3 5 (nI p)) 3 5 = nI p := by rw [pv_u2, if_pos ⟨rfl, rfl⟩]
  have hyF : FA w (u2 w 3 5 (nI p)) := FA.rf.u (by omega)
  have hyT := h.a hyF
  generalize u2 w 3 5 (nI p) = y at hy3 hy5 hyF hyT ⊢
  rw [hy3, hyT.1]
  by_cases q : n ≤ p
  · rw [if_neg (nI_nlt q (by omega)), if_pos q, pv_letm]
    refine ⟨_, rfl, ⟨by rw [pv_u2, if_pos ⟨rfl, rfl⟩]; rfl, fun hk => absurd hk (show ¬ (257 : Nat) = 256 by decide), ?_, ?_⟩, hyF.u (by omega)⟩
    · rw [pv_u2, if_neg (by omega)]; exact hy5
    · rw [pv_u2, if_neg (by omega)]; exact hy3
  · have ez : ga y 4 (nI p) = T p := by rw [pv_ga (by omega)]; exact hyT.2.2.1 p (by omega)
    rw [if_pos (nI_lt (by omega) (by omega)), if_neg q, pv_inb (by omega) (by omega), pv_chk, ez, letC, pv_bnd]
    cases hl : letB (T p) with
    | true =>
      simp only [eq_self, if_true, show ((1 : Int32) = 0) = False from by decide, if_false]
      obtain ⟨Z, z1, z2, z3⟩ := adwC (fu := fu) hf hyT hy3 hy5 (by omega)
      exact ⟨Z, by rw [z1, pv_bndv], z2, hyF.tr z3⟩
    | false =>
      simp only [eq_self, if_true, Bool.false_eq_true, if_false]
      rw [hy3, pv_inb (by omega) (by omega), pv_chk, ez, digC, pv_bnd]
      cases hd : digB (T p) with
      | true =>
        simp only [eq_self, if_true, show ((1 : Int32) = 0) = False from by decide, if_false]
        obtain ⟨Z, z1, z2, z3⟩ := adnC (fu := fu) hf hyT hy3 hy5 (by omega)
        exact ⟨Z, by rw [z1, pv_bndv], z2, hyF.tr z3⟩
      | false =>
        simp only [eq_self, if_true, Bool.false_eq_true, if_false]
        obtain ⟨i, i1, i2⟩ := sigC (fu := fu) (by omega) (hyT.2.2.2 p (by omega)) y
        rw [hy3, pv_inb (by omega) (by omega), pv_chk, ez, i1, pv_bnd]
        have last : ∀ v k, v = nI k → k ≠ 256 → ∃ Z, pD_advance_159 fu v y = some Z ∧ cuC Z (k, 0, p, p + 1) ∧ FA w Z := fun v k hv hk => by
          unfold pD_advance_159
          rw [pv_letm, pv_letm]
          refine ⟨_, rfl, ⟨by rw [pv_u2, if_neg (by omega), pv_u2, if_pos ⟨rfl, rfl⟩]; exact hv, fun q => absurd q hk, ?_, ?_⟩, (hyF.u (by omega)).u (by omega)⟩
          · rw [pv_u2, if_neg (by omega), pv_u2, if_neg (by omega)]; exact hy5
          · rw [pv_u2, if_pos ⟨rfl, rfl⟩, pv_u2, if_neg (by omega), hy3, nI_1]
        cases hs : sgB (T p) with
        | true =>
          rw [if_neg (fun q => by rw [i2.mp q] at hs; exact absurd hs (by decide)), hy3, pv_inb (by omega) (by omega), pv_chk, ez, if_pos rfl]
          obtain ⟨x, x1, x2⟩ := hyT.2.2.2 p (by omega)
          exact last _ _ (by rw [x2, nI_clamp (by omega)]) (by rw [x2, nI_clamp (by omega)]; omega)
        | false =>
          rw [if_pos (i2.mpr hs), if_neg (by decide)]
          exact last 258 258 rfl (by decide)
theorem advC {a : Nat} {z : Sg} (hf : 300 ≤ fu) (h : tpC z n T) (h3 : z 3 3 = nI a) (ha : a ≤ n) : ∃ Z, pD_advance fu z = some Z ∧ cuC Z (tok1 T n a) ∧ FA z Z := by
  have hn := h.2.1
  obtain ⟨b1, b2, _, _⟩ := tspM_b blaB T (n - a) a
  obtain ⟨Z1, e1, f1, g1⟩ := blaC (fu := fu) (n - a) a fu z (by omega) (by omega) h h3
  have k1 : FA z Z1 := fun c j hc => g1 c j (fun q => hc (by omega))
  obtain ⟨Z, z1, z2, z3⟩ := ad2C (fu := fu) (p := tspM blaB T (n - a) a) hf (h.a k1) f1 (by omega)
  exact ⟨Z, by unfold pD_advance; rw [e1, z1], z2, k1.tr z3⟩
end ADVC
/-- what a token can be -/
theorem tok_b {T : Nat → Int32} {n a : Nat} (ha : a ≤ n) (hT : ∀ j, j < n → bI 256 (T j)) (hn : n ≤ 160) : (tok1 T n a).2.1 < 10000 ∧ a ≤ (tok1 T n a).2.2.1 ∧ (tok1 T n a).2.2.1 ≤ (tok1 T n a).2.2.2 ∧ (tok1 T n a).2.2.2 ≤ n ∧ ((tok1 T n a).1 ≠ 257 → a < (tok1 T n a).2.2.2) ∧ ((tok1 T n a).1 < 12 ∨ (tok1 T n a).1 ∈ [40, 41, 59, 43, 45, 42, 60, 61, 256, 257, 258]) := by
  obtain ⟨b1, b2, _, _⟩ := tspM_b blaB T (n - a) a
  unfold tok1
  generalize tspM blaB T (n - a) a = p at b1 b2 ⊢
  unfold tok2
  by_cases q : n ≤ p
  · rw [if_pos q]
    refine ⟨show (0 : Nat) < 10000 by decide, b1, Nat.le_refl _, by show p ≤ n; omega, fun h => absurd rfl h, Or.inr (by show (257 : Nat) ∈ _; decide)⟩
  · rw [if_neg q]
    cases hl : letB (T p) with
    | true =>
      rw [if_pos rfl]
      obtain ⟨c1, c2, c3, c4⟩ := tspM_b letB T (n - p) p
      have c5 : p < tspM letB T (n - p) p := by
        by_cases e : tspM letB T (n - p) p = p
        · have := c4 (by omega)
          rw [e, hl] at this
          exact absurd this (by decide)
        · omega
      refine ⟨by show (0 : Nat) < 10000; omega, b1, c1, by show tspM letB T (n - p) p ≤ n; omega, fun _ => by show a < tspM letB T (n - p) p; omega, ?_⟩
      have : ∀ k, k ≤ 12 → wkF T p (tspM letB T (n - p) p) k = 258 ∨ wkF T p (tspM letB T (n - p) p) k < 12 := by
        intro k
        induction k with
        | zero => intro _; exact Or.inl rfl
        | succ k ih =>
          intro hk
          unfold wkF
          by_cases q : cmB T p (tspM letB T (n - p) p) k = true
          · rw [if_pos q]; exact Or.inr (by omega)
          · rw [if_neg q]; exact ih (by omega)
      rcases this 12 (Nat.le_refl _) with h1 | h1
      · right
        show wkF T p (tspM letB T (n - p) p) 12 ∈ _
        rw [h1]
        decide
      · exact Or.inl h1
    | false =>
      rw [if_neg (by decide)]
      cases hd : digB (T p) with
      | true =>
        rw [if_pos rfl]
        obtain ⟨c1, c2, c3, c4⟩ := tspM_b digB T (n - p) p
        have c5 : p < tspM digB T (n - p) p := by
          by_cases e : tspM digB T (n - p) p = p
          · have := c4 (by omega)
            rw [e, hd] at this
            exact absurd this (by decide)
          · omega
        by_cases q4 : tspM digB T (n - p) p - p ≤ 4
        · rw [if_pos q4]
          obtain ⟨x, x1, x2⟩ := nuI_b (T := T) (tspM digB T (n - p) p - p) p 0 0 (fun i i1 i2 => c3 i i1 (by omega)) (by omega) (by omega)
          have x3 : nuI T (tspM digB T (n - p) p - p) p 0 = nI x := x2
          have x4 : 10 ^ (0 + (tspM digB T (n - p) p - p)) ≤ 10 ^ 4 := Nat.pow_le_pow_right (by omega) (by omega)
          refine ⟨?_, b1, c1, by show tspM digB T (n - p) p ≤ n; omega, fun _ => by show a < tspM digB T (n - p) p; omega, Or.inr (by show 256 ∈ _; decide)⟩
          show (nuI T (tspM digB T (n - p) p - p) p 0).toNatClampNeg < 10000
          rw [x3, nI_clamp (by omega)]
          omega
        · rw [if_neg q4]
          exact ⟨by show (0 : Nat) < 10000; omega, b1, c1, by show tspM digB T (n - p) p ≤ n; omega, fun _ => by show a < tspM digB T (n - p) p; omega, Or.inr (by show 258 ∈ _; decide)⟩
      | false =>
        rw [if_neg (by decide)]
        cases hs : sgB (T p) with
        | true =>
          rw [if_pos rfl]
          refine ⟨by show (0 : Nat) < 10000; omega, b1, by show p ≤ p + 1; omega, by show p + 1 ≤ n; omega, fun _ => by show a < p + 1; omega, Or.inr ?_⟩
          show (T p).toNatClampNeg ∈ _
          unfold sgB at hs
          simp only [Bool.or_eq_true, decide_eq_true_eq] at hs
          rcases hs with ((((((h | h) | h) | h) | h) | h) | h) | h <;> rw [h] <;> decide
        | false =>
          rw [if_neg (by decide)]
          exact ⟨by show (0 : Nat) < 10000; omega, b1, by show p ≤ p + 1; omega, by show p + 1 ≤ n; omega, fun _ => by show a < p + 1; omega, Or.inr (by show 258 ∈ _; decide)⟩
