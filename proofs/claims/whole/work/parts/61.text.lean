/-! the call of a text -/
def fnM : List Nat → Nat → Nat
  | [], _ => 0
  | h :: t, i => if i = t.length then h else fnM t i
theorem fnM_h {A : Nat → Int32} : ∀ {s : List Nat}, hdM A s → ∀ i, i < s.length → A i = nI (fnM s i)
  | [], _, i, hi => absurd hi (by simp)
  | x :: t, h, i, hi => by
    rw [List.length_cons] at hi
    show A i = nI (if i = t.length then x else fnM t i)
    by_cases q : i = t.length
    · rw [if_pos q, q]; exact h.1
    · rw [if_neg q]; exact fnM_h h.2.2 i (by omega)
theorem fnM_c {A : Nat → Int32} : ∀ {s : List Nat}, cdM A s → ∀ i, i < s.length → A i = oc (fnM s i)
  | [], _, i, hi => absurd hi (by simp)
  | x :: t, h, i, hi => by
    rw [List.length_cons] at hi
    show A i = oc (if i = t.length then x else fnM t i)
    by_cases q : i = t.length
    · rw [if_pos q, q]; exact h.1
    · rw [if_neg q]; exact fnM_c h.2 i (by omega)
theorem fnM_ok : ∀ {s : List Nat}, okL s → ∀ i, i < s.length → okc (fnM s i)
  | [], _, i, hi => absurd hi (by simp)
  | x :: t, h, i, hi => by
    rw [List.length_cons] at hi
    show okc (if i = t.length then x else fnM t i)
    by_cases q : i = t.length
    · rw [if_pos q]; exact h x (List.mem_cons_self ..)
    · rw [if_neg q]; exact fnM_ok (fun c hc => h c (List.mem_cons_of_mem _ hc)) i (by omega)
theorem fnM_lt : ∀ (A B : List Nat) (i : Nat), i < B.length → fnM (A ++ B) i = fnM B i
  | [], B, i, _ => rfl
  | x :: A, B, i, h => by
    show (if i = (A ++ B).length then x else fnM (A ++ B) i) = _
    rw [List.length_append, if_neg (by omega)]
    exact fnM_lt A B i h
theorem fnM_ge : ∀ (A B : List Nat) (i : Nat), i < A.length → fnM (A ++ B) (B.length + i) = fnM A i
  | [], B, i, h => absurd h (by simp)
  | x :: A, B, i, h => by
    rw [List.length_cons] at h
    show (if B.length + i = (A ++ B).length then x else fnM (A ++ B) (B.length + i)) = if i = A.length then x else fnM A i
    rw [List.length_append]
    by_cases q : i = A.length
    · rw [if_pos q, if_pos (by omega)]
    · rw [if_neg q, if_neg (by omega)]
      exact fnM_ge A B i (by omega)
theorem wfM_dp {Cf : Nat → Nat} : ∀ (k : Nat) (D : List Nat) (i d : Nat), D.length = k → (∀ j, j < k → Cf (i + j) = fnM D j) → dpR D d = some 1 → wfM Cf k i d := by
  intro k
  induction k with
  | zero =>
    intro D i d h1 _ h3
    have : D = [] := List.eq_nil_of_length_eq_zero h1
    subst this
    exact Option.some.inj h3
  | succ k ih =>
    intro D i d h1 h2 h3
    have hne : D ≠ [] := fun e => by rw [e] at h1; exact absurd h1 (by simp)
    have hD := List.dropLast_concat_getLast hne
    generalize D.dropLast = L at hD
    generalize D.getLast hne = c at hD
    subst hD
    have hL : L.length = k := by rw [List.length_append] at h1; simp at h1; exact h1
    have hc : Cf i = c := by
      have := h2 0 (by omega)
      rw [Nat.add_zero, fnM_lt L [c] 0 (by simp)] at this
      exact this
    have hstep : ∀ d', (std1 c d) = some d' → wfM Cf k (i + 1) d' := fun d' e => by
      refine ih L (i + 1) d' hL (fun j hj => ?_) ?_
      · have := h2 (1 + j) (by omega)
        rw [show i + (1 + j) = i + 1 + j by omega] at this
        rw [this]
        exact fnM_ge L [c] j (by omega)
      · rw [dpR_app] at h3
        have e1 : dpR [c] d = std1 c d := rfl
        rw [e1, e] at h3
        exact h3
    have hsome : std1 c d ≠ none := fun e => by
      rw [dpR_app] at h3
      have e1 : dpR [c] d = std1 c d := rfl
      rw [e1, e] at h3
      exact absurd h3 (by simp)
    unfold std1 at hstep hsome
    refine ⟨fun q => ?_, fun q => ?_, fun q1 q2 q3 q4 => ?_⟩
    · rw [hc] at q
      rw [if_pos q] at hstep
      exact hstep _ rfl
    · rw [hc] at q
      rw [if_neg (by omega), if_pos q] at hstep hsome
      by_cases q1 : 1 ≤ d
      · rw [if_pos q1] at hstep
        exact ⟨q1, hstep _ rfl⟩
      · rw [if_neg q1] at hsome
        exact absurd rfl hsome
    · rw [hc] at q1 q2 q3 q4
      rw [if_neg (by omega), if_neg (by omega)] at hstep hsome
      by_cases q5 : 2 ≤ d
      · rw [if_pos q5] at hstep
        exact ⟨q5, hstep _ rfl⟩
      · rw [if_neg q5] at hsome
        exact absurd rfl hsome
def Ef (C1 C2 C3 : List Nat) (p : Nat) : Nat := if p = 0 then 0 else if p = 1 then C1.length else if p = 2 then C2.length else C3.length
theorem good_ok {C1 C2 C3 : List Nat} (h : goodT C1 C2 C3) : tOK (fnM C3) (Ef C1 C2 C3) := by
  obtain ⟨D2, D3, rfl, rfl, h1, h2, h3, h4, h5⟩ := h
  have l2 : (D2 ++ C1).length = D2.length + C1.length := List.length_append
  have l3 : (D3 ++ (D2 ++ C1)).length = D3.length + (D2.length + C1.length) := by rw [List.length_append, l2]
  refine ⟨rfl, Nat.zero_le _, ?_, ?_, h5, fun i hi => fnM_ok h4 i hi, ?_, ?_, ?_⟩
  · show C1.length ≤ (D2 ++ C1).length
    omega
  · show (D2 ++ C1).length ≤ (D3 ++ (D2 ++ C1)).length
    omega
  · show wfM _ (C1.length - 0) 0 0
    exact wfM_dp _ C1 0 0 (by omega) (fun j hj => by rw [Nat.zero_add, fnM_lt _ _ _ (by omega), fnM_lt _ _ _ (by omega)]) (h1 0)
  · show wfM _ ((D2 ++ C1).length - C1.length) C1.length 0
    exact wfM_dp _ D2 _ 0 (by omega) (fun j hj => by rw [fnM_lt _ _ _ (by omega), fnM_ge _ _ _ (by omega)]) (h2 0)
  · show wfM _ ((D3 ++ (D2 ++ C1)).length - (D2 ++ C1).length) (D2 ++ C1).length 0
    exact wfM_dp _ D3 _ 0 (by omega) (fun j hj => by rw [fnM_ge _ _ _ (by omega)]) (h3 0)
/-- what a text's reading writes -/
def TX (tc c j : Nat) : Prop := (c = 3 ∧ (j = 1 ∨ (3 ≤ j ∧ j ≤ 7))) ∨ (66 ≤ c ∧ c ≤ 68) ∨ (42 + 4 * tc ≤ c ∧ c ≤ 44 + 4 * tc) ∨ (c = 0 ∧ j = 8) ∨ (c = 78 ∧ (j = 6 ∨ j = 9 ∨ (18 ≤ j ∧ j ≤ 21) ∨ (24 ≤ j ∧ j ≤ 26))) ∨ c = 93 ∨ (c = 84 ∧ 200 * tc ≤ j ∧ j < 200 * tc + 200) ∨ (c = 85 ∧ 4 * tc ≤ j ∧ j < 4 * tc + 4)
theorem keepT {z Z : Sg} {n lw tc ts : Nat} {F : Nat → Nat → Int32} {K : Nat → Int32} {C E : Nat → Nat → Nat} (h : InvP z n lw tc ts F K C E) (ht : tc < 6) (e : ∀ c j, ¬ TX tc c j → Z c j = z c j) : iR Z n lw F K ∧ iG Z n tc F ∧ iH Z ∧ iW Z ∧ ∀ t, t < tc → tOK (C t) (E t) ∧ lC Z (42 + 4 * t) (C t) (E t) ∧ lM Z t (C t) (E t) := by
  obtain ⟨h1, h2, h3, h4, h5, h6⟩ := h
  refine ⟨h1.at (fun c j hc => e c j (by unfold TX; omega)), h4.at (fun c j hc => e c j (by unfold TX; omega)), h5.at (fun c j hc => e c j (by unfold TX; omega)), h6.at (fun c j hc => e c j (by unfold TX; omega)), fun t htc => ?_⟩
  obtain ⟨a1, a2, a3⟩ := h2.2.2.2.2 t htc
  refine ⟨a1, a2.at (fun c j hc => e c j (by unfold TX; omega)), ?_⟩
  obtain ⟨m0, m1, m2, m3, m4⟩ := a3
  have hE := a1.2.2.2.2.1
  exact ⟨by rw [e _ _ (by unfold TX; omega)]; exact m0, by rw [e _ _ (by unfold TX; omega)]; exact m1, by rw [e _ _ (by unfold TX; omega)]; exact m2, by rw [e _ _ (by unfold TX; omega)]; exact m3, fun i hi => by rw [e _ _ (by unfold TX; omega)]; exact m4 i hi⟩
theorem becT {fu tc : Nat} {z : Sg} (ht : tc < 6) : ∃ Z, pL_become fu (42 + 4 * tc) 66 z = some Z ∧ (∀ i, i < 160 → Z (43 + 4 * tc) i = z 67 i) ∧ (∀ i, i < 3 → Z (44 + 4 * tc) i = z 68 i) ∧ ∀ c j, ¬ (42 + 4 * tc ≤ c ∧ c ≤ 44 + 4 * tc) → Z c j = z c j := by
  unfold pL_become
  have c1 : cpb 0 0 160 160 160 = true := pv_cpb (sp := 0) (dp := 0) (n := 160) (by omega) (by omega) (by omega) (by omega)
  have c2 : cpb 0 0 3 3 3 = true := pv_cpb (sp := 0) (dp := 0) (n := 3) (by omega) (by omega) (by omega) (by omega)
  have p1 : ∀ y a b c j, cpy y a 0 b 0 160 c j = if c = b ∧ 0 ≤ j ∧ j < 0 + 160 then y a (0 + (j - 0)) else y c j := fun y a b c j => pv_cpy (sp := 0) (dp := 0) (n := 160) (by omega) (by omega) (by omega) c j
  have p2 : ∀ y a b c j, cpy y a 0 b 0 3 c j = if c = b ∧ 0 ≤ j ∧ j < 0 + 3 then y a (0 + (j - 0)) else y c j := fun y a b c j => pv_cpy (sp := 0) (dp := 0) (n := 3) (by omega) (by omega) (by omega) c j
  rw [c1, pv_chk, pv_letm, c2, pv_chk, pv_letm, pv_letm]
  refine ⟨_, rfl, fun i hi => ?_, fun i hi => ?_, fun c j hc => ?_⟩
  · rw [pv_u2, if_neg (by omega), p2, if_neg (by omega), p1, if_pos (by omega), Nat.zero_add, Nat.sub_zero]
  · rw [pv_u2, if_neg (by omega), p2, if_pos (by omega), Nat.zero_add, Nat.sub_zero, p1, if_neg (by omega)]
  · rw [pv_u2, if_neg (by omega), p2, if_neg (by omega), p1, if_neg (by omega)]
theorem st_text {fu : Nat} (hf : 50000 ≤ fu) (z : Sg) (h : Inv z) : ∃ r z1 z2, pS_text fu z = some (r, z1) ∧ pM_text fu z1 = some (r, z2) ∧ Inv z2 := by
  obtain ⟨n, lw, tc, ts, F, K, C, E, h⟩ := h
  have hh := h
  obtain ⟨hR, ⟨t1, t2, t3, t4, t5⟩, ⟨b1, b2, b3, b4⟩, hG, hH, hW⟩ := h
  unfold pS_text
  rw [t3]
  by_cases q6 : tc = 6
  · rw [if_neg (show ¬ nI tc < 6 from nI_nlt (b := 6) (by omega) (by omega))]
    refine ⟨_, z, z, rfl, ?_, n, lw, tc, ts, F, K, C, E, hh⟩
    unfold pM_text
    rw [t4, if_pos (by rw [q6]; rfl)]
  · have ht : tc < 6 := by omega
    rw [if_pos (show nI tc < 6 from nI_lt (b := 6) ht (by omega))]
    obtain ⟨L, hL, hLl⟩ := tkL_ex (T := z 4) (n := ts) (fun j hj => (b4 j hj).2) b1 ts 0 (by omega) (by omega)
    cases L with
    | nil => exact absurd hL id
    | cons t l =>
      rw [List.length_cons] at hLl
      -- the class
      have yH : FH z (u2 (u2 (u2 z 3 3 0) 3 7 (-1)) 66 3 0) := fun c j h1 h2 _ _ => by rw [pv_u2, if_neg (by omega), pv_u2, if_neg (by omega), pv_u2, if_neg (by omega)]
      have yT : tpC (u2 (u2 (u2 z 3 3 0) 3 7 (-1)) 66 3 0) ts (z 4) := ⟨by rw [pv_u2, if_neg (by omega), pv_u2, if_neg (by omega), pv_u2, if_neg (by omega)]; exact b2, b1, fun j hj => by rw [pv_u2, if_neg (by omega), pv_u2, if_neg (by omega), pv_u2, if_neg (by omega)], fun j hj => (b4 j hj).2⟩
      have y33 : (u2 (u2 (u2 z 3 3 0) 3 7 (-1)) 66 3 0) 3 3 = nI 0 := by rw [pv_u2, if_neg (by omega), pv_u2, if_neg (by omega), pv_u2, if_pos ⟨rfl, rfl⟩]; rfl
      have y37 : (u2 (u2 (u2 z 3 3 0) 3 7 (-1)) 66 3 0) 3 7 = -1 := by rw [pv_u2, if_neg (by omega), pv_u2, if_pos ⟨rfl, rfl⟩]
      have y66 : (u2 (u2 (u2 z 3 3 0) 3 7 (-1)) 66 3 0) 66 3 = 0 := by rw [pv_u2, if_pos ⟨rfl, rfl⟩]
      have eA : pD_readAll fu z = bndv (pD_advance fu (u2 (u2 (u2 z 3 3 0) 3 7 (-1)) 66 3 0)) (fun z4 => pD_readAll_23 fu fu 0 z4) := by
        unfold pD_readAll pL_clear
        rw [pv_letm, pv_letm, pv_letm, pv_bndv]
      generalize u2 (u2 (u2 z 3 3 0) 3 7 (-1)) 66 3 0 = y at yH yT y33 y37 y66 eA
      obtain ⟨Z0, e0, f0, g0⟩ := advC (fu := fu) (by omega) yT y33 (by omega)
      have hr : rcC (z 4) ts Z0 t l [] := ⟨yT.a g0, ⟨0, hL⟩, by rw [hL.1]; exact f0, by rw [g0 _ _ (by omega)]; exact y66, trivial, by rw [g0 _ _ (by omega)]; exact y37⟩
      rw [e0, pv_bndv] at eA
      have hF0 : FH z Z0 := yH.tr g0.g.h
      -- the reference, from any state that keeps its cells
      have ref := fun (Z1 : Sg) (k1 : ∀ c j, 69 ≤ c → Z1 c j = z c j) => allM (fu := fu) (ts := t :: l) (z := Z1) (tc := tc) (n := ts) (T := z 4) (by omega) ht hL ⟨by rw [k1 _ _ (by omega)]; exact b3, b1, fun j hj => by rw [k1 _ _ (by omega)]; exact (b4 j hj).1, fun j hj => (b4 j hj).2, hW.at (fun c j hc => k1 c j (by omega))⟩ (by rw [k1 _ _ (by omega)]; exact t4) (by rw [List.length_cons]; omega)
      rcases allC (fu := fu) (by omega) hr (by omega) with ⟨q, Z1, a0, a1, a2, a3, a4⟩ | ⟨Z1, C1, C2, C3, a1, a2, a3, a4, a5, a6, a7, a8, a9⟩
      · have F1 := hF0.tr a3
        rw [eA, a1, pv_bnd, if_neg (ne_m1 q a0)]
        rcases ref Z1 (fun c j hc => F1 c j (by omega) (by omega) (by omega) (by omega)) with ⟨q', Z2, c1, c2, c3, c4⟩ | ⟨Z2, D1, D2, D3, c1, c2, _⟩
        · rw [a4] at c2
          have eq : q' = q := (Sum.inl.inj c2).symm
          subst eq
          refine ⟨_, Z1, Z2, rfl, c1, n, lw, tc, 0, F, K, C, E, ?_⟩
          have e : ∀ c j, ¬ TX tc c j → Z2 c j = z c j := fun c j hc => by
            unfold TX at hc
            rw [c4 c j (by omega) (by omega) (by omega) (by omega), F1 c j (by omega) (by omega) (by omega) (by omega)]
          obtain ⟨k1, k2, k3, k4, k5⟩ := keepT hh ht e
          refine ⟨k1, ⟨t1, t2, ?_, ?_, k5⟩, ⟨by omega, ?_, c3, fun j hj => absurd hj (by omega)⟩, k2, k3, k4⟩
          · rw [c4 _ _ (by omega) (by omega) (by omega) (by omega), F1 _ _ (by omega) (by omega) (by omega) (by omega)]; exact t3
          · rw [c4 _ _ (by omega) (by omega) (by omega) (by omega), F1 _ _ (by omega) (by omega) (by omega) (by omega)]; exact t4
          · rw [c4 _ _ (by omega) (by omega) (by omega) (by omega)]; exact a2
        · rw [a4] at c2
          exact absurd c2 (by simp)
      · have F1 := hF0.tr a3
        have e08 : Z1 0 8 = nI tc := by rw [F1 _ _ (by omega) (by omega) (by omega) (by omega)]; exact t3
        obtain ⟨Z3, g1, g2, g3, g4⟩ := becT (fu := fu) (z := Z1) ht
        rw [eA, a1, pv_bnd, if_pos rfl, e08, pv_inb ht (by omega), pv_chk, nI_clamp (by omega), g1, pv_bndv, pv_letm]
        have e38 : Z3 0 8 = nI tc := by rw [g4 _ _ (by omega)]; exact e08
        rw [e38, nI_1]
        have w08 : (u2 Z3 0 8 (nI (tc + 1))) 0 8 = nI (tc + 1) := by rw [pv_u2, if_pos ⟨rfl, rfl⟩]
        have wk : ∀ c j, ¬ (c = 0 ∧ j = 8) → (u2 Z3 0 8 (nI (tc + 1))) c j = Z3 c j := fun c j hc => by rw [pv_u2, if_neg hc]
        generalize u2 Z3 0 8 (nI (tc + 1)) = w at w08 wk
        rw [w08, nI_pred]
        rcases ref w (fun c j hc => by rw [wk _ _ (by omega), g4 _ _ (by omega), F1 _ _ (by omega) (by omega) (by omega) (by omega)]) with ⟨q', Z2, c1, c2, _⟩ | ⟨Z2, D1, D2, D3, c1, c2, c3, c4, c5, c6, c7, c8, c9⟩
        · rw [a4] at c2
          exact absurd c2 (by simp)
        · rw [a4] at c2
          have e1 := Sum.inr.inj c2
          have e2 : C1 = D1 ∧ C2 = D2 ∧ C3 = D3 := ⟨congrArg Prod.fst e1, congrArg (fun x => x.2.1) e1, congrArg (fun x => x.2.2) e1⟩
          obtain ⟨rfl, rfl, rfl⟩ := e2
          refine ⟨_, w, u2 Z2 78 9 (nI (tc + 1)), rfl, c1, n, lw, tc + 1, 0, F, K, fun t => if t = tc then fnM C3 else C t, fun t => if t = tc then Ef C1 C2 C3 else E t, ?_⟩
          have v9 : (u2 Z2 78 9 (nI (tc + 1))) 78 9 = nI (tc + 1) := by rw [pv_u2, if_pos ⟨rfl, rfl⟩]
          have vk : ∀ c j, ¬ (c = 78 ∧ j = 9) → (u2 Z2 78 9 (nI (tc + 1))) c j = Z2 c j := fun c j hc => by rw [pv_u2, if_neg hc]
          generalize u2 Z2 78 9 (nI (tc + 1)) = V at v9 vk ⊢
          have e : ∀ c j, ¬ TX tc c j → V c j = z c j := fun c j hc => by
            unfold TX at hc
            rw [vk c j (by omega), c4 c j (by omega) (by omega) (by omega) (by omega), wk c j (by omega), g4 c j (by omega), F1 c j (by omega) (by omega) (by omega) (by omega)]
          obtain ⟨k1, k2, k3, k4, k5⟩ := keepT hh ht e
          have hgood := good_ok a5
          have h160 : C3.length ≤ 160 := a5.choose_spec.choose_spec.2.2.2.2.2.2
          refine ⟨k1, ⟨by omega, by omega, ?_, v9, fun t htc => ?_⟩, ⟨by omega, ?_, ?_, fun j hj => absurd hj (by omega)⟩, ?_, k3, k4⟩
          · rw [vk _ _ (by omega), c4 _ _ (by omega) (by omega) (by omega) (by omega)]; exact w08
          · by_cases q : t = tc
            · subst q
              simp only [if_pos]
              refine ⟨hgood, ⟨?_, ?_, ?_, fun i hi => ?_⟩, ?_, ?_, ?_, ?_, fun i hi => ?_⟩
              · rw [vk _ _ (by omega), c4 _ _ (by omega) (by omega) (by omega) (by omega), wk _ _ (by omega), show 42 + 4 * t + 2 = 44 + 4 * t by omega, g3 _ (by omega)]; exact a7
              · rw [vk _ _ (by omega), c4 _ _ (by omega) (by omega) (by omega) (by omega), wk _ _ (by omega), show 42 + 4 * t + 2 = 44 + 4 * t by omega, g3 _ (by omega)]; exact a8
              · rw [vk _ _ (by omega), c4 _ _ (by omega) (by omega) (by omega) (by omega), wk _ _ (by omega), show 42 + 4 * t + 2 = 44 + 4 * t by omega, g3 _ (by omega)]; exact a9
              · have hi' : i < C3.length := hi
                rw [vk _ _ (by omega), c4 _ _ (by omega) (by omega) (by omega) (by omega), wk _ _ (by omega), show 42 + 4 * t + 1 = 43 + 4 * t by omega, g2 _ (by omega)]
                exact fnM_c a6 i hi'
              · rw [vk _ _ (by omega)]; exact c6
              · rw [vk _ _ (by omega)]; exact c7
              · rw [vk _ _ (by omega)]; exact c8
              · rw [vk _ _ (by omega)]; exact c9
              · rw [vk _ _ (by omega)]; exact fnM_h c5 i hi
            · simp only [if_neg q]
              exact k5 t (by omega)
          · rw [vk _ _ (by omega), c4 _ _ (by omega) (by omega) (by omega) (by omega), wk _ _ (by omega), g4 _ _ (by omega)]; exact a2
          · rw [vk _ _ (by omega)]; exact c3
          · obtain ⟨i1, i2⟩ := k2
            refine ⟨i1, ?_⟩
            rcases i2 with i2 | ⟨i2, n', lw', F', K', j1, j2, j3⟩
            · exact Or.inl i2
            · exact Or.inr ⟨i2, n', lw', F', K', j1, by omega, j3⟩
