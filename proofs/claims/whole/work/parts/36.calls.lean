/-! the image -/
theorem imgMr2 {fu : Nat} {y : Sg} : ∀ k i f z, i + k = 5 → k < f → (∀ c j, c ≠ 86 → z c j = y c j) → (∀ j, j < 18 → z 86 j = y 81 j) → (∀ j, j < i → z 86 (18 + j) = y 82 j) → ∃ Z, pM_image_33 fu f (nI i) z = some (y 78 0, Z) ∧ (∀ c j, c ≠ 86 → ¬ (c = 87 ∧ j < 2) → Z c j = y c j) ∧ (∀ j, j < 18 → Z 86 j = y 81 j) ∧ (∀ j, j < 5 → Z 86 (18 + j) = y 82 j) ∧ Z 87 0 = y 78 0 ∧ Z 87 1 = y 78 10 := by
  intro k
  induction k with
  | zero =>
    intro i f z h1 h2 h3 h4 h5
    obtain ⟨f, rfl⟩ := fuS h2
    rw [pM_image_33, if_pos (show (5 : Int32) ≤ nI i from by rw [l_5, pv_le (by omega) (by omega)]; omega), pv_letm, pv_letm]
    have e1 : ∀ v w, (u2 (u2 z 87 0 v) 87 1 w) 78 0 = y 78 0 := fun v w => by rw [pv_u2, if_neg (by omega), pv_u2, if_neg (by omega)]; exact h3 78 0 (by omega)
    rw [e1]
    refine ⟨_, rfl, fun c j c1 c2 => ?_, fun j hj => ?_, fun j hj => ?_, ?_, ?_⟩
    · rw [pv_u2, if_neg (by omega), pv_u2, if_neg (by omega)]; exact h3 c j c1
    · rw [pv_u2, if_neg (by omega), pv_u2, if_neg (by omega)]; exact h4 j hj
    · rw [pv_u2, if_neg (by omega), pv_u2, if_neg (by omega)]; exact h5 j (by omega)
    · rw [pv_u2, if_neg (by omega), pv_u2, if_pos ⟨rfl, rfl⟩]; exact h3 78 0 (by omega)
    · rw [pv_u2, if_pos ⟨rfl, rfl⟩, pv_u2, if_neg (by omega)]; exact h3 78 10 (by omega)
  | succ k ih =>
    intro i f z h1 h2 h3 h4 h5
    obtain ⟨f, rfl⟩ := fuS h2
    rw [pM_image_33, if_neg (show ¬ (5 : Int32) ≤ nI i from by rw [l_5, pv_le (by omega) (by omega)]; omega), pv_inb (by omega) (by omega), pv_chk, l_18, nI_add, pv_inb (by omega) (by omega), pv_chk, pv_letm, pv_letm, pv_sa (by omega), pv_ga (by omega), nI_1, h3 82 i (by omega)]
    refine ih (i + 1) f _ (by omega) (by omega) (fun c j c1 => ?_) (fun j hj => ?_) (fun j hj => ?_)
    · rw [pv_u2, if_neg (by omega)]; exact h3 c j c1
    · rw [pv_u2, if_neg (by omega)]; exact h4 j hj
    · by_cases e : j = i
      · rw [e, pv_u2, if_pos ⟨rfl, rfl⟩]
      · rw [pv_u2, if_neg (by omega)]; exact h5 j (by omega)
theorem imgMr1 {fu : Nat} {y : Sg} (hf : 10 ≤ fu) : ∀ k i f z, i + k = 18 → k < f → (∀ c j, c ≠ 86 → z c j = y c j) → (∀ j, j < i → z 86 j = y 81 j) → ∃ Z, pM_image_7 fu f (nI i) z = some (y 78 0, Z) ∧ (∀ c j, c ≠ 86 → ¬ (c = 87 ∧ j < 2) → Z c j = y c j) ∧ (∀ j, j < 18 → Z 86 j = y 81 j) ∧ (∀ j, j < 5 → Z 86 (18 + j) = y 82 j) ∧ Z 87 0 = y 78 0 ∧ Z 87 1 = y 78 10 := by
  intro k
  induction k with
  | zero =>
    intro i f z h1 h2 h3 h4
    obtain ⟨f, rfl⟩ := fuS h2
    rw [pM_image_7, if_pos (show (18 : Int32) ≤ nI i from by rw [l_18, pv_le (by omega) (by omega)]; omega)]
    exact imgMr2 5 0 fu z (by omega) (by omega) h3 (fun j hj => h4 j (by omega)) (fun j hj => absurd hj (by omega))
  | succ k ih =>
    intro i f z h1 h2 h3 h4
    obtain ⟨f, rfl⟩ := fuS h2
    rw [pM_image_7, if_neg (show ¬ (18 : Int32) ≤ nI i from by rw [l_18, pv_le (by omega) (by omega)]; omega), pv_inb (by omega) (by omega), pv_chk, pv_inb (by omega) (by omega), pv_chk, pv_letm, pv_letm, pv_sa (by omega), pv_ga (by omega), nI_1, h3 81 i (by omega)]
    refine ih (i + 1) f _ (by omega) (by omega) (fun c j c1 => ?_) (fun j hj => ?_)
    · rw [pv_u2, if_neg (by omega)]; exact h3 c j c1
    · by_cases e : j = i
      · rw [e, pv_u2, if_pos ⟨rfl, rfl⟩]
      · rw [pv_u2, if_neg (by omega)]; exact h4 j (by omega)
theorem st_image {fu : Nat} (hf : 50000 ≤ fu) (z : Sg) (h : Inv z) : ∃ (r : Int32) (z1 z2 : Sg), pS_image fu z = some (r, z1) ∧ pM_image fu z1 = some (r, z2) ∧ Inv z2 := by
  obtain ⟨n, lw, tc, ts, F, K, C, E, h⟩ := h
  have hn := h.1.2.2.1.1
  obtain ⟨Z, x1, x2, x3, x4⟩ := becC (fu := fu) (r := 31) (r2 := 9) (Or.inr (Or.inr rfl)) (Or.inl rfl) (by omega) (by omega) hn h.1.1
  obtain ⟨Y, y1, y2, y3, y4, y5, y6⟩ := imgMr1 (fu := fu) (y := u2 (u2 Z 0 9 1) 78 11 1) (by omega) 18 0 fu (u2 (u2 Z 0 9 1) 78 11 1) (by omega) (by omega) (fun _ _ _ => rfl) (fun j hj => absurd hj (by omega))
  have eW : ∀ c j, ¬ (c = 0 ∧ j = 9) → ¬ (c = 78 ∧ j = 11) → (u2 (u2 Z 0 9 1) 78 11 1) c j = Z c j := fun c j c1 c2 => by rw [pv_u2, if_neg c2, pv_u2, if_neg c1]
  have eZ : ∀ c j, ¬ ((c = 31 ∧ (j = 3 ∨ j = 4)) ∨ (32 ≤ c ∧ c ≤ 38)) → Z c j = z c j := fun c j hc => x4 c j (by omega)
  have eY : ∀ c j, ¬ ((c = 31 ∧ (j = 3 ∨ j = 4)) ∨ (32 ≤ c ∧ c ≤ 38) ∨ (c = 0 ∧ j = 9) ∨ (c = 78 ∧ j = 11) ∨ c = 86 ∨ c = 87) → Y c j = z c j := fun c j hc => by rw [y2 c j (by omega) (by omega), eW c j (by omega) (by omega)]; exact eZ c j (by omega)
  have eV : ∀ c j, c ≠ 86 → c ≠ 87 → ¬ (c = 0 ∧ j = 9) → ¬ (c = 78 ∧ j = 11) → Y c j = Z c j := fun c j c1 c2 c3 c4 => by rw [y2 c j c1 (by omega), eW c j c3 c4]
  have z78 : (u2 (u2 Z 0 9 1) 78 11 1) 78 0 = nI n := by rw [eW _ _ (by omega) (by omega), eZ _ _ (by omega)]; exact h.1.2.1.1
  refine ⟨nI n, u2 Z 0 9 1, Y, ?_, ?_, n, lw, tc, ts, F, K, C, E, h.1.at (fun c j hc => eY c j (by omega)), h.2.1.at (fun c j hc => eY c j (by omega)), h.2.2.1.at (fun c j hc => eY c j (by omega)), ⟨?_, Or.inr ⟨?_, n, lw, F, K, Nat.le_refl _, h.2.1.1, h.1.2.2.1, x2.at (fun c j hc => eV c j (by omega) (by omega) (by omega) (by omega)), ⟨fun m hm => ?_, fun m hm => ?_, fun m hm => ?_, ?_, ?_, ?_, ?_, ?_, ?_⟩, fun m hm => ⟨rfl, rfl⟩, ?_, ?_⟩⟩, h.2.2.2.2.1.at (fun c j hc => eY c j (by omega)), h.2.2.2.2.2.at (fun c j hc => eY c j (by omega))⟩
  · unfold pS_image
    rw [x1, pv_bndv, pv_letm, show (u2 Z 0 9 1) 31 3 = nI n from by rw [pv_u2, if_neg (by omega)]; exact x2.1]
  · unfold pM_image
    rw [pv_letm]
    exact y1.trans (by rw [z78])
  · rw [y2 78 11 (by omega) (by omega), y2 0 9 (by omega) (by omega), pv_u2, if_pos ⟨rfl, rfl⟩, pv_u2, if_neg (by omega), pv_u2, if_pos ⟨rfl, rfl⟩]
  · rw [y2 0 9 (by omega) (by omega), pv_u2, if_neg (by omega), pv_u2, if_pos ⟨rfl, rfl⟩]
  · rw [y3 _ (by omega), eW _ _ (by omega) (by omega), eZ _ _ (by omega)]; exact h.1.2.1.2.2.1 m hm
  · rw [y3 _ (by omega), eW _ _ (by omega) (by omega), eZ _ _ (by omega)]; exact h.1.2.1.2.2.2.1 m hm
  · rw [y3 _ (by omega), eW _ _ (by omega) (by omega), eZ _ _ (by omega)]; exact h.1.2.1.2.2.2.2.1 m hm
  · rw [show Y 86 18 = _ from y4 0 (by omega), eW _ _ (by omega) (by omega), eZ _ _ (by omega)]; exact h.1.2.1.2.2.2.2.2.2.2.1
  · rw [show Y 86 19 = _ from y4 1 (by omega), eW _ _ (by omega) (by omega), eZ _ _ (by omega)]; exact h.1.2.1.2.2.2.2.2.2.2.2.1
  · rw [show Y 86 20 = _ from y4 2 (by omega), eW _ _ (by omega) (by omega), eZ _ _ (by omega)]; exact h.1.2.1.2.2.2.2.2.2.2.2.2.1
  · rw [show Y 86 21 = _ from y4 3 (by omega), eW _ _ (by omega) (by omega), eZ _ _ (by omega)]; exact h.1.2.1.2.2.2.2.2.2.2.2.2.2
  · rw [y5]; exact z78
  · rw [y6, eW _ _ (by omega) (by omega), eZ _ _ (by omega)]; exact h.1.2.1.2.1
  · rw [eV 32 4 (by omega) (by omega) (by omega) (by omega), show Z 32 4 = z 10 4 from x3]; exact h.1.2.2.2.1
  · rw [eV 32 4 (by omega) (by omega) (by omega) (by omega), show Z 32 4 = z 10 4 from x3, show Y 86 22 = _ from y4 4 (by omega), eW _ _ (by omega) (by omega), eZ _ _ (by omega)]; exact h.1.2.2.2.2
theorem bakMr2 {fu : Nat} {y : Sg} : ∀ k i f z, i + k = 5 → k < f → (∀ c j, c ≠ 81 → c ≠ 82 → z c j = y c j) → (∀ j, j < 18 → z 81 j = y 86 j) → (∀ j, j < i → z 82 j = y 86 (18 + j)) → ∃ Z, pM_back_38 fu f (nI i) z = some (y 87 0, Z) ∧ (∀ c j, c ≠ 81 → c ≠ 82 → ¬ (c = 78 ∧ (j = 0 ∨ j = 10)) → Z c j = y c j) ∧ (∀ j, j < 18 → Z 81 j = y 86 j) ∧ (∀ j, j < 5 → Z 82 j = y 86 (18 + j)) ∧ Z 78 0 = y 87 0 ∧ Z 78 10 = y 87 1 := by
  intro k
  induction k with
  | zero =>
    intro i f z h1 h2 h3 h4 h5
    obtain ⟨f, rfl⟩ := fuS h2
    rw [pM_back_38, if_pos (show (5 : Int32) ≤ nI i from by rw [l_5, pv_le (by omega) (by omega)]; omega), pv_letm, pv_letm]
    have e1 : ∀ v w, (u2 (u2 z 78 0 v) 78 10 w) 78 0 = v := fun v w => by rw [pv_u2, if_neg (by omega), pv_u2, if_pos ⟨rfl, rfl⟩]
    rw [e1, h3 87 0 (by omega) (by omega)]
    refine ⟨_, rfl, fun c j c1 c2 c3 => ?_, fun j hj => ?_, fun j hj => ?_, ?_, ?_⟩
    · rw [pv_u2, if_neg (by omega), pv_u2, if_neg (by omega)]; exact h3 c j c1 c2
    · rw [pv_u2, if_neg (by omega), pv_u2, if_neg (by omega)]; exact h4 j hj
    · rw [pv_u2, if_neg (by omega), pv_u2, if_neg (by omega)]; exact h5 j (by omega)
    · rw [pv_u2, if_neg (by omega), pv_u2, if_pos ⟨rfl, rfl⟩]
    · rw [pv_u2, if_pos ⟨rfl, rfl⟩, pv_u2, if_neg (by omega)]; exact h3 87 1 (by omega) (by omega)
  | succ k ih =>
    intro i f z h1 h2 h3 h4 h5
    obtain ⟨f, rfl⟩ := fuS h2
    rw [pM_back_38, if_neg (show ¬ (5 : Int32) ≤ nI i from by rw [l_5, pv_le (by omega) (by omega)]; omega), l_18, nI_add, pv_inb (by omega) (by omega), pv_chk, pv_inb (by omega) (by omega), pv_chk, pv_letm, pv_letm, pv_sa (by omega), pv_ga (by omega), nI_1, h3 86 (18 + i) (by omega) (by omega)]
    refine ih (i + 1) f _ (by omega) (by omega) (fun c j c1 c2 => ?_) (fun j hj => ?_) (fun j hj => ?_)
    · rw [pv_u2, if_neg (by omega)]; exact h3 c j c1 c2
    · rw [pv_u2, if_neg (by omega)]; exact h4 j hj
    · by_cases e : j = i
      · rw [e, pv_u2, if_pos ⟨rfl, rfl⟩]
      · rw [pv_u2, if_neg (by omega)]; exact h5 j (by omega)
theorem bakMr1 {fu : Nat} {y : Sg} (hf : 10 ≤ fu) : ∀ k i f z, i + k = 18 → k < f → (∀ c j, c ≠ 81 → z c j = y c j) → (∀ j, j < i → z 81 j = y 86 j) → ∃ Z, pM_back_12 fu f (nI i) z = some (y 87 0, Z) ∧ (∀ c j, c ≠ 81 → c ≠ 82 → ¬ (c = 78 ∧ (j = 0 ∨ j = 10)) → Z c j = y c j) ∧ (∀ j, j < 18 → Z 81 j = y 86 j) ∧ (∀ j, j < 5 → Z 82 j = y 86 (18 + j)) ∧ Z 78 0 = y 87 0 ∧ Z 78 10 = y 87 1 := by
  intro k
  induction k with
  | zero =>
    intro i f z h1 h2 h3 h4
    obtain ⟨f, rfl⟩ := fuS h2
    rw [pM_back_12, if_pos (show (18 : Int32) ≤ nI i from by rw [l_18, pv_le (by omega) (by omega)]; omega)]
    exact bakMr2 5 0 fu z (by omega) (by omega) (fun c j c1 _ => h3 c j c1) (fun j hj => h4 j (by omega)) (fun j hj => absurd hj (by omega))
  | succ k ih =>
    intro i f z h1 h2 h3 h4
    obtain ⟨f, rfl⟩ := fuS h2
    rw [pM_back_12, if_neg (show ¬ (18 : Int32) ≤ nI i from by rw [l_18, pv_le (by omega) (by omega)]; omega), pv_inb (by omega) (by omega), pv_chk, pv_inb (by omega) (by omega), pv_chk, pv_letm, pv_letm, pv_sa (by omega), pv_ga (by omega), nI_1, h3 86 i (by omega)]
    refine ih (i + 1) f _ (by omega) (by omega) (fun c j c1 => ?_) (fun j hj => ?_)
    · rw [pv_u2, if_neg (by omega)]; exact h3 c j c1
    · by_cases e : j = i
      · rw [e, pv_u2, if_pos ⟨rfl, rfl⟩]
      · rw [pv_u2, if_neg (by omega)]; exact h4 j (by omega)
theorem st_back {fu : Nat} (hf : 50000 ≤ fu) (z : Sg) (h : Inv z) : ∃ (r : Int32) (z1 z2 : Sg), pS_back fu z = some (r, z1) ∧ pM_back fu z1 = some (r, z2) ∧ Inv z2 := by
  obtain ⟨n, lw, tc, ts, F, K, C, E, h⟩ := h
  have hI : Inv z := ⟨n, lw, tc, ts, F, K, C, E, h⟩
  obtain ⟨g1, g2⟩ := h.2.2.2.1
  unfold pS_back pM_back
  rcases g2 with g2 | ⟨g2, n', lw', F', K', q1, q2, q3, q4, q5, q6, q7, q8⟩
  · exact ⟨-3, z, z, by rw [if_pos g2], by rw [if_pos (by rw [g1]; exact g2)], hI⟩
  · have hn := h.1.2.2.1.1
    obtain ⟨Z, x1, x2, x3, x4⟩ := becC (fu := fu) (r := 9) (r2 := 31) (Or.inl rfl) (Or.inr (Or.inr rfl)) (by omega) (by omega) q3.1 q4
    obtain ⟨Y, y1, y2, y3, y4, y5, y6⟩ := bakMr1 (fu := fu) (y := Z) (by omega) 18 0 fu Z (by omega) (by omega) (fun _ _ _ => rfl) (fun j hj => absurd hj (by omega))
    obtain ⟨p1, p2, p3, p4, p5, p6, p7, p8, p9⟩ := q5
    have eZ : ∀ c j, ¬ ((c = 9 ∧ (j = 3 ∨ j = 4)) ∨ (10 ≤ c ∧ c ≤ 16)) → Z c j = z c j := fun c j hc => x4 c j (by omega)
    have eY : ∀ c j, ¬ ((c = 9 ∧ (j = 3 ∨ j = 4)) ∨ (10 ≤ c ∧ c ≤ 16) ∨ c = 81 ∨ c = 82 ∨ (c = 78 ∧ (j = 0 ∨ j = 10))) → Y c j = z c j := fun c j hc => by rw [y2 c j (by omega) (by omega) (by omega)]; exact eZ c j (by omega)
    have eV : ∀ c j, c < 78 → Y c j = Z c j := fun c j hc => y2 c j (by omega) (by omega) (by omega)
    have k1 := h.1.2.1.2.2.2.2.2.1
    have k2 := h.1.2.1.2.2.2.2.2.2.1
    have ht := h.2.1.at (Z := Y) (fun c j hc => eY c j (by omega))
    refine ⟨nI n', Z, Y, ?_, ?_, n', lw', tc, ts, F', K', C, E, ⟨x2.at (fun c j hc => eV c j (by omega)), ⟨?_, ?_, fun m hm => ?_, fun m hm => ?_, fun m hm => ?_, fun m hm => ?_, fun m hm => ?_, ?_, ?_, ?_, ?_⟩, q3, ?_, ?_⟩, ⟨q2, ht.2.1, ht.2.2.1, ht.2.2.2.1, ht.2.2.2.2⟩, h.2.2.1.at (fun c j hc => eY c j (by omega)), ⟨?_, Or.inr ⟨?_, n', lw', F', K', Nat.le_refl _, q2, q3, q4.at (fun c j hc => eY c j (by omega)), rG.at ⟨p1, p2, p3, p4, p5, p6, p7, p8, p9⟩ (fun c j hc => eY c j (by omega)), fun m hm => ⟨rfl, rfl⟩, ?_, ?_⟩⟩, h.2.2.2.2.1.at (fun c j hc => eY c j (by omega)), h.2.2.2.2.2.at (fun c j hc => eY c j (by omega))⟩
    · rw [if_neg (by rw [g2]; decide), x1, pv_bndv, x2.1]
    · rw [if_neg (by rw [eZ 78 11 (by omega), g1, g2]; decide)]
      exact y1.trans (by rw [eZ 87 0 (by omega), p8])
    · rw [y5, eZ _ _ (by omega)]; exact p8
    · rw [y6, eZ _ _ (by omega)]; exact p9
    · rw [y3 _ (by have := q3.1; omega), eZ _ _ (by omega)]; exact p1 m hm
    · rw [y3 _ (by have := q3.1; omega), eZ _ _ (by omega)]; exact p2 m hm
    · rw [y3 _ (by have := q3.1; omega), eZ _ _ (by omega)]; exact p3 m hm
    · rw [eY _ _ (by omega), (q6 m hm).1]; exact k1 m (by omega)
    · rw [eY _ _ (by omega), (q6 m hm).2]; exact k2 m (by omega)
    · rw [y4 0 (by omega), eZ _ _ (by omega)]; exact p4
    · rw [y4 1 (by omega), eZ _ _ (by omega)]; exact p5
    · rw [y4 2 (by omega), eZ _ _ (by omega)]; exact p6
    · rw [y4 3 (by omega), eZ _ _ (by omega)]; exact p7
    · rw [eV 10 4 (by omega), show Z 10 4 = z 32 4 from x3]; exact q7
    · rw [eV 10 4 (by omega), show Z 10 4 = z 32 4 from x3, y4 4 (by omega), eZ _ _ (by omega)]; exact q8
    · rw [eY _ _ (by omega), eY _ _ (by omega)]; exact g1
    · rw [eY _ _ (by omega)]; exact g2
    · rw [eY _ _ (by omega)]; exact q7
    · rw [eY _ _ (by omega), eY _ _ (by omega)]; exact q8
/-! what lies there, taken for a KIND -/
def unB (k y : Nat) : Bool := decide (y = 0) || decide (k = y) || (decide (y = 1) && decide (k = 3)) || (decide (y = 2) && decide (k = 4))
theorem isAg {z : Sg} {fu : Nat} (hf : 10 ≤ fu) {k y : Nat} (hk : k < 6) (hy : y < 6) : pS_isA fu (nI k) (nI y) z = some (if unB k y then 1 else 0, z) := by
  obtain ⟨g, rfl⟩ : ∃ g, fu = g + 7 := ⟨fu - 7, by omega⟩
  rcases (show k = 0 ∨ k = 1 ∨ k = 2 ∨ k = 3 ∨ k = 4 ∨ k = 5 by omega) with rfl | rfl | rfl | rfl | rfl | rfl <;> rcases (show y = 0 ∨ y = 1 ∨ y = 2 ∨ y = 3 ∨ y = 4 ∨ y = 5 by omega) with rfl | rfl | rfl | rfl | rfl | rfl <;> rfl
theorem isUg {z : Sg} {fu : Nat} {k y : Nat} (hk : k < 6) (hy : y < 6) : pM_isUnder fu (nI k) (nI y) z = some (if unB k y then 1 else 0, z) := by
  rcases (show k = 0 ∨ k = 1 ∨ k = 2 ∨ k = 3 ∨ k = 4 ∨ k = 5 by omega) with rfl | rfl | rfl | rfl | rfl | rfl <;> rcases (show y = 0 ∨ y = 1 ∨ y = 2 ∨ y = 3 ∨ y = 4 ∨ y = 5 by omega) with rfl | rfl | rfl | rfl | rfl | rfl <;> rfl
theorem st_taken {fu : Nat} (hf : 50000 ≤ fu) (z : Sg) (a1 a2 : Int32) (h : Inv z) : ∃ (r : Int32) (z1 z2 : Sg), pS_taken fu a1 a2 z = some (r, z1) ∧ pM_taken fu a1 a2 z1 = some (r, z2) ∧ Inv z2 := by
  obtain ⟨n, lw, tc, ts, F, K, C, E, h⟩ := h
  have hI : Inv z := ⟨n, lw, tc, ts, F, K, C, E, h⟩
  have hn := h.1.2.2.1.1
  unfold pS_taken pM_taken
  rcases wi_cases (M := 6) (k := 6) rfl (by omega) a2 with ⟨c1, c2⟩ | ⟨y, hy, rfl, c1, c2⟩
  · exact ⟨-2, z, z, by rw [c1, pv_bnd, if_pos rfl], by rw [c2, pv_bnd, if_pos rfl], hI⟩
  · rcases wi_cases (M := 11) (k := 11) rfl (by omega) a1 with ⟨d1, d2⟩ | ⟨x, hx, rfl, d1, d2⟩
    · exact ⟨-12, z, z, by rw [c1, pv_bnd, if_neg (by decide), d1, pv_bnd, if_pos rfl], by rw [c2, pv_bnd, if_neg (by decide), d2, pv_bnd, if_pos rfl], hI⟩
    · rw [c1, pv_bnd, if_neg (by decide), d1, pv_bnd, if_neg (by decide), pv_letm, l_6, pk_rem (by omega) (by omega) (by omega)]
      have c3 : ∀ w, pM_in fu (nI y) 0 (nI 6) w = some (1, w) := c2 fu
      simp only [c3, pv_bnd, d2]
      simp only [show ((1 : Int32) = 0) = False from by decide, if_false, pk_rem (show x < 2 ^ 31 by omega) (show 0 < 6 by omega) (show 6 < 2 ^ 31 by omega)]
      unfold pR_has
      rw [if_neg (nI_pos (by omega)), h.1.1.1]
      by_cases hm : x % 6 < n
      · rw [if_neg (nI_ge hm (by omega)), pv_bnd, if_neg (by decide)]
        have hmm : nI (x % 6) < z 78 0 := by rw [h.1.2.1.1]; exact nI_lt hm (by omega)
        unfold pS_taken_54 pS_taken_69
        by_cases hx6 : 6 ≤ x
        · rw [if_pos (show nI 6 ≤ nI x from nI_le hx6 (by omega))]
          by_cases hy6 : y = 6
          · rw [if_pos (show (6 : Int32) ≤ nI y from by rw [hy6]; decide), if_pos rfl, if_pos rfl, pv_inb (by omega) (by omega), pv_chk, pv_ga (by omega)]
            refine ⟨F 1 (x % 6), z, z, by rw [show z 13 (x % 6) = F 1 (x % 6) from h.1.1.2.2.2.1 _ hm], ?_, hI⟩
            rw [if_pos hmm, if_neg (show ¬ nI x < nI 6 from nI_nlt hx6 (by omega)), if_pos (by rw [hy6]), pk_sub hx6, l_3, pk_mul, nI_1, pv_inb (by omega) (by omega), pv_chk, pv_ga (by omega), show x - 6 = x % 6 by omega, h.1.2.1.2.2.2.1 _ hm]
          · rw [if_neg (show ¬ (6 : Int32) ≤ nI y from nI_ge (b := 6) (by omega) (by omega)), if_neg (by decide)]
            refine ⟨-13, z, z, rfl, ?_, hI⟩
            rw [if_pos hmm, if_neg (show ¬ nI x < nI 6 from nI_nlt hx6 (by omega)), if_neg (by rw [pv_eq (by omega) (by omega)]; omega)]
        · rw [if_neg (show ¬ nI 6 ≤ nI x from nI_ge (by omega) (by omega))]
          have exm : x % 6 = x := by omega
          by_cases hy6 : y = 6
          · rw [if_pos (show (6 : Int32) ≤ nI y from by rw [hy6]; decide), if_neg (by decide)]
            refine ⟨-13, z, z, rfl, ?_, hI⟩
            rw [if_pos hmm, if_pos (show nI x < nI 6 from nI_lt (by omega) (by omega)), if_pos (by rw [hy6]; decide)]
          · obtain ⟨k, hk, ek⟩ := h.1.2.2.1.2.1.2.2.2.1 x (by omega)
            rw [if_neg (show ¬ (6 : Int32) ≤ nI y from nI_ge (b := 6) (by omega) (by omega)), if_pos rfl, if_neg (by decide), pv_inb (by omega) (by omega), pv_chk, pv_ga (by omega), exm, show z 15 x = nI k from (h.1.1.2.2.2.2.2.1 x (by omega)).trans ek, isAg (by omega) hk (by omega), pv_bnd]
            rw [exm] at hmm
            refine ⟨if unB k y then nI x else -13, z, z, by cases unB k y <;> rfl, ?_, hI⟩
            rw [if_pos hmm, if_pos (show nI x < nI 6 from nI_lt (by omega) (by omega)), if_neg (show ¬ nI 6 ≤ nI y from nI_ge (by omega) (by omega)), pv_inb (by omega) (by omega), pv_chk, pv_ga (by omega), (h.1.2.1.2.2.2.2.2.1 x (by omega)).trans ek, isUg hk (by omega), pv_bnd]
            cases unB k y <;> rfl
      · rw [if_pos (nI_le (by omega) (by omega)), pv_bnd, if_pos rfl]
        refine ⟨-11, z, z, rfl, ?_, hI⟩
        rw [if_neg (by rw [h.1.2.1.1]; exact nI_nlt (by omega) (by omega))]
