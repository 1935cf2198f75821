def by5 (a b c d e : Int32) (i : Nat) : Int32 := if i = 0 then a else if i = 1 then b else if i = 2 then c else if i = 3 then d else e
theorem fdC_loop {fu n ts : Nat} {y : Sg} (a b c d e : Int32) (hn : n ≤ 5) (hts : ts + n ≤ 160) : ∀ k i f z, i + k = n → k < f → z 3 1 = nI (ts + i) → (∀ j, j < i → z 4 (ts + j) = by5 a b c d e j) → (∀ q j, ¬ (q = 3 ∧ j = 1) → ¬ (q = 4 ∧ ts ≤ j) → z q j = y q j) → ∃ Z, pS_feed_90 fu f (nI n) a b c d e (nI i) z = some (nI (ts + n), Z) ∧ Z 3 1 = nI (ts + n) ∧ (∀ j, j < n → Z 4 (ts + j) = by5 a b c d e j) ∧ (∀ q j, ¬ (q = 3 ∧ j = 1) → ¬ (q = 4 ∧ ts ≤ j) → Z q j = y q j) := by
  intro k
  induction k with
  | zero =>
    intro i f z h1 h2 h3 h4 h5
    obtain ⟨f, rfl⟩ := fuS h2
    rw [pS_feed_90, if_pos (nI_le (by omega) (by omega)), h3, show i = n by omega]
    exact ⟨z, rfl, by rw [h3, show i = n by omega], fun j hj => h4 j (by omega), h5⟩
  | succ k ih =>
    intro i f z h1 h2 h3 h4 h5
    obtain ⟨f, rfl⟩ := fuS h2
    have h143 : ∀ v, pS_feed_143 fu (pS_feed_90 fu f) (nI n) a b c d e (nI i) v z = pS_feed_90 fu f (nI n) a b c d e (nI (i + 1)) (u2 (u2 z 4 (ts + i) v) 3 1 (nI (ts + (i + 1)))) := fun v => by
      unfold pS_feed_143 pD_take
      rw [if_neg (by rw [h3, l_160, pv_le (by omega) (by omega)]; omega), h3, pv_inb (by omega) (by omega), pv_chk, pv_letm, pv_letm, pv_bndv, pv_letm, pv_sa (by omega), pv_u2 z 4, if_neg (by omega), h3, nI_1, nI_1]
      rfl
    have hif : (if nI i = 0 then pS_feed_143 fu (pS_feed_90 fu f) (nI n) a b c d e (nI i) a z else if nI i = 1 then pS_feed_143 fu (pS_feed_90 fu f) (nI n) a b c d e (nI i) b z else if nI i = 2 then pS_feed_143 fu (pS_feed_90 fu f) (nI n) a b c d e (nI i) c z else if nI i = 3 then pS_feed_143 fu (pS_feed_90 fu f) (nI n) a b c d e (nI i) d z else pS_feed_143 fu (pS_feed_90 fu f) (nI n) a b c d e (nI i) e z) = pS_feed_143 fu (pS_feed_90 fu f) (nI n) a b c d e (nI i) (by5 a b c d e i) z := by
      rcases (show i = 0 ∨ i = 1 ∨ i = 2 ∨ i = 3 ∨ i = 4 by omega) with rfl | rfl | rfl | rfl | rfl
      · rw [if_pos (by decide)]; rfl
      · rw [if_neg (by decide), if_pos (by decide)]; rfl
      · rw [if_neg (by decide), if_neg (by decide), if_pos (by decide)]; rfl
      · rw [if_neg (by decide), if_neg (by decide), if_neg (by decide), if_pos (by decide)]; rfl
      · rw [if_neg (by decide), if_neg (by decide), if_neg (by decide), if_neg (by decide)]; rfl
    rw [pS_feed_90, if_neg (nI_ge (by omega) (by omega)), hif, h143]
    refine ih (i + 1) f _ (by omega) (by omega) (by rw [pv_u2, if_pos ⟨rfl, rfl⟩]) (fun j hj => ?_) (fun q j h6 h7 => ?_)
    · rw [pv_u2, if_neg (by omega)]
      by_cases e1 : j = i
      · rw [e1, pv_u2, if_pos ⟨rfl, rfl⟩]
      · rw [pv_u2, if_neg (by omega)]; exact h4 j (by omega)
    · rw [pv_u2, if_neg h6, pv_u2, if_neg (by omega)]; exact h5 q j h6 h7
theorem fdMr_loop {fu n ts : Nat} {y : Sg} (a b c d e : Int32) (hn : n ≤ 5) (hts : ts + n ≤ 160) : ∀ k i f z, i + k = n → k < f → z 78 6 = nI (ts + i) → (∀ j, j < i → z 83 (ts + j) = by5 a b c d e j) → (∀ q j, ¬ (q = 78 ∧ j = 6) → ¬ (q = 83 ∧ ts ≤ j) → z q j = y q j) → ∃ Z, pM_feed_68 fu f (nI n) a b c d e (nI i) z = some (nI (ts + n), Z) ∧ Z 78 6 = nI (ts + n) ∧ (∀ j, j < n → Z 83 (ts + j) = by5 a b c d e j) ∧ (∀ q j, ¬ (q = 78 ∧ j = 6) → ¬ (q = 83 ∧ ts ≤ j) → Z q j = y q j) := by
  intro k
  induction k with
  | zero =>
    intro i f z h1 h2 h3 h4 h5
    obtain ⟨f, rfl⟩ := fuS h2
    rw [pM_feed_68, if_pos (nI_le (by omega) (by omega)), h3, show i = n by omega]
    exact ⟨z, rfl, by rw [h3, show i = n by omega], fun j hj => h4 j (by omega), h5⟩
  | succ k ih =>
    intro i f z h1 h2 h3 h4 h5
    obtain ⟨f, rfl⟩ := fuS h2
    have h143 : ∀ v, pM_feed_125 fu (pM_feed_68 fu f) (nI n) a b c d e (nI i) (z 78 6) v z = pM_feed_68 fu f (nI n) a b c d e (nI (i + 1)) (u2 (u2 z 83 (ts + i) v) 78 6 (nI (ts + (i + 1)))) := fun v => by
      unfold pM_feed_125
      rw [h3, pv_inb (by omega) (by omega), pv_chk, pv_letm, pv_letm, pv_letm, pv_sa (by omega), pv_u2 z 83, if_neg (by omega), h3, nI_1, nI_1]
      rfl
    have hif : (if nI i = 0 then pM_feed_125 fu (pM_feed_68 fu f) (nI n) a b c d e (nI i) (z 78 6) a z else if nI i = 1 then pM_feed_125 fu (pM_feed_68 fu f) (nI n) a b c d e (nI i) (z 78 6) b z else if nI i = 2 then pM_feed_125 fu (pM_feed_68 fu f) (nI n) a b c d e (nI i) (z 78 6) c z else if nI i = 3 then pM_feed_125 fu (pM_feed_68 fu f) (nI n) a b c d e (nI i) (z 78 6) d z else pM_feed_125 fu (pM_feed_68 fu f) (nI n) a b c d e (nI i) (z 78 6) e z) = pM_feed_125 fu (pM_feed_68 fu f) (nI n) a b c d e (nI i) (z 78 6) (by5 a b c d e i) z := by
      rcases (show i = 0 ∨ i = 1 ∨ i = 2 ∨ i = 3 ∨ i = 4 by omega) with rfl | rfl | rfl | rfl | rfl
      · rw [if_pos (by decide)]; rfl
      · rw [if_neg (by decide), if_pos (by decide)]; rfl
      · rw [if_neg (by decide), if_neg (by decide), if_pos (by decide)]; rfl
      · rw [if_neg (by decide), if_neg (by decide), if_neg (by decide), if_pos (by decide)]; rfl
      · rw [if_neg (by decide), if_neg (by decide), if_neg (by decide), if_neg (by decide)]; rfl
    rw [pM_feed_68, if_neg (nI_ge (by omega) (by omega)), hif, h143]
    refine ih (i + 1) f _ (by omega) (by omega) (by rw [pv_u2, if_pos ⟨rfl, rfl⟩]) (fun j hj => ?_) (fun q j h6 h7 => ?_)
    · rw [pv_u2, if_neg (by omega)]
      by_cases e1 : j = i
      · rw [e1, pv_u2, if_pos ⟨rfl, rfl⟩]
      · rw [pv_u2, if_neg (by omega)]; exact h4 j (by omega)
    · rw [pv_u2, if_neg h6, pv_u2, if_neg (by omega)]; exact h5 q j h6 h7
theorem st_feed {fu : Nat} (hf : 50000 ≤ fu) (z : Sg) (a1 a2 a3 a4 a5 a6 : Int32) (h : Inv z) : ∃ (r : Int32) (z1 z2 : Sg), pS_feed fu a1 a2 a3 a4 a5 a6 z = some (r, z1) ∧ pM_feed fu a1 a2 a3 a4 a5 a6 z1 = some (r, z2) ∧ Inv z2 := by
  obtain ⟨n, lw, tc, ts, F, K, C, E, h⟩ := h
  have hI : Inv z := ⟨n, lw, tc, ts, F, K, C, E, h⟩
  have by0 : ∀ v, (∀ fu z, pM_in fu v 0 255 z = some (0, z)) → ∀ w, pM_isByte fu v w = some (0, w) := fun v hv w => by
    unfold pM_isByte; rw [hv, pv_bnd]; rfl
  have by1 : ∀ v, (∀ fu z, pM_in fu v 0 255 z = some (1, z)) → ∀ w, pM_isByte fu v w = some (1, w) := fun v hv w => by
    unfold pM_isByte; rw [hv, pv_bnd]; rfl
  unfold pS_feed pM_feed
  rcases in_cases (A := 1) (M := 5) (a := 1) (k := 5) rfl rfl (by omega) (by omega) a1 with ⟨c1, hx⟩ | ⟨j, hj1, hj5, rfl, hx1, hx2, c1⟩
  · refine ⟨-2, z, z, ?_, by rw [c1, pv_bnd, if_pos rfl], hI⟩
    by_cases q : a1 < 1
    · rw [if_pos q]
    · rw [if_neg q]
      by_cases q2 : a1 ≤ 5
      · rcases hx with hx | hx
        · exact absurd hx q
        · rw [Int32.lt_iff_toInt_lt] at hx
          rw [Int32.le_iff_toInt_le] at q2
          omega
      · rw [if_neg q2]
  · rw [if_neg hx1, if_pos (show nI j ≤ 5 from by rw [l_5, pv_le (by omega) (by omega)]; omega)]
    simp only [c1, pv_bnd]
    simp only [show ((1 : Int32) = 0) = False from by decide, if_false]
    rcases wi_cases (M := 255) (k := 255) rfl (by omega) a2 with ⟨p1, p2⟩ | ⟨x2, hx2', rfl, p1, p2⟩
    · exact ⟨-2, z, z, by rw [p1, pv_bnd, if_pos rfl], by rw [by0 _ p2, pv_bnd, if_pos rfl], hI⟩
    · rw [p1, pv_bnd]
      simp only [by1 _ p2, pv_bnd, show ((1 : Int32) = 0) = False from by decide, if_false]
      rcases wi_cases (M := 255) (k := 255) rfl (by omega) a3 with ⟨p3, p4⟩ | ⟨x3, hx3', rfl, p3, p4⟩
      · exact ⟨-2, z, z, by rw [p3, pv_bnd, if_pos rfl], by rw [by0 _ p4, pv_bnd, if_pos rfl], hI⟩
      · rw [p3, pv_bnd]
        simp only [by1 _ p4, pv_bnd, show ((1 : Int32) = 0) = False from by decide, if_false]
        rcases wi_cases (M := 255) (k := 255) rfl (by omega) a4 with ⟨p5, p6⟩ | ⟨x4, hx4', rfl, p5, p6⟩
        · exact ⟨-2, z, z, by rw [p5, pv_bnd, if_pos rfl], by rw [by0 _ p6, pv_bnd, if_pos rfl], hI⟩
        · rw [p5, pv_bnd]
          simp only [by1 _ p6, pv_bnd, show ((1 : Int32) = 0) = False from by decide, if_false]
          rcases wi_cases (M := 255) (k := 255) rfl (by omega) a5 with ⟨p7, p8⟩ | ⟨x5, hx5', rfl, p7, p8⟩
          · exact ⟨-2, z, z, by rw [p7, pv_bnd, if_pos rfl], by rw [by0 _ p8, pv_bnd, if_pos rfl], hI⟩
          · rw [p7, pv_bnd]
            simp only [by1 _ p8, pv_bnd, show ((1 : Int32) = 0) = False from by decide, if_false]
            rcases wi_cases (M := 255) (k := 255) rfl (by omega) a6 with ⟨p9, p10⟩ | ⟨x6, hx6', rfl, p9, p10⟩
            · exact ⟨-2, z, z, by rw [p9, pv_bnd, if_pos rfl], by rw [by0 _ p10, pv_bnd, if_pos rfl], hI⟩
            · rw [p9, pv_bnd]
              simp only [by1 _ p10, pv_bnd, show ((1 : Int32) = 0) = False from by decide, if_false]
              obtain ⟨b1, b2, b3, b4⟩ := h.2.2.1
              rw [b2, nI_add]
              by_cases hfull : ts + j ≤ 160
              · rw [if_pos (show nI (ts + j) ≤ 160 from by rw [l_160, pv_le (by omega) (by omega)]; exact hfull)]
                obtain ⟨Z, y1, y2, y3, y4⟩ := fdC_loop (fu := fu) (y := z) (nI x2) (nI x3) (nI x4) (nI x5) (nI x6) hj5 hfull j 0 fu z (by omega) (by omega) b2 (fun i hi => absurd hi (by omega)) (fun _ _ _ _ => rfl)
                have z6 : Z 78 6 = nI ts := by rw [y4 78 6 (by omega) (by omega)]; exact b3
                obtain ⟨Y, w1, w2, w3, w4⟩ := fdMr_loop (fu := fu) (y := Z) (nI x2) (nI x3) (nI x4) (nI x5) (nI x6) hj5 hfull j 0 fu Z (by omega) (by omega) z6 (fun i hi => absurd hi (by omega)) (fun _ _ _ _ => rfl)
                have eY : ∀ c i, ¬ (c = 3 ∧ i = 1) → ¬ (c = 4 ∧ ts ≤ i) → ¬ (c = 78 ∧ i = 6) → ¬ (c = 83 ∧ ts ≤ i) → Y c i = z c i := fun c i q1 q2 q3 q4 => by rw [w4 c i q3 q4]; exact y4 c i q1 q2
                refine ⟨nI (ts + j), Z, Y, y1, ?_, n, lw, tc, ts + j, F, K, C, E, h.1.at (fun c i hc => eY c i (by omega) (by omega) (by omega) (by omega)), h.2.1.at (fun c i hc => eY c i (by omega) (by omega) (by omega) (by omega)), ⟨hfull, ?_, w2, fun i hi => ?_⟩, h.2.2.2.1.at (fun c i hc => eY c i (by omega) (by omega) (by omega) (by omega)), h.2.2.2.2.1.at (fun c i hc => eY c i (by omega) (by omega) (by omega) (by omega)), h.2.2.2.2.2.at (fun c i hc => eY c i (by omega) (by omega) (by omega) (by omega))⟩
                · rw [z6, nI_add, if_pos (show nI (ts + j) ≤ 160 from by rw [l_160, pv_le (by omega) (by omega)]; exact hfull)]
                  exact w1
                · rw [w4 3 1 (by omega) (by omega)]; exact y2
                · by_cases q : i < ts
                  · rw [eY 83 i (by omega) (by omega) (by omega) (by omega), eY 4 i (by omega) (by omega) (by omega) (by omega)]; exact b4 i q
                  · obtain ⟨i, rfl⟩ : ∃ k, i = ts + k := ⟨i - ts, by omega⟩
                    rw [w3 i (by omega), w4 4 _ (by omega) (by omega), y3 i (by omega)]
                    refine ⟨rfl, ?_⟩
                    unfold by5
                    (repeat' split) <;> exact ⟨_, by omega, rfl⟩
              · rw [if_neg (show ¬ nI (ts + j) ≤ 160 from by rw [l_160, pv_le (by omega) (by omega)]; exact hfull)]
                exact ⟨-4, z, z, rfl, by rw [b3, nI_add, if_neg (show ¬ nI (ts + j) ≤ 160 from by rw [l_160, pv_le (by omega) (by omega)]; exact hfull)], hI⟩
/-! SHEETS -/
theorem remC_loop {fu b : Nat} {y : Sg} : ∀ k i f z, i + k = 40 → k < f → (∀ j, j < i → z (b + 1) j = 0) → (∀ c j, c ≠ b + 1 → z c j = y c j) → ∃ Z, pH_remake_12 fu b f (nI i) z = some Z ∧ (∀ j, j < 40 → Z (b + 1) j = 0) ∧ (∀ c j, c ≠ b + 1 → Z c j = y c j) := by
  intro k
  induction k with
  | zero =>
    intro i f z h1 h2 h3 h4
    obtain ⟨f, rfl⟩ := fuS h2
    rw [pH_remake_12, if_pos (show (40 : Int32) ≤ nI i from by rw [l_40, pv_le (by omega) (by omega)]; omega)]
    exact ⟨z, rfl, fun j hj => h3 j (by omega), h4⟩
  | succ k ih =>
    intro i f z h1 h2 h3 h4
    obtain ⟨f, rfl⟩ := fuS h2
    rw [pH_remake_12, if_neg (show ¬ (40 : Int32) ≤ nI i from by rw [l_40, pv_le (by omega) (by omega)]; omega), pv_inb (by omega) (by omega), pv_chk, pv_letm, pv_letm, pv_sa (by omega), nI_1]
    refine ih (i + 1) f _ (by omega) (by omega) (fun j hj => ?_) (fun c j hc => by rw [pv_u2, if_neg (by omega)]; exact h4 c j hc)
    by_cases e : j = i
    · rw [e, pv_u2, if_pos ⟨rfl, rfl⟩]
    · rw [pv_u2, if_neg (by omega)]; exact h3 j (by omega)
theorem remC {fu b : Nat} (hf : 100 ≤ fu) (v w : Int32) (z : Sg) : ∃ Z, pH_remake fu b v w z = some Z ∧ Z b 1 = v ∧ Z b 2 = w ∧ (∀ j, j < 40 → Z (b + 1) j = 0) ∧ ∀ c j, c ≠ b → c ≠ b + 1 → Z c j = z c j := by
  obtain ⟨Z, h1, h2, h3⟩ := remC_loop (fu := fu) (b := b) (y := u2 (u2 z b 1 v) b 2 w) 40 0 fu (u2 (u2 z b 1 v) b 2 w) (by omega) (by omega) (fun j hj => absurd hj (by omega)) (fun _ _ _ => rfl)
  unfold pH_remake
  rw [pv_letm, pv_letm]
  refine ⟨Z, h1, ?_, ?_, h2, fun c j c1 c2 => ?_⟩
  · rw [h3 _ _ (by omega), pv_u2, if_neg (by omega), pv_u2, if_pos ⟨rfl, rfl⟩]
  · rw [h3 _ _ (by omega), pv_u2, if_pos ⟨rfl, rfl⟩]
  · rw [h3 _ _ c2, pv_u2, if_neg (by omega), pv_u2, if_neg (by omega)]
theorem shMr_loop {fu s : Nat} (hs : s < 4) {y : Sg} : ∀ k i f z, i + k = 40 → k < f → (∀ j, j < i → z 90 (40 * s + j) = 0) → (∀ c j, ¬ (c = 90 ∧ 40 * s ≤ j ∧ j < 40 * s + 40) → z c j = y c j) → ∃ Z, pM_sheet_70 fu f (nI s) (nI i) z = some (1, Z) ∧ (∀ j, j < 40 → Z 90 (40 * s + j) = 0) ∧ (∀ c j, ¬ (c = 90 ∧ 40 * s ≤ j ∧ j < 40 * s + 40) → Z c j = y c j) := by
  intro k
  induction k with
  | zero =>
    intro i f z h1 h2 h3 h4
    obtain ⟨f, rfl⟩ := fuS h2
    rw [pM_sheet_70, if_pos (show (40 : Int32) ≤ nI i from by rw [l_40, pv_le (by omega) (by omega)]; omega)]
    exact ⟨z, rfl, fun j hj => h3 j (by omega), h4⟩
  | succ k ih =>
    intro i f z h1 h2 h3 h4
    obtain ⟨f, rfl⟩ := fuS h2
    rw [pM_sheet_70, if_neg (show ¬ (40 : Int32) ≤ nI i from by rw [l_40, pv_le (by omega) (by omega)]; omega), l_40, pk_mul, nI_add, pv_inb (by omega) (by omega), pv_chk, pv_letm, pv_letm, pv_sa (by omega), nI_1]
    refine ih (i + 1) f _ (by omega) (by omega) (fun j hj => ?_) (fun c j hc => by rw [pv_u2, if_neg (by omega)]; exact h4 c j hc)
    by_cases e : j = i
    · rw [e, pv_u2, if_pos ⟨rfl, rfl⟩]
    · rw [pv_u2, if_neg (by omega)]; exact h3 j (by omega)
/-- a sheet is made anew, in both; what else counts stands -/
theorem InvP.sheet {z Z : Sg} {n lw tc ts s k : Nat} {F : Nat → Nat → Int32} {K : Nat → Int32} {C E : Nat → Nat → Nat} (h : InvP z n lw tc ts F K C E) (hs : s < 4) (hn : iH1 Z s k) (e : ∀ c j, ¬ QC c j → ¬ QM c j → c ≠ 70 + 2 * s → c ≠ 71 + 2 * s → ¬ ((c = 88 ∨ c = 89) ∧ j = s) → ¬ (c = 90 ∧ 40 * s ≤ j ∧ j < 40 * s + 40) → Z c j = z c j) : Inv Z := by
  have e' : ∀ c j, ¬ ((c = 9 ∧ j = 6) ∨ (17 ≤ c ∧ c ≤ 30) ∨ (5 ≤ c ∧ c ≤ 8) ∨ (42 ≤ c ∧ c < 70 ∧ c % 4 = 1) ∨ (c = 78 ∧ ((18 ≤ j ∧ j ≤ 21) ∨ (24 ≤ j ∧ j ≤ 26) ∨ 32 ≤ j)) ∨ (93 ≤ c ∧ c ≤ 98) ∨ c = 70 + 2 * s ∨ c = 71 + 2 * s ∨ ((c = 88 ∨ c = 89) ∧ j = s) ∨ (c = 90 ∧ 40 * s ≤ j ∧ j < 40 * s + 40)) → Z c j = z c j := fun c j hc => e c j (fun q => hc (by unfold QC ST at q; omega)) (fun q => hc (by unfold QM at q; omega)) (by omega) (by omega) (by omega) (by omega)
  obtain ⟨h1, h2, h3, h4, h5, h6⟩ := h
  refine ⟨n, lw, tc, ts, F, K, C, E, h1.at (fun c j hc => e' c j (by omega)), h2.at (fun c j hc => e' c j (by omega)), h3.at (fun c j hc => e' c j (by omega)), h4.at (fun c j hc => e' c j (by omega)), fun t ht => ?_, h6.at (fun c j hc => e' c j (by omega))⟩
  by_cases q : t = s
  · subst q; exact ⟨k, hn⟩
  · obtain ⟨k', hk'⟩ := h5 t ht
    exact ⟨k', hk'.at ht (fun c j hc => e' c j (by omega))⟩
theorem st_sheet {fu : Nat} (hf : 50000 ≤ fu) (z : Sg) (a1 a2 a3 : Int32) (h : Inv z) : ∃ (r : Int32) (z1 z2 : Sg), pS_sheet fu a1 a2 a3 z = some (r, z1) ∧ pM_sheet fu a1 a2 a3 z1 = some (r, z2) ∧ Inv z2 := by
  obtain ⟨n, lw, tc, ts, F, K, C, E, h⟩ := h
  have hI : Inv z := ⟨n, lw, tc, ts, F, K, C, E, h⟩
  unfold pS_sheet pM_sheet
  rcases wi_cases (M := 3) (k := 3) rfl (by omega) a1 with ⟨c1, c2⟩ | ⟨s, hs, rfl, c1, c2⟩
  · exact ⟨-2, z, z, by rw [c1, pv_bnd, if_pos rfl], by rw [c2, pv_bnd, if_pos rfl], hI⟩
  · rw [c1, pv_bnd, if_neg (by decide)]
    simp only [c2, pv_bnd, show ((1 : Int32) = 0) = False from by decide, if_false]
    have done : ∀ (v : Int32) (k : Nat), k ≤ 40 → (v = -1 ∨ bI 3 v) → ∃ Z Y, pH_remake fu (70 + 2 * (nI s).toNatClampNeg) v (nI k) z = some Z ∧ (∀ y, (y = Z → pM_sheet_66 fu (nI s) (nI s) (nI k) (u2 y 88 s v) = some (1, Y))) ∧ Inv Y := by
      intro v k hk hv
      obtain ⟨Z, z1, z2, z3, z4, z5⟩ := remC (fu := fu) (b := 70 + 2 * s) (by omega) v (nI k) z
      obtain ⟨Y, y1, y2, y3⟩ := shMr_loop (fu := fu) (s := s) (by omega) (y := u2 (u2 Z 88 s v) 89 s (nI k)) 40 0 fu (u2 (u2 Z 88 s v) 89 s (nI k)) (by omega) (by omega) (fun j hj => absurd hj (by omega)) (fun _ _ _ => rfl)
      have y88 : Y 88 s = v := by rw [y3 _ _ (by omega), pv_u2, if_neg (by omega), pv_u2, if_pos ⟨rfl, rfl⟩]
      have yZ : ∀ c j, c < 78 → Y c j = Z c j := fun c j hc => by rw [y3 _ _ (by omega), pv_u2, if_neg (by omega), pv_u2, if_neg (by omega)]
      refine ⟨Z, Y, by rw [pv_clamp (by omega)]; exact z1, fun y hy => ?_, h.sheet (s := s) (k := k) (by omega) ⟨hk, ?_, ?_, ?_, ?_, fun j hj => ?_⟩ (fun c j q1 q2 q3 q4 q5 q6 => ?_)⟩
      · rw [hy]
        unfold pM_sheet_66
        rw [pv_inb (by omega) (by omega), pv_chk, pv_letm, pv_sa (by omega)]
        exact y1
      · rw [yZ _ _ (by omega)]; exact z3
      · rw [y3 _ _ (by omega), pv_u2, if_pos ⟨rfl, rfl⟩]
      · rw [y88, yZ _ _ (by omega)]; exact z2.symm
      · rw [y88]; exact hv
      · rw [y2 j hj, yZ _ _ (by omega), show 71 + 2 * s = 70 + 2 * s + 1 by omega]; exact (z4 j hj).symm
      · rw [y3 _ _ q6, pv_u2, if_neg (by omega), pv_u2, if_neg (by omega)]; exact z5 c j q3 (by omega)
    have m1 : (-1 : Int32).toInt = -1 := by decide
    have t2 : (2 : Int32).toInt = 2 := by decide
    by_cases q1 : a2 < -1
    · refine ⟨-2, z, z, by rw [if_pos q1], ?_, hI⟩
      unfold pM_in
      rw [if_pos q1, pv_bnd, if_pos rfl]
    · by_cases q2 : a2 ≤ 2
      · have hin : ∀ w, pM_in fu a2 (-1) 2 w = some (1, w) := fun w => by
          unfold pM_in
          rw [if_neg q1, if_neg (fun q => by rw [Int32.lt_iff_toInt_lt] at q; rw [Int32.le_iff_toInt_le] at q2; omega)]
        rw [if_neg q1, if_pos q2]
        simp only [hin, pv_bnd, show ((1 : Int32) = 0) = False from by decide, if_false]
        by_cases q3 : a2 = -1
        · obtain ⟨Z, Y, d1, d2, d3⟩ := done (-1) 0 (by omega) (Or.inl rfl)
          rw [if_pos q3, pv_inb (by omega) (by omega), pv_chk, show (pH_remake fu (70 + 2 * (nI s).toNatClampNeg) (-1) 0 z) = some Z from d1, pv_bndv]
          refine ⟨1, Z, Y, rfl, ?_, d3⟩
          rw [if_pos q3]
          unfold pM_sheet_32 pM_sheet_44
          rw [if_pos q3, pv_inb (by omega) (by omega), pv_chk, pv_letm, if_pos q3, pv_sa (by omega), q3]
          exact d2 Z rfl
        · have hv : bI 3 a2 := by
            obtain ⟨j, j1, j2⟩ := nI_of2 (M := 2) (n := 2) (by decide) (fun q => by
              rw [Int32.lt_iff_toInt_lt] at q q1
              have z0 : (0 : Int32).toInt = 0 := by decide
              exact q3 (Int32.toInt_inj.mp (by omega))) q2
            exact ⟨j, by omega, j2⟩
          rw [if_neg q3]
          by_cases q4 : a3 ≤ 40
          · rw [if_pos q4]
            by_cases q5 : 0 ≤ a3
            · obtain ⟨k, hk, rfl⟩ := nI_of2 (M := 40) (n := 40) (by decide) (fun q => by
                rw [Int32.lt_iff_toInt_lt] at q; rw [Int32.le_iff_toInt_le] at q5; omega) q4
              obtain ⟨Z, Y, d1, d2, d3⟩ := done a2 k hk (Or.inr hv)
              rw [if_pos q5, pv_inb (by omega) (by omega), pv_chk, d1, pv_bndv]
              refine ⟨1, Z, Y, rfl, ?_, d3⟩
              rw [if_neg q3, if_pos q4]
              unfold pM_sheet_32 pM_sheet_44
              rw [if_neg q3, if_pos q5, pv_inb (by omega) (by omega), pv_chk, pv_letm, if_neg q3, pv_sa (by omega)]
              exact d2 Z rfl
            · rw [if_neg q5]
              refine ⟨-14, z, z, rfl, ?_, hI⟩
              rw [if_neg q3, if_pos q4]
              unfold pM_sheet_32
              rw [if_neg q3, if_neg q5]
          · rw [if_neg q4]
            exact ⟨-2, z, z, rfl, by rw [if_neg q3, if_neg q4], hI⟩
      · refine ⟨-2, z, z, by rw [if_neg q1, if_neg q2], ?_, hI⟩
        unfold pM_in
        rw [if_neg q1, if_pos (by rw [Int32.lt_iff_toInt_lt]; rw [Int32.le_iff_toInt_le] at q2; omega), pv_bnd, if_pos rfl]
