theorem mis_cases {z : Sg} {s k fu : Nat} (hs : s < 4) (h : iH1 z s k) : (pH_isMissing fu (70 + 2 * (nI s).toNatClampNeg) z = some (1, z) ∧ z 88 s = -1) ∨ (pH_isMissing fu (70 + 2 * (nI s).toNatClampNeg) z = some (0, z) ∧ z 88 s ≠ -1 ∧ bI 3 (z 88 s)) := by
  obtain ⟨h1, h2, h3, h4, h5, h6⟩ := h
  unfold pH_isMissing
  rw [pv_clamp (by omega), ← h4]
  rcases h5 with h5 | ⟨j, hj, e⟩
  · exact Or.inl ⟨by rw [h5, if_neg (by decide)], h5⟩
  · exact Or.inr ⟨by rw [e, if_pos (nI_pos' (by omega))], by rw [e]; exact fun q => (pv_neg1 (by omega)).mp q, j, hj, e⟩
/-- an index below a size, or not -/
theorem ix_cases {k : Nat} (hk : k ≤ 40) (v : Int32) : ((∀ fu z, pS_within fu v (nI k - 1) z = some (0, z)) ∧ ∀ fu z, pM_in fu v 0 (nI k - 1) z = some (0, z)) ∨ ∃ j, j < k ∧ v = nI j ∧ (∀ fu z, pS_within fu v (nI k - 1) z = some (1, z)) ∧ ∀ fu z, pM_in fu v 0 (nI k - 1) z = some (1, z) := by
  by_cases h0 : k = 0
  · subst h0
    have key : ∀ fu z, pM_in fu v 0 (nI 0 - 1) z = some (0, z) := fun fu z => by
      unfold pM_in
      by_cases q : v < 0
      · rw [if_pos q]
      · rw [if_neg q, if_pos (by
          rw [Int32.lt_iff_toInt_lt] at q ⊢
          have z0 : (0 : Int32).toInt = 0 := by decide
          have z1 : (nI 0 - 1).toInt = -1 := by decide
          omega)]
    exact Or.inl ⟨key, key⟩
  · obtain ⟨q, rfl⟩ : ∃ q, k = q + 1 := ⟨k - 1, by omega⟩
    rw [nI_pred]
    rcases wi_cases (M := nI q) (k := q) rfl (by omega) v with ⟨c1, c2⟩ | ⟨j, hj, e, c1, c2⟩
    · exact Or.inl ⟨c1, c2⟩
    · exact Or.inr ⟨j, by omega, e, c1, c2⟩
theorem st_cell {fu : Nat} (hf : 50000 ≤ fu) (z : Sg) (a1 a2 a3 : Int32) (h : Inv z) : ∃ (r : Int32) (z1 z2 : Sg), pS_cell fu a1 a2 a3 z = some (r, z1) ∧ pM_cell fu a1 a2 a3 z1 = some (r, z2) ∧ Inv z2 := by
  obtain ⟨n, lw, tc, ts, F, K, C, E, h⟩ := h
  have hI : Inv z := ⟨n, lw, tc, ts, F, K, C, E, h⟩
  unfold pS_cell pM_cell
  rcases wi_cases (M := 3) (k := 3) rfl (by omega) a1 with ⟨c1, c2⟩ | ⟨s, hs, rfl, c1, c2⟩
  · exact ⟨-2, z, z, by rw [c1, pv_bnd, if_pos rfl], by rw [c2, pv_bnd, if_pos rfl], hI⟩
  · obtain ⟨k, hk⟩ := h.2.2.2.2.1 s (by omega)
    rw [c1, pv_bnd, if_neg (by decide), pv_inb (by omega) (by omega), pv_chk]
    simp only [c2, pv_bnd, show ((1 : Int32) = 0) = False from by decide, if_false, pv_chk, pv_ga (show s < 2147483648 by omega)]
    rcases mis_cases (fu := fu) (by omega) hk with ⟨m1, m2⟩ | ⟨m1, m2, m3⟩
    · exact ⟨-11, z, z, by rw [m1, pv_bnd, if_neg (by decide)], by rw [if_pos m2], hI⟩
    · rw [m1, pv_bnd, if_pos rfl, pv_clamp (by omega), hk.2.1]
      rcases ix_cases hk.1 a2 with ⟨d1, d2⟩ | ⟨i, hi, rfl, d1, d2⟩
      · exact ⟨-12, z, z, by rw [d1, pv_bnd, if_pos rfl], by rw [if_neg m2, hk.2.2.1, d2, pv_bnd, if_pos rfl], hI⟩
      · rw [d1, pv_bnd, if_neg (by decide)]
        have hi40 : i < 40 := by have := hk.1; omega
        have fin : ∀ v, Inv (u2 (u2 z (71 + 2 * s) i v) 90 (40 * s + i) v) := fun v => by
          refine h.sheet (s := s) (k := k) (by omega) ⟨hk.1, ?_, ?_, ?_, ?_, fun j hj => ?_⟩ (fun c j q1 q2 q3 q4 q5 q6 => ?_)
          · rw [pv_u2, if_neg (by omega), pv_u2, if_neg (by omega)]; exact hk.2.1
          · rw [pv_u2, if_neg (by omega), pv_u2, if_neg (by omega)]; exact hk.2.2.1
          · rw [pv_u2, if_neg (by omega), pv_u2, if_neg (by omega), pv_u2, if_neg (by omega), pv_u2, if_neg (by omega)]; exact hk.2.2.2.1
          · rw [pv_u2, if_neg (by omega), pv_u2, if_neg (by omega)]; exact hk.2.2.2.2.1
          · by_cases e : j = i
            · rw [e, pv_u2, if_pos ⟨rfl, rfl⟩, pv_u2, if_neg (by omega), pv_u2, if_pos ⟨rfl, rfl⟩]
            · rw [pv_u2, if_neg (by omega), pv_u2, if_neg (by omega), pv_u2, if_neg (by omega), pv_u2, if_neg (by omega)]; exact hk.2.2.2.2.2 j hj
          · rw [pv_u2, if_neg (by omega), pv_u2, if_neg (by omega)]
        have e88 : ∀ v, (u2 z (71 + 2 * s) i v) 88 s = z 88 s := fun v => by rw [pv_u2, if_neg (by omega)]
        have e89 : ∀ v, (u2 z (71 + 2 * s) i v) 89 s = nI k := fun v => by rw [pv_u2, if_neg (by omega)]; exact hk.2.2.1
        have mr : ∀ v, pM_cell_84 fu (40 * nI s + nI i) v (u2 z (71 + 2 * s) i v) = some (1, u2 (u2 z (71 + 2 * s) i v) 90 (40 * s + i) v) := fun v => by
          unfold pM_cell_84
          rw [l_40, pk_mul, nI_add, pv_inb (by omega) (by omega), pv_chk, pv_letm, pv_sa (by omega)]
        have cr : ∀ v, pH_write_31 fu (70 + 2 * s) (nI i) v z = some (u2 z (71 + 2 * s) i v) := fun v => by
          unfold pH_write_31
          rw [pv_inb (by omega) (by omega), pv_chk, pv_letm, pv_sa (by omega), show 70 + 2 * s + 1 = 71 + 2 * s by omega]
        unfold pH_write
        rw [← hk.2.2.2.1, cr, cr, cr]
        by_cases s0 : z 88 s = 0
        · rw [if_pos s0, pv_bndv]
          exact ⟨1, _, _, rfl, by rw [e88, if_neg m2, e89, d2, pv_bnd, if_neg (by decide), e88, if_pos s0, mr], fin _⟩
        · rw [if_neg s0]
          by_cases s1 : z 88 s = 1
          · rw [if_pos s1, pv_bndv]
            exact ⟨1, _, _, rfl, by rw [e88, if_neg m2, e89, d2, pv_bnd, if_neg (by decide), e88, if_neg s0, if_pos s1, mr], fin _⟩
          · rw [if_neg s1, pv_bndv]
            exact ⟨1, _, _, rfl, by rw [e88, if_neg m2, e89, d2, pv_bnd, if_neg (by decide), e88, if_neg s0, if_neg s1, mr], fin _⟩
/-- what a sheet holds from a place on -/
theorem hol_cases {fu b k : Nat} {z : Sg} (hk : k ≤ 40) (hz : z b 2 = nI k) (i : Int32) (n : Nat) (hn : n < 2147483648) : (pH_holds fu b i (nI n) z = some (0, z) ∧ (i < 0 ∨ nI k < i ∨ (¬ i < 0 ∧ ¬ nI k < i ∧ nI k - i < nI n))) ∨ ∃ x, x + n ≤ k ∧ i = nI x ∧ pH_holds fu b i (nI n) z = some (1, z) ∧ ¬ i < 0 ∧ ¬ nI k < i ∧ ¬ nI k - i < nI n := by
  unfold pH_holds
  rw [hz]
  by_cases h1 : i < 0
  · exact Or.inl ⟨by rw [if_pos h1], Or.inl h1⟩
  · rw [if_neg h1]
    by_cases h2 : nI k < i
    · exact Or.inl ⟨by rw [if_pos h2], Or.inr (Or.inl h2)⟩
    · rw [if_neg h2]
      by_cases h3 : nI k - i < nI n
      · exact Or.inl ⟨by rw [if_pos h3], Or.inr (Or.inr ⟨h1, h2, h3⟩)⟩
      · rw [if_neg h3]
        obtain ⟨x, hx, rfl⟩ := nI_of h1
        rw [pv_lt (by omega) (by omega)] at h2
        rw [pk_sub (by omega), pv_lt (by omega) (by omega)] at h3
        exact Or.inr ⟨x, by omega, rfl, rfl, h1, by rw [pv_lt (by omega) (by omega)]; exact h2, by rw [pk_sub (by omega), pv_lt (by omega) (by omega)]; exact h3⟩
theorem cpMr_loop {fu n a b : Nat} (ha : a + n ≤ 160) (hb : b + n ≤ 160) {y : Sg} : ∀ k i f z, i + k = n → k < f → (∀ c j, ¬ (c = 90 ∧ b ≤ j ∧ j < b + n) → z c j = y c j) → (b ≤ a → ∀ j, j < n → z 90 (b + j) = if j < i then y 90 (a + j) else y 90 (b + j)) → (a < b → ∀ j, j < n → z 90 (b + j) = if n - i ≤ j then y 90 (a + j) else y 90 (b + j)) → ∃ Z, pM_copy_147 fu f (nI n) (nI a) (nI b) (nI i) z = some (nI n, Z) ∧ (∀ c j, ¬ (c = 90 ∧ b ≤ j ∧ j < b + n) → Z c j = y c j) ∧ ∀ j, j < n → Z 90 (b + j) = y 90 (a + j) := by
  intro k
  induction k with
  | zero =>
    intro i f z h1 h2 h3 h4 h5
    obtain ⟨f, rfl⟩ := fuS h2
    rw [pM_copy_147, if_pos (nI_le (by omega) (by omega))]
    refine ⟨z, rfl, h3, fun j hj => ?_⟩
    by_cases q : b ≤ a
    · rw [h4 q j hj, if_pos (by omega)]
    · rw [h5 (by omega) j hj, if_pos (by omega)]
  | succ k ih =>
    intro i f z h1 h2 h3 h4 h5
    obtain ⟨f, rfl⟩ := fuS h2
    have old : ∀ j, j < 160 → ¬ (b ≤ j ∧ j < b + n) → z 90 j = y 90 j := fun j _ hj => h3 90 j (by omega)
    have st : ∀ t, t < n → pM_copy_173 fu (pM_copy_147 fu f) (nI n) (nI a) (nI b) (nI i) (nI t) z = pM_copy_147 fu f (nI n) (nI a) (nI b) (nI (i + 1)) (u2 z 90 (b + t) (z 90 (a + t))) := fun t ht => by
      unfold pM_copy_173
      rw [nI_add, nI_add, pv_inb (by omega) (by omega), pv_chk, pv_inb (by omega) (by omega), pv_chk, pv_letm, pv_letm, pv_sa (by omega), pv_ga (by omega), nI_1]
    rw [pM_copy_147, if_neg (nI_ge (by omega) (by omega))]
    by_cases q : b ≤ a
    · rw [if_pos (nI_le q (by omega)), st i (by omega)]
      have rd : z 90 (a + i) = y 90 (a + i) := by
        by_cases w : a + i < b + n
        · have := h4 q (a + i - b) (by omega)
          rw [show b + (a + i - b) = a + i by omega, if_neg (by omega)] at this
          exact this
        · exact h3 90 _ (by omega)
      refine ih (i + 1) f _ (by omega) (by omega) (fun c j hc => by rw [pv_u2, if_neg (by omega)]; exact h3 c j hc) (fun _ j hj => ?_) (fun w => by omega)
      by_cases e : j = i
      · rw [e, pv_u2, if_pos ⟨rfl, rfl⟩, rd, if_pos (by omega)]
      · rw [pv_u2, if_neg (by omega), h4 q j hj]
        by_cases w : j < i
        · rw [if_pos w, if_pos (by omega)]
        · rw [if_neg w, if_neg (by omega)]
    · rw [if_neg (nI_ge (by omega) (by omega)), show nI n - 1 = nI (n - 1) from pk_sub (b := 1) (by omega), pk_sub (by omega), st (n - 1 - i) (by omega)]
      have rd : z 90 (a + (n - 1 - i)) = y 90 (a + (n - 1 - i)) := by
        by_cases w : b ≤ a + (n - 1 - i)
        · have := h5 (by omega) (a + (n - 1 - i) - b) (by omega)
          rw [show b + (a + (n - 1 - i) - b) = a + (n - 1 - i) by omega, if_neg (by omega)] at this
          exact this
        · exact h3 90 _ (by omega)
      refine ih (i + 1) f _ (by omega) (by omega) (fun c j hc => by rw [pv_u2, if_neg (by omega)]; exact h3 c j hc) (fun w => by omega) (fun w j hj => ?_)
      by_cases e : j = n - 1 - i
      · rw [e, pv_u2, if_pos ⟨rfl, rfl⟩, rd, if_pos (by omega)]
      · rw [pv_u2, if_neg (by omega), h5 w j hj]
        by_cases w2 : n - i ≤ j
        · rw [if_pos w2, if_pos (by omega)]
        · rw [if_neg w2, if_neg (by omega)]
theorem st_copy {fu : Nat} (hf : 50000 ≤ fu) (z : Sg) (a1 a2 a3 a4 a5 : Int32) (h : Inv z) : ∃ (r : Int32) (z1 z2 : Sg), pS_copy fu a1 a2 a3 a4 a5 z = some (r, z1) ∧ pM_copy fu a1 a2 a3 a4 a5 z1 = some (r, z2) ∧ Inv z2 := by
  obtain ⟨n, lw, tc, ts, F, K, C, E, h⟩ := h
  have hI : Inv z := ⟨n, lw, tc, ts, F, K, C, E, h⟩
  unfold pS_copy pM_copy
  rcases wi_cases (M := 3) (k := 3) rfl (by omega) a1 with ⟨c1, c2⟩ | ⟨s, hs, rfl, c1, c2⟩
  · exact ⟨-2, z, z, by rw [c1, pv_bnd, if_pos rfl], by rw [c2, pv_bnd, if_pos rfl], hI⟩
  · rcases wi_cases (M := 3) (k := 3) rfl (by omega) a3 with ⟨d1, d2⟩ | ⟨o, ho, rfl, d1, d2⟩
    · exact ⟨-2, z, z, by rw [c1, pv_bnd, if_neg (by decide), d1, pv_bnd, if_pos rfl], by rw [c2, pv_bnd, if_neg (by decide), d2, pv_bnd, if_pos rfl], hI⟩
    · obtain ⟨ks, hks⟩ := h.2.2.2.2.1 s (by omega)
      obtain ⟨ko, hko⟩ := h.2.2.2.2.1 o (by omega)
      rw [c1, pv_bnd, if_neg (by decide), d1, pv_bnd, if_neg (by decide), pv_inb (by omega) (by omega), pv_chk, pv_inb (by omega) (by omega), pv_chk]
      simp only [c2, d2, pv_bnd, show ((1 : Int32) = 0) = False from by decide, if_false, pv_chk, pv_inb (show s < 4 by omega) (show 4 < 2147483648 by omega), pv_inb (show o < 4 by omega) (show 4 < 2147483648 by omega), pv_ga (show s < 2147483648 by omega), pv_ga (show o < 2147483648 by omega)]
      rcases mis_cases (fu := fu) (by omega) hks with ⟨m1, m2⟩ | ⟨m1, m2, m3⟩
      · exact ⟨-11, z, z, by rw [m1, pv_bnd, if_neg (by decide)], by rw [if_pos m2], hI⟩
      · rw [m1, pv_bnd, if_pos rfl]
        rcases mis_cases (fu := fu) (by omega) hko with ⟨p1, p2⟩ | ⟨p1, p2, p3⟩
        · exact ⟨-11, z, z, by rw [p1, pv_bnd, if_neg (by decide)], by rw [if_neg m2, if_pos p2], hI⟩
        · rw [p1, pv_bnd, if_pos rfl, pv_clamp (by omega), pv_clamp (by omega), ← hks.2.2.2.1, ← hko.2.2.2.1]
          by_cases hso : z 88 s = z 88 o
          · rw [if_pos hso]
            by_cases n0 : a5 < 0
            · exact ⟨-12, z, z, by rw [if_pos n0], by rw [if_neg m2, if_neg p2, if_pos hso, if_pos n0], hI⟩
            · obtain ⟨N, hN, rfl⟩ := nI_of n0
              rw [if_neg n0]
              rcases hol_cases (fu := fu) hks.1 hks.2.1 a2 N hN with ⟨e1, e2⟩ | ⟨x, hx, rfl, e1, e2, e3, e4⟩
              · refine ⟨-12, z, z, by rw [e1, pv_bnd, if_pos rfl], ?_, hI⟩
                rw [if_neg m2, if_neg p2, if_pos hso, if_neg n0, hks.2.2.1, hko.2.2.1]
                by_cases w1 : a2 < 0
                · rw [if_pos w1]
                · rw [if_neg w1]
                  by_cases w2 : a4 < 0
                  · rw [if_pos w2]
                  · rw [if_neg w2]
                    rcases e2 with e2 | e2 | ⟨-, e2, e3⟩
                    · exact absurd e2 w1
                    · rw [if_pos e2]
                    · rw [if_neg e2]
                      by_cases w3 : nI ko < a4
                      · rw [if_pos w3]
                      · rw [if_neg w3, if_pos e3]
              · rw [e1, pv_bnd, if_neg (by decide)]
                rcases hol_cases (fu := fu) hko.1 hko.2.1 a4 N hN with ⟨g1, g2⟩ | ⟨y, hy, rfl, g1, g2, g3, g4⟩
                · refine ⟨-12, z, z, by rw [g1, pv_bnd, if_pos rfl], ?_, hI⟩
                  rw [if_neg m2, if_neg p2, if_pos hso, if_neg n0, if_neg e2, hks.2.2.1, hko.2.2.1]
                  rcases g2 with g2 | g2 | ⟨g2, g3, g4⟩
                  · rw [if_pos g2]
                  · by_cases w2 : a4 < 0
                    · rw [if_pos w2]
                    · rw [if_neg w2, if_neg e3, if_pos g2]
                  · rw [if_neg g2, if_neg e3, if_neg g3, if_neg e4, if_neg (by
                      rw [Int32.le_iff_toInt_le]; rw [Int32.lt_iff_toInt_lt] at g4; omega)]
                · rw [g1, pv_bnd, if_neg (by decide), pv_cpb (by have := hks.1; omega) (by have := hko.1; omega) (by omega) (by omega), pv_chk, pv_letm]
                  have hk1 := hks.1
                  have hk2 := hko.1
                  have hcp : ∀ c j, cpy z (70 + 2 * s + 1) (nI x) (70 + 2 * o + 1) (nI y) (nI N) c j = if c = 70 + 2 * o + 1 ∧ y ≤ j ∧ j < y + N then z (70 + 2 * s + 1) (x + (j - y)) else z c j := fun c j => pv_cpy (by omega) (by omega) (by omega) c j
                  generalize cpy z (70 + 2 * s + 1) (nI x) (70 + 2 * o + 1) (nI y) (nI N) = Z at hcp
                  have eZ : ∀ c j, 78 ≤ c → Z c j = z c j := fun c j hc => by rw [hcp, if_neg (by omega)]
                  obtain ⟨Y, y1, y2, y3⟩ := cpMr_loop (fu := fu) (n := N) (a := 40 * s + x) (b := 40 * o + y) (by omega) (by omega) (y := Z) N 0 fu Z (by omega) (by omega) (fun _ _ _ => rfl) (fun _ j _ => by rw [if_neg (by omega)]) (fun _ j hj => by rw [if_neg (by omega)])
                  refine ⟨nI N, Z, Y, rfl, ?_, h.sheet (s := o) (k := ko) (by omega) ⟨hk2, ?_, ?_, ?_, ?_, fun j hj => ?_⟩ (fun c j q1 q2 q3 q4 q5 q6 => ?_)⟩
                  · rw [eZ 88 s (by omega), eZ 88 o (by omega), if_neg m2, if_neg p2, if_pos hso, if_neg n0, if_neg e2, if_neg g2, eZ 89 s (by omega), eZ 89 o (by omega), hks.2.2.1, hko.2.2.1, if_neg e3, if_neg g3, if_neg e4, if_pos (by
                      rw [Int32.le_iff_toInt_le]; rw [Int32.lt_iff_toInt_lt] at g4; omega), pv_letm, pv_letm, l_40, pk_mul, pk_mul, nI_add, nI_add]
                    exact y1
                  · rw [y2 _ _ (by omega), hcp, if_neg (by omega)]; exact hko.2.1
                  · rw [y2 _ _ (by omega), hcp, if_neg (by omega)]; exact hko.2.2.1
                  · rw [y2 _ _ (by omega), hcp, if_neg (by omega), y2 _ _ (by omega), hcp, if_neg (by omega)]; exact hko.2.2.2.1
                  · rw [y2 _ _ (by omega), hcp, if_neg (by omega)]; exact hko.2.2.2.2.1
                  · by_cases w : y ≤ j ∧ j < y + N
                    · have := y3 (j - y) (by omega)
                      rw [show 40 * o + y + (j - y) = 40 * o + j by omega] at this
                      rw [this, eZ _ _ (by omega), y2 (71 + 2 * o) j (by omega), hcp, if_pos (by omega), show 40 * s + x + (j - y) = 40 * s + (x + (j - y)) by omega, show 70 + 2 * s + 1 = 71 + 2 * s by omega]
                      exact hks.2.2.2.2.2 _ (by omega)
                    · rw [y2 90 _ (by omega), eZ _ _ (by omega), y2 (71 + 2 * o) j (by omega), hcp, if_neg (by omega)]
                      exact hko.2.2.2.2.2 j hj
                  · rw [y2 c j (by omega), hcp, if_neg (by omega)]
          · rw [if_neg hso]
            exact ⟨-13, z, z, rfl, by rw [if_neg m2, if_neg p2, if_neg hso], hI⟩
/-! MOWERS by a sheet -/
def mbM (g : Nat → Int32) (sz : Nat) (K : Nat → Int32) : Nat → Nat → Nat → (Nat → Nat → Int32) → Int32 → Int32 × Nat × (Nat → Nat → Int32)
  | 0, _, n, F, c => (c, n, F)
  | k + 1, i, n, F, c => if i + 2 ≤ sz then mbM g sz K k (i + 2) (coN n F K (g i) (g (i + 1))) (coF n F K (g i) (g (i + 1))) (if coA n F K (g i) (g (i + 1)) < 0 then c else c + 1) else (-12, n, F)
theorem mbM_ok (g : Nat → Int32) (sz : Nat) {K : Nat → Int32} : ∀ k i n F c, okR n F K → okR (mbM g sz K k i n F c).2.1 (mbM g sz K k i n F c).2.2 K ∧ n ≤ (mbM g sz K k i n F c).2.1 ∧ ∀ w m, m < n → (mbM g sz K k i n F c).2.2 w m = F w m := by
  intro k
  induction k with
  | zero => intro i n F c h; exact ⟨h, Nat.le_refl _, fun _ _ _ => rfl⟩
  | succ k ih =>
    intro i n F c h
    unfold mbM
    by_cases q : i + 2 ≤ sz
    · rw [if_pos q]
      obtain ⟨h1, h2, h3⟩ := ih (i + 2) _ _ (if coA n F K (g i) (g (i + 1)) < 0 then c else c + 1) (co_ok h (g i) (g (i + 1)))
      obtain ⟨o1, o2⟩ := co_old (n := n) (F := F) (K := K) (g i) (g (i + 1))
      exact ⟨h1, by omega, fun w m hm => (h3 w m (by omega)).trans (o2 w m hm)⟩
    · rw [if_neg q]; exact ⟨h, Nat.le_refl _, fun _ _ _ => rfl⟩
theorem mbC_loop {fu lw b sz f0 N : Nat} {K : Nat → Int32} {y : Sg} (hf : 10 ≤ fu) (hb : 70 ≤ b) (hsz : sz ≤ 40) (hz : y b 2 = nI sz) (hN : N ≤ 6) (hf0 : f0 ≤ 40) : ∀ k p f n F c z, p + k = N → k < f → okR n F K → rC z 9 n lw F K → (∀ q j, ¬ ((q = 9 ∧ j = 3) ∨ (12 ≤ q ∧ q ≤ 16)) → z q j = y q j) → ∃ Z, pS_mowersBy_66 fu f (nI f0) (nI N) b c (nI p) z = some ((mbM (y (b + 1)) sz K k (f0 + 2 * p) n F c).1, Z) ∧ rC Z 9 (mbM (y (b + 1)) sz K k (f0 + 2 * p) n F c).2.1 lw (mbM (y (b + 1)) sz K k (f0 + 2 * p) n F c).2.2 K ∧ ∀ q j, ¬ ((q = 9 ∧ j = 3) ∨ (12 ≤ q ∧ q ≤ 16)) → Z q j = y q j := by
  intro k
  induction k with
  | zero =>
    intro p f n F c z h1 h2 h3 h4 h5
    obtain ⟨f, rfl⟩ := fuS h2
    rw [pS_mowersBy_66, if_pos (nI_le (by omega) (by omega))]
    exact ⟨z, rfl, h4, h5⟩
  | succ k ih =>
    intro p f n F c z h1 h2 h3 h4 h5
    obtain ⟨f, rfl⟩ := fuS h2
    have hz2 : z b 2 = nI sz := by rw [h5 _ _ (by omega)]; exact hz
    rw [pS_mowersBy_66, if_neg (nI_ge (by omega) (by omega)), l_2, pk_mul, nI_add, pv_letm]
    rcases hol_cases (fu := fu) hsz hz2 (nI (f0 + 2 * p)) 2 (by omega) with ⟨e1, e2⟩ | ⟨x, hx, ex, e1, e2, e3, e4⟩
    · have hno : ¬ f0 + 2 * p + 2 ≤ sz := fun q => by
        rcases e2 with e2 | e2 | ⟨-, e2, e3⟩
        · exact nI_pos (by omega) e2
        · rw [pv_lt (by omega) (by omega)] at e2; omega
        · rw [pk_sub (by omega), pv_lt (by omega) (by omega)] at e3; omega
      rw [e1, pv_bnd, if_pos rfl, mbM, if_neg hno]
      exact ⟨z, rfl, h4, h5⟩
    · rw [pv_eq (by omega) (by omega)] at ex
      obtain ⟨W, w1, w2, w3⟩ := coC (fu := fu) h4 h3.1 hf (y (b + 1) (f0 + 2 * p)) (y (b + 1) (f0 + 2 * p + 1))
      have g1 : ga z (b + 1) (nI (f0 + 2 * p)) = y (b + 1) (f0 + 2 * p) := by rw [pv_ga (by omega)]; exact h5 _ _ (by omega)
      have g2 : ga z (b + 1) (nI (f0 + 2 * p + 1)) = y (b + 1) (f0 + 2 * p + 1) := by rw [pv_ga (by omega)]; exact h5 _ _ (by omega)
      rw [e1, pv_bnd, if_neg (by decide), pv_inb (by omega) (by omega), pv_chk, nI_1, pv_inb (by omega) (by omega), pv_chk, g1, g2, w1, pv_bnd, mbM, if_pos (show f0 + 2 * p + 2 ≤ sz by omega)]
      unfold pS_mowersBy_123
      rw [pv_letm, pv_letm, pv_letm, nI_1]
      have e5 : ∀ q j, ¬ ((q = 9 ∧ j = 3) ∨ (12 ≤ q ∧ q ≤ 16)) → W q j = y q j := fun q j hq => (w3 q j hq).trans (h5 q j hq)
      obtain ⟨Z, z1, z2, z3⟩ := ih (p + 1) f _ _ (if coA n F K (y (b + 1) (f0 + 2 * p)) (y (b + 1) (f0 + 2 * p + 1)) < 0 then c else c + 1) W (by omega) (by omega) (co_ok h3 (y (b + 1) (f0 + 2 * p)) (y (b + 1) (f0 + 2 * p + 1))) w2 e5
      refine ⟨Z, ?_, z2, z3⟩
      rw [show f0 + 2 * (p + 1) = f0 + 2 * p + 2 by omega] at z1
      rw [← z1]
      by_cases q : coA n F K (y (b + 1) (f0 + 2 * p)) (y (b + 1) (f0 + 2 * p + 1)) < 0
      · rw [if_pos q, if_pos q]
      · rw [if_neg q, if_neg q]
theorem mbMr_loop {fu lw s sz f0 N : Nat} {K : Nat → Int32} {y : Sg} {g : Nat → Int32} (hf : 10 ≤ fu) (hs : s < 4) (hsz : sz ≤ 40) (hz : y 89 s = nI sz) (hg : ∀ j, j < 40 → y 90 (40 * s + j) = g j) (hN : N ≤ 6) (hf0 : f0 ≤ 40) : ∀ k p f n F c z, p + k = N → k < f → okR n F K → rM z n lw F K → (∀ q j, ¬ ((q = 78 ∧ j = 0) ∨ (79 ≤ q ∧ q ≤ 81)) → z q j = y q j) → ∃ Z, pM_mowersBy_64 fu f (nI s) (nI f0) (nI N) c (nI p) z = some ((mbM g sz K k (f0 + 2 * p) n F c).1, Z) ∧ rM Z (mbM g sz K k (f0 + 2 * p) n F c).2.1 lw (mbM g sz K k (f0 + 2 * p) n F c).2.2 K ∧ ∀ q j, ¬ ((q = 78 ∧ j = 0) ∨ (79 ≤ q ∧ q ≤ 81)) → Z q j = y q j := by
  intro k
  induction k with
  | zero =>
    intro p f n F c z h1 h2 h3 h4 h5
    obtain ⟨f, rfl⟩ := fuS h2
    rw [pM_mowersBy_64, if_pos (nI_le (by omega) (by omega))]
    exact ⟨z, rfl, h4, h5⟩
  | succ k ih =>
    intro p f n F c z h1 h2 h3 h4 h5
    obtain ⟨f, rfl⟩ := fuS h2
    have hz2 : z 89 s = nI sz := by rw [h5 _ _ (by omega)]; exact hz
    have hcmp : (nI (f0 + 2 * p) ≤ nI sz - nI 2) ↔ f0 + 2 * p + 2 ≤ sz := by
      rw [Int32.le_iff_toInt_le, pk_sub_toInt (by omega) (by omega), nI_toInt (by omega)]
      omega
    rw [pM_mowersBy_64, if_neg (nI_ge (by omega) (by omega)), l_2, pk_mul, nI_add, pv_letm, if_neg (nI_pos (by omega)), if_neg (nI_nlt (by omega) (by omega)), pv_inb (by omega) (by omega), pv_chk, pv_ga (by omega), hz2, mbM]
    by_cases q : f0 + 2 * p + 2 ≤ sz
    · have g1 : ga z 90 (nI (40 * s + (f0 + 2 * p))) = g (f0 + 2 * p) := by rw [pv_ga (by omega), h5 _ _ (by omega)]; exact hg _ (by omega)
      have g2 : ga z 90 (nI (40 * s + (f0 + 2 * p) + 1)) = g (f0 + 2 * p + 1) := by rw [pv_ga (by omega), h5 _ _ (by omega)]; exact hg (f0 + 2 * p + 1) (by omega)
      obtain ⟨W, w1, w2, w3⟩ := coMr (fu := fu) h4 h3.1 hf (g (f0 + 2 * p)) (g (f0 + 2 * p + 1))
      rw [if_pos (hcmp.mpr q), if_pos q, l_40, pk_mul, nI_add, pv_letm, pv_inb (by omega) (by omega), pv_chk, nI_1, pv_inb (by omega) (by omega), pv_chk, g1, g2, w1, pv_bnd]
      unfold pM_mowersBy_144
      rw [pv_letm, pv_letm, pv_letm, pv_letm, nI_1, Int32.add_zero]
      have e5 : ∀ q j, ¬ ((q = 78 ∧ j = 0) ∨ (79 ≤ q ∧ q ≤ 81)) → W q j = y q j := fun q j hq => (w3 q j hq).trans (h5 q j hq)
      obtain ⟨Z, z1, z2, z3⟩ := ih (p + 1) f _ _ (if coA n F K (g (f0 + 2 * p)) (g (f0 + 2 * p + 1)) < 0 then c else c + 1) W (by omega) (by omega) (co_ok h3 (g (f0 + 2 * p)) (g (f0 + 2 * p + 1))) w2 e5
      refine ⟨Z, ?_, z2, z3⟩
      rw [show f0 + 2 * (p + 1) = f0 + 2 * p + 2 by omega] at z1
      rw [← z1]
      by_cases q2 : coA n F K (g (f0 + 2 * p)) (g (f0 + 2 * p + 1)) < 0
      · rw [if_pos q2, if_pos q2]
      · rw [if_neg q2, if_neg q2]
    · rw [if_neg (fun w => q (hcmp.mp w)), if_neg q]
      exact ⟨z, rfl, h4, h5⟩
theorem st_mowersBy {fu : Nat} (hf : 50000 ≤ fu) (z : Sg) (a1 a2 a3 a4 : Int32) (h : Inv z) : ∃ (r : Int32) (z1 z2 : Sg), pS_mowersBy fu a1 a2 a3 a4 z = some (r, z1) ∧ pM_mowersBy fu a1 a2 a3 a4 z1 = some (r, z2) ∧ Inv z2 := by
  obtain ⟨n, lw, tc, ts, F, K, C, E, h⟩ := h
  have hI : Inv z := ⟨n, lw, tc, ts, F, K, C, E, h⟩
  have hn := h.1.2.2.1.1
  unfold pS_mowersBy pM_mowersBy
  rcases wi_cases (M := 3) (k := 3) rfl (by omega) a1 with ⟨c1, c2⟩ | ⟨s, hs, rfl, c1, c2⟩
  · exact ⟨-2, z, z, by rw [c1, pv_bnd, if_pos rfl], by rw [c2, pv_bnd, if_pos rfl], hI⟩
  · rcases wi_cases (M := 2) (k := 2) rfl (by omega) a2 with ⟨d1, d2⟩ | ⟨so, hso, rfl, d1, d2⟩
    · exact ⟨-2, z, z, by rw [c1, pv_bnd, if_neg (by decide), d1, pv_bnd, if_pos rfl], by rw [c2, pv_bnd, if_neg (by decide), d2, pv_bnd, if_pos rfl], hI⟩
    · rcases wi_cases (M := 6) (k := 6) rfl (by omega) a4 with ⟨e1, e2⟩ | ⟨N, hN, rfl, e1, e2⟩
      · exact ⟨-2, z, z, by rw [c1, pv_bnd, if_neg (by decide), d1, pv_bnd, if_neg (by decide), e1, pv_bnd, if_pos rfl], by rw [c2, pv_bnd, if_neg (by decide), d2, pv_bnd, if_neg (by decide), e2, pv_bnd, if_pos rfl], hI⟩
      · obtain ⟨k, hk⟩ := h.2.2.2.2.1 s (by omega)
        rw [c1, pv_bnd, if_neg (by decide), d1, pv_bnd, if_neg (by decide), e1, pv_bnd, if_neg (by decide), pv_inb (by omega) (by omega), pv_chk]
        simp only [c2, d2, e2, pv_bnd, show ((1 : Int32) = 0) = False from by decide, if_false, pv_chk, pv_ga (show s < 2147483648 by omega)]
        rcases mis_cases (fu := fu) (by omega) hk with ⟨m1, m2⟩ | ⟨m1, m2, m3⟩
        · exact ⟨-11, z, z, by rw [m1, pv_bnd, if_neg (by decide)], by rw [if_pos m2], hI⟩
        · rw [m1, pv_bnd, if_pos rfl, pv_clamp (by omega), ← hk.2.2.2.1]
          by_cases hs2 : z 88 s = nI so
          · rw [if_pos hs2]
            by_cases hN0 : N = 0
            · subst hN0
              obtain ⟨f, rfl⟩ : ∃ f, fu = f + 1 := ⟨fu - 1, by omega⟩
              refine ⟨0, z, z, ?_, ?_, hI⟩
              · rw [pS_mowersBy_66, if_pos (by decide)]
              · rw [if_neg m2, if_pos hs2, pM_mowersBy_64, if_pos (by decide)]
            · by_cases hfr : ∃ f0, f0 ≤ 40 ∧ a3 = nI f0
              · obtain ⟨f0, hf0, rfl⟩ := hfr
                obtain ⟨Z, z1, z2, z3⟩ := mbC_loop (fu := fu) (lw := lw) (b := 70 + 2 * s) (y := z) (by omega) (by omega) hk.1 hk.2.1 hN hf0 N 0 fu n F 0 z (by omega) (by omega) h.1.2.2.1 h.1.1 (fun _ _ _ => rfl)
                have rm : rM Z n lw F K := h.1.2.1.at (fun c j hc => z3 c j (by omega))
                obtain ⟨Y, y1, y2, y3⟩ := mbMr_loop (fu := fu) (lw := lw) (s := s) (y := Z) (g := z (70 + 2 * s + 1)) (by omega) (by omega) hk.1 (by rw [z3 _ _ (by omega)]; exact hk.2.2.1) (fun j hj => by rw [z3 _ _ (by omega), show 70 + 2 * s + 1 = 71 + 2 * s by omega]; exact hk.2.2.2.2.2 j hj) hN hf0 N 0 fu n F 0 Z (by omega) (by omega) h.1.2.2.1 rm (fun _ _ _ => rfl)
                obtain ⟨o1, o2, o3⟩ := mbM_ok (z (70 + 2 * s + 1)) k (K := K) N (f0 + 2 * 0) n F 0 h.1.2.2.1
                refine ⟨_, Z, Y, z1, ?_, h.came (z2.at (fun c j hc => y3 c j (by omega))) y2 o1 o2 o3 (fun c j hc => by rw [y3 c j (by omega)]; exact z3 c j (by omega))⟩
                rw [z3 88 s (by omega), if_neg m2, if_pos hs2]
                exact y1
              · obtain ⟨f, rfl⟩ : ∃ f, fu = f + 1 := ⟨fu - 1, by omega⟩
                refine ⟨-12, z, z, ?_, ?_, hI⟩
                · rw [pS_mowersBy_66, if_neg (show ¬ nI N ≤ 0 from nI_nle (by omega) (by omega)), pv_letm, show a3 + 2 * 0 = a3 from by rw [show (2 : Int32) * 0 = 0 from rfl, Int32.add_zero]]
                  rcases hol_cases (fu := f + 1) hk.1 hk.2.1 a3 2 (by omega) with ⟨g1, -⟩ | ⟨x, hx, ex, -⟩
                  · rw [show pH_holds (f + 1) (70 + 2 * s) a3 2 z = some (0, z) from g1, pv_bnd, if_pos rfl]
                  · exact absurd ⟨x, by have := hk.1; omega, ex⟩ hfr
                · rw [if_neg m2, if_pos hs2, pM_mowersBy_64, if_neg (show ¬ nI N ≤ 0 from nI_nle (by omega) (by omega)), pv_letm, show a3 + 2 * 0 = a3 from by rw [show (2 : Int32) * 0 = 0 from rfl, Int32.add_zero]]
                  by_cases w : a3 < 0
                  · rw [if_pos w]
                  · obtain ⟨x, hx, rfl⟩ := nI_of w
                    rw [if_neg w, if_neg (nI_nlt (Nat.le_refl _) hx), pv_inb (by omega) (by omega), pv_chk, pv_ga (by omega), hk.2.2.1, if_neg]
                    rw [l_2, Int32.le_iff_toInt_le, pk_sub_toInt (by have := hk.1; omega) (by omega), nI_toInt hx]
                    intro q
                    exact hfr ⟨x, by have := hk.1; omega, rfl⟩
          · rw [if_neg hs2]
            exact ⟨-13, z, z, rfl, by rw [if_neg m2, if_neg hs2], hI⟩
