def mostN (j : Nat) : Nat := [9, 11, 11, 999, 9999].getD j 0
theorem most_lt (j : Nat) : mostN j < 10000 := by
  unfold mostN
  rcases (show j = 0 ∨ j = 1 ∨ j = 2 ∨ j = 3 ∨ j = 4 ∨ 5 ≤ j by omega) with rfl | rfl | rfl | rfl | rfl | h
  · decide
  · decide
  · decide
  · decide
  · decide
  · rw [List.getD_eq_getElem?_getD, List.getElem?_eq_none (by simpa using h)]; decide
section MUT
variable {z : Sg} {n lw tc ts : Nat} {F : Nat → Nat → Int32} {K : Nat → Int32} {C E : Nat → Nat → Nat}
theorem InvP.mk_eq (h : InvP z n lw tc ts F K C E) {j : Nat} (hj : j < 5) : z 82 j = z 10 j := by
  obtain ⟨⟨a1, a2, a3, a4, a5, a6, a7, a8, a9, a10, a11⟩, ⟨b1, b2, b3, b4, b5, b6, b7, b8, b9, b10, b11⟩, _, _, h4⟩ := h.1
  rcases (show j = 0 ∨ j = 1 ∨ j = 2 ∨ j = 3 ∨ j = 4 by omega) with rfl | rfl | rfl | rfl | rfl
  · exact b8.trans a8.symm
  · exact b9.trans a9.symm
  · exact b10.trans a10.symm
  · exact b11.trans a11.symm
  · exact h4
theorem InvP.mark (h : InvP z n lw tc ts F K C E) {j x : Nat} (hj : j < 5) (hx : x ≤ mostN j) : InvP (u2 (u2 z 10 j (nI x)) 82 j (nI x)) n lw tc ts F (fun i => if i = j then nI x else K i) C E := by
  have hz : ∀ c i, c ≠ 10 → c ≠ 82 → (u2 (u2 z 10 j (nI x)) 82 j (nI x)) c i = z c i := fun c i c1 c2 => by rw [pv_u2, if_neg (by omega), pv_u2, if_neg (by omega)]
  have e10 : ∀ i, (u2 (u2 z 10 j (nI x)) 82 j (nI x)) 10 i = if i = j then nI x else z 10 i := fun i => by
    rw [pv_u2, if_neg (by omega), pv_u2]; by_cases e : i = j <;> simp [e]
  have e82 : ∀ i, (u2 (u2 z 10 j (nI x)) 82 j (nI x)) 82 i = if i = j then nI x else z 82 i := fun i => by
    rw [pv_u2]; by_cases e : i = j
    · simp [e]
    · rw [if_neg (by omega), if_neg e, pv_u2, if_neg (by omega)]
  obtain ⟨⟨⟨a1, a2, a3, a4, a5, a6, a7, a8, a9, a10, a11⟩, ⟨b1, b2, b3, b4, b5, b6, b7, b8, b9, b10, b11⟩, ⟨k1, ⟨f0, f1, f2, f3, f4, f5, f6, f7⟩, k3, k4⟩, c4, c5⟩, h2, h3, h4, h5, h6⟩ := h
  refine ⟨⟨⟨?_, ?_, fun m h => ?_, fun m h => ?_, fun m h => ?_, fun m h => ?_, fun m h => ?_, ?_, ?_, ?_, ?_⟩, ⟨?_, ?_, fun m h => ?_, fun m h => ?_, fun m h => ?_, fun m h => ?_, fun m h => ?_, ?_, ?_, ?_, ?_⟩, ⟨k1, ⟨f0, f1, f2, f3, f4, ?_, ?_, ?_⟩, ?_, k4⟩, ?_, ?_⟩, h2.at (fun c i hc => hz c i (by omega) (by omega)), h3.at (fun c i hc => hz c i (by omega) (by omega)), h4.at (fun c i hc => hz c i (by omega) (by omega)), h5.at (fun c i hc => hz c i (by omega) (by omega)), h6.at (fun c i hc => hz c i (by omega) (by omega))⟩
  · rw [hz _ _ (by omega) (by omega)]; exact a1
  · rw [hz _ _ (by omega) (by omega)]; exact a2
  · rw [hz _ _ (by omega) (by omega)]; exact a3 m h
  · rw [hz _ _ (by omega) (by omega)]; exact a4 m h
  · rw [hz _ _ (by omega) (by omega)]; exact a5 m h
  · rw [hz _ _ (by omega) (by omega)]; exact a6 m h
  · rw [hz _ _ (by omega) (by omega)]; exact a7 m h
  · rw [e10]; by_cases e : 0 = j <;> simp [e]; exact a8
  · rw [e10]; by_cases e : 1 = j <;> simp [e]; exact a9
  · rw [e10]; by_cases e : 2 = j <;> simp [e]; exact a10
  · rw [e10]; by_cases e : 3 = j <;> simp [e]; exact a11
  · rw [hz _ _ (by omega) (by omega)]; exact b1
  · rw [hz _ _ (by omega) (by omega)]; exact b2
  · rw [hz _ _ (by omega) (by omega)]; exact b3 m h
  · rw [hz _ _ (by omega) (by omega)]; exact b4 m h
  · rw [hz _ _ (by omega) (by omega)]; exact b5 m h
  · rw [hz _ _ (by omega) (by omega)]; exact b6 m h
  · rw [hz _ _ (by omega) (by omega)]; exact b7 m h
  · rw [e82]; by_cases e : 0 = j <;> simp [e]; exact b8
  · rw [e82]; by_cases e : 1 = j <;> simp [e]; exact b9
  · rw [e82]; by_cases e : 2 = j <;> simp [e]; exact b10
  · rw [e82]; by_cases e : 3 = j <;> simp [e]; exact b11
  · by_cases e : 0 = j
    · subst e; exact ⟨x, by simp [mostN] at hx; omega, rfl⟩
    · simp only [e, if_false]; exact f5
  · by_cases e : 1 = j
    · subst e; exact ⟨x, by simp [mostN] at hx; omega, rfl⟩
    · simp only [e, if_false]; exact f6
  · by_cases e : 2 = j
    · subst e; exact ⟨x, by simp [mostN] at hx; omega, rfl⟩
    · simp only [e, if_false]; exact f7
  · by_cases e : 3 = j
    · subst e; exact ⟨x, by simp [mostN] at hx; omega, rfl⟩
    · simp only [e, if_false]; exact k3
  · rw [e10]
    by_cases e : 4 = j
    · subst e; exact ⟨x, by simp [mostN] at hx; omega, rfl⟩
    · simp only [e, if_false]; exact c4
  · rw [e10, e82]
    by_cases e : 4 = j
    · simp only [e, if_true]
    · simp only [e, if_false]; exact c5
theorem InvP.fact (h : InvP z n lw tc ts F K C E) {w m : Nat} {v : Int32} (hw : w < 3) (hm : m < n) (hv : (w = 0 → bI 10 v ∧ ∀ i, i < n → i ≠ m → F 0 i ≠ v) ∧ (w = 1 → bI 12 v) ∧ (w = 2 → bI 100 v)) : InvP (u2 (u2 z (12 + w) m v) 81 (3 * m + w) v) n lw tc ts (fun a b => if a = w ∧ b = m then v else F a b) K C E := by
  have hz : ∀ c i, c ≠ 12 + w → c ≠ 81 → (u2 (u2 z (12 + w) m v) 81 (3 * m + w) v) c i = z c i := fun c i c1 c2 => by rw [pv_u2, if_neg (by omega), pv_u2, if_neg (by omega)]
  have e12 : ∀ a i, a < 5 → (u2 (u2 z (12 + w) m v) 81 (3 * m + w) v) (12 + a) i = if a = w ∧ i = m then v else z (12 + a) i := fun a i ha => by
    rw [pv_u2, if_neg (by omega), pv_u2]
    by_cases e : a = w ∧ i = m
    · rw [if_pos e, if_pos (by omega)]
    · rw [if_neg e, if_neg (by omega)]
  have e81 : ∀ a i, a < 3 → (u2 (u2 z (12 + w) m v) 81 (3 * m + w) v) 81 (3 * i + a) = if a = w ∧ i = m then v else z 81 (3 * i + a) := fun a i ha => by
    rw [pv_u2]
    by_cases e : a = w ∧ i = m
    · rw [if_pos e, if_pos (by omega)]
    · rw [if_neg e, if_neg (by omega), pv_u2, if_neg (by omega)]
  obtain ⟨⟨⟨a1, a2, a3, a4, a5, a6, a7, a8, a9, a10, a11⟩, ⟨b1, b2, b3, b4, b5, b6, b7, b8, b9, b10, b11⟩, ⟨k1, ⟨f0, f1, f2, f3, f4, f5, f6, f7⟩, k3, k4⟩, c4, c5⟩, h2, h3, h4, h5, h6⟩ := h
  have ha : ∀ a, a < 5 → ∀ i, i < n → z (12 + a) i = F a i := fun a ha i hi => by
    rcases (show a = 0 ∨ a = 1 ∨ a = 2 ∨ a = 3 ∨ a = 4 by omega) with rfl | rfl | rfl | rfl | rfl
    · exact a3 i hi
    · exact a4 i hi
    · exact a5 i hi
    · exact a6 i hi
    · exact a7 i hi
  have hC : ∀ a, a < 5 → ∀ i, i < n → (u2 (u2 z (12 + w) m v) 81 (3 * m + w) v) (12 + a) i = if a = w ∧ i = m then v else F a i := fun a h1 i h2 => by rw [e12 a i h1, ha a h1 i h2]
  have hG : iG (u2 (u2 z (12 + w) m v) 81 (3 * m + w) v) n tc (fun a b => if a = w ∧ b = m then v else F a b) := by
    have := h4.at (Z := u2 (u2 z (12 + w) m v) 81 (3 * m + w) v) (fun c i hc => hz c i (by omega) (by omega))
    obtain ⟨g1, g2⟩ := this
    refine ⟨g1, ?_⟩
    rcases g2 with g2 | ⟨g2, n', lw', F', K', q1, q2, q3, q4, q5, q6, q7⟩
    · exact Or.inl g2
    · exact Or.inr ⟨g2, n', lw', F', K', q1, q2, q3, q4, q5, fun i hi => by
        show F' 3 i = (if 3 = w ∧ i = m then v else F 3 i) ∧ F' 4 i = (if 4 = w ∧ i = m then v else F 4 i)
        rw [if_neg (by omega), if_neg (by omega)]
        exact q6 i hi, q7⟩
  refine ⟨⟨⟨?_, ?_, hC 0 (by omega), hC 1 (by omega), hC 2 (by omega), hC 3 (by omega), hC 4 (by omega), ?_, ?_, ?_, ?_⟩, ⟨?_, ?_, fun i hi => ?_, fun i hi => ?_, fun i hi => ?_, fun i hi => ?_, fun i hi => ?_, ?_, ?_, ?_, ?_⟩, ⟨k1, ⟨fun i hi => ?_, fun i hi => ?_, fun i hi => ?_, fun i hi => ?_, fun i hi => ?_, f5, f6, f7⟩, k3, fun i hi j hj => ?_⟩, ?_, ?_⟩, h2.at (fun c i hc => hz c i (by omega) (by omega)), h3.at (fun c i hc => hz c i (by omega) (by omega)), hG, h5.at (fun c i hc => hz c i (by omega) (by omega)), h6.at (fun c i hc => hz c i (by omega) (by omega))⟩
  · rw [hz _ _ (by omega) (by omega)]; exact a1
  · rw [hz _ _ (by omega) (by omega)]; exact a2
  · rw [hz _ _ (by omega) (by omega)]; exact a8
  · rw [hz _ _ (by omega) (by omega)]; exact a9
  · rw [hz _ _ (by omega) (by omega)]; exact a10
  · rw [hz _ _ (by omega) (by omega)]; exact a11
  · rw [hz _ _ (by omega) (by omega)]; exact b1
  · rw [hz _ _ (by omega) (by omega)]; exact b2
  · exact (e81 0 i (by omega)).trans (by rw [show z 81 (3 * i + 0) = F 0 i from b3 i hi])
  · rw [e81 1 i (by omega), b4 i hi]
  · rw [e81 2 i (by omega), b5 i hi]
  · show _ = (if 3 = w ∧ i = m then v else F 3 i)
    rw [hz _ _ (by omega) (by omega), if_neg (by omega)]; exact b6 i hi
  · show _ = (if 4 = w ∧ i = m then v else F 4 i)
    rw [hz _ _ (by omega) (by omega), if_neg (by omega)]; exact b7 i hi
  · rw [hz _ _ (by omega) (by omega)]; exact b8
  · rw [hz _ _ (by omega) (by omega)]; exact b9
  · rw [hz _ _ (by omega) (by omega)]; exact b10
  · rw [hz _ _ (by omega) (by omega)]; exact b11
  · by_cases e : 0 = w ∧ i = m
    · simp only [e, and_self, if_true]; exact (hv.1 e.1.symm).1
    · simp only [e, if_false]; exact f0 i hi
  · by_cases e : 1 = w ∧ i = m
    · simp only [e, and_self, if_true]; exact hv.2.1 e.1.symm
    · simp only [e, if_false]; exact f1 i hi
  · by_cases e : 2 = w ∧ i = m
    · simp only [e, and_self, if_true]; exact hv.2.2 e.1.symm
    · simp only [e, if_false]; exact f2 i hi
  · simp only [show ¬ (3 = w ∧ i = m) by omega, if_false]; exact f3 i hi
  · simp only [show ¬ (4 = w ∧ i = m) by omega, if_false]; exact f4 i hi
  · by_cases ew : 0 = w
    · have hv0 := (hv.1 ew.symm).2
      simp only [ew, true_and]
      intro q
      by_cases e1 : i = m
      · by_cases e2 : j = m
        · omega
        · simp only [e1, e2, if_true, if_false] at q
          exact absurd (by rw [← q] : F w j = v) (by rw [← ew]; exact hv0 j hj e2)
      · by_cases e2 : j = m
        · simp only [e1, e2, if_true, if_false] at q
          exact absurd q (by rw [← ew]; exact hv0 i hi e1)
        · simp only [e1, e2, if_false] at q
          exact k4 i hi j hj (by rw [ew]; exact q)
    · simp only [ew, false_and, if_false]
      exact k4 i hi j hj
  · rw [hz _ _ (by omega) (by omega)]; exact c4
  · rw [hz _ _ (by omega) (by omega), hz _ _ (by omega) (by omega)]; exact c5
end MUT
theorem st_row {fu : Nat} (hf : 50000 ≤ fu) (z : Sg) (a1 : Int32) (h : Inv z) : ∃ (r : Int32) (z1 z2 : Sg), pS_row fu a1 z = some (r, z1) ∧ pM_row fu a1 z1 = some (r, z2) ∧ Inv z2 := by
  obtain ⟨n, lw, tc, ts, F, K, C, E, h⟩ := h
  unfold pS_row pM_row
  rcases wi_cases (M := 4) (k := 4) rfl (by omega) a1 with ⟨c1, c2⟩ | ⟨j, hj, rfl, c1, c2⟩
  · exact ⟨-2, z, z, by rw [c1, pv_bnd, if_pos rfl], by rw [c2, pv_bnd, if_pos rfl], n, lw, tc, ts, F, K, C, E, h⟩
  · exact ⟨z 10 j, z, z, by rw [c1, pv_bnd, if_neg (by decide), pv_inb (by omega) (by omega), pv_chk, pv_ga (by omega)], by rw [c2, pv_bnd, if_neg (by decide), pv_inb (by omega) (by omega), pv_chk, pv_ga (by omega), h.mk_eq (by omega)], n, lw, tc, ts, F, K, C, E, h⟩
theorem st_sets {fu : Nat} (hf : 50000 ≤ fu) (z : Sg) (a1 a2 : Int32) (h : Inv z) : ∃ (r : Int32) (z1 z2 : Sg), pS_sets fu a1 a2 z = some (r, z1) ∧ pM_sets fu a1 a2 z1 = some (r, z2) ∧ Inv z2 := by
  obtain ⟨n, lw, tc, ts, F, K, C, E, h⟩ := h
  have hI : Inv z := ⟨n, lw, tc, ts, F, K, C, E, h⟩
  have hn := h.1.2.2.1.1
  unfold pS_sets pM_sets
  rcases wi_cases (M := 4) (k := 4) rfl (by omega) a1 with ⟨c1, c2⟩ | ⟨j, hj, rfl, c1, c2⟩
  · exact ⟨-2, z, z, by rw [c1, pv_bnd, if_pos rfl], by rw [c2, pv_bnd, if_pos rfl], hI⟩
  · have hka : kaM (nI j) = nI (mostN j) := by
      rcases (show j = 0 ∨ j = 1 ∨ j = 2 ∨ j = 3 ∨ j = 4 by omega) with rfl | rfl | rfl | rfl | rfl <;> rfl
    have h45 : ∀ y, (if nI j = 0 then pM_sets_45 fu (nI j) a2 9 y else if 3 ≤ nI j then if nI j = 3 then pM_sets_45 fu (nI j) a2 999 y else pM_sets_45 fu (nI j) a2 9999 y else pM_sets_45 fu (nI j) a2 11 y) = pM_sets_45 fu (nI j) a2 (nI (mostN j)) y := fun y => by
      rcases (show j = 0 ∨ j = 1 ∨ j = 2 ∨ j = 3 ∨ j = 4 by omega) with rfl | rfl | rfl | rfl | rfl
      · rw [if_pos (by decide)]; rfl
      · rw [if_neg (by decide), if_neg (by decide)]; rfl
      · rw [if_neg (by decide), if_neg (by decide)]; rfl
      · rw [if_neg (by decide), if_pos (by decide), if_pos (by decide)]; rfl
      · rw [if_neg (by decide), if_pos (by decide), if_neg (by decide)]; rfl
    have hms := most_lt j
    rcases wi_cases (M := nI (mostN j)) (k := mostN j) rfl (by omega) a2 with ⟨d1, d2⟩ | ⟨x, hx, rfl, d1, d2⟩
    · refine ⟨-2, z, z, ?_, ?_, hI⟩
      · rw [c1, pv_bnd, if_neg (by decide), pv_inb (by omega) (by omega), pv_chk, hka, d1, pv_bnd, if_pos rfl]
      · rw [c2, pv_bnd, if_neg (by decide), h45]
        unfold pM_sets_45
        rw [d2, pv_bnd, if_pos rfl]
    · have hw1 := whoC (fu := fu) h.1.1 hn (by omega) (nI x)
      have hw2 := fun y (hy : rM y n lw F K) => whoMr (fu := fu) hy hn (by omega) (nI x)
      have fin1 : pS_sets_41 fu (nI j) (nI x) z = some (z 10 j, u2 z 10 j (nI x)) := by
        unfold pS_sets_41
        rw [pv_inb (by omega) (by omega), pv_chk, pv_letm, pv_chk, pv_letm, pv_ga (by omega), pv_sa (by omega)]
      have fin2 : pM_sets_71 fu (nI j) (nI x) (u2 z 10 j (nI x)) = some (z 10 j, u2 (u2 z 10 j (nI x)) 82 j (nI x)) := by
        unfold pM_sets_71
        rw [pv_inb (by omega) (by omega), pv_chk, pv_letm, pv_chk, pv_letm, pv_ga (by omega), pv_sa (by omega), pv_u2, if_neg (by omega), h.mk_eq (by omega)]
      have hI2 : Inv (u2 (u2 z 10 j (nI x)) 82 j (nI x)) := ⟨n, lw, tc, ts, F, _, C, E, h.mark (by omega) hx⟩
      have hrM : rM (u2 z 10 j (nI x)) n lw F K := h.1.2.1.at (fun c i hc => by rw [pv_u2, if_neg (by omega)])
      rw [c1, pv_bnd, if_neg (by decide), pv_inb (by omega) (by omega), pv_chk, hka, d1, pv_bnd, if_neg (by decide), hw1, pv_bnd, fin1]
      simp only [c2, pv_bnd]
      simp only [show ((1 : Int32) = 0) = False from by decide, if_false, h45]
      unfold pM_sets_45
      simp only [d2, pv_bnd]
      simp only [show ((1 : Int32) = 0) = False from by decide, if_false]
      by_cases e0 : nI j = 0
      · simp only [e0, if_true]
        rw [e0] at fin2
        rcases who_at (F := F) (n := n) (nI x) with ⟨e, -⟩ | ⟨i, hi, e, -⟩
        · rw [e, if_pos (by decide)]
          refine ⟨_, _, _, rfl, ?_, hI2⟩
          rw [hw2 _ hrM, pv_bnd, e, if_pos rfl]
          exact fin2
        · rw [e, if_neg (nI_pos (by omega))]
          refine ⟨_, _, z, rfl, ?_, hI⟩
          rw [hw2 _ h.1.2.1, pv_bnd, e, if_neg (fun q => (pv_neg1 (by omega)).mp q)]
      · simp only [e0, if_false]
        exact ⟨_, _, _, rfl, fin2, hI2⟩
theorem st_force {fu : Nat} (hf : 50000 ≤ fu) (z : Sg) (a1 : Int32) (h : Inv z) : ∃ (r : Int32) (z1 z2 : Sg), pS_force fu a1 z = some (r, z1) ∧ pM_force fu a1 z1 = some (r, z2) ∧ Inv z2 := by
  obtain ⟨n, lw, tc, ts, F, K, C, E, h⟩ := h
  have hI : Inv z := ⟨n, lw, tc, ts, F, K, C, E, h⟩
  obtain ⟨q, rfl⟩ : ∃ q, tc = q + 1 := ⟨tc - 1, by have := h.2.1.1; omega⟩
  have ht6 := h.2.1.2.1
  unfold pS_force pM_force
  rw [h.2.1.2.2.1, nI_pred]
  rcases wi_cases (M := nI q) (k := q) rfl (by omega) a1 with ⟨c1, c2⟩ | ⟨j, hj, rfl, c1, c2⟩
  · exact ⟨-2, z, z, by rw [c1, pv_bnd, if_pos rfl], by rw [h.2.1.2.2.2.1, nI_pred, c2, pv_bnd, if_pos rfl], hI⟩
  · have e9 : (u2 z 9 4 (nI j)) 78 9 = nI (q + 1) := by rw [pv_u2, if_neg (by omega)]; exact h.2.1.2.2.2.1
    have e10 : (u2 z 9 4 (nI j)) 78 10 = nI lw := by rw [pv_u2, if_neg (by omega)]; exact h.1.2.1.2.1
    refine ⟨nI lw, u2 z 9 4 (nI j), u2 (u2 z 9 4 (nI j)) 78 10 (nI j), by rw [c1, pv_bnd, if_neg (by decide), pv_letm, pv_letm, h.1.1.2.1], by rw [e9, nI_pred, c2, pv_bnd, if_neg (by decide), pv_letm, pv_letm, e10], n, j, q + 1, ts, F, K, C, E, ?_⟩
    have hz : ∀ c i, ¬ (c = 9 ∧ i = 4) → ¬ (c = 78 ∧ i = 10) → (u2 (u2 z 9 4 (nI j)) 78 10 (nI j)) c i = z c i := fun c i c1 c2 => by rw [pv_u2, if_neg c2, pv_u2, if_neg c1]
    obtain ⟨⟨⟨a1, a2, a3, a4, a5, a6, a7, a8, a9, a10, a11⟩, ⟨b1, b2, b3, b4, b5, b6, b7, b8, b9, b10, b11⟩, k, c4, c5⟩, h2, h3, h4, h5, h6⟩ := h
    refine ⟨⟨⟨?_, ?_, fun m h => ?_, fun m h => ?_, fun m h => ?_, fun m h => ?_, fun m h => ?_, ?_, ?_, ?_, ?_⟩, ⟨?_, ?_, fun m h => ?_, fun m h => ?_, fun m h => ?_, fun m h => ?_, fun m h => ?_, ?_, ?_, ?_, ?_⟩, k, ?_, ?_⟩, ?_, h3.at (fun c i hc => hz c i (by omega) (by omega)), h4.at (fun c i hc => hz c i (by omega) (by omega)), h5.at (fun c i hc => hz c i (by omega) (by omega)), h6.at (fun c i hc => hz c i (by omega) (by omega))⟩
    · rw [hz _ _ (by omega) (by omega)]; exact a1
    · rw [pv_u2, if_neg (by omega), pv_u2, if_pos ⟨rfl, rfl⟩]
    · rw [hz _ _ (by omega) (by omega)]; exact a3 m h
    · rw [hz _ _ (by omega) (by omega)]; exact a4 m h
    · rw [hz _ _ (by omega) (by omega)]; exact a5 m h
    · rw [hz _ _ (by omega) (by omega)]; exact a6 m h
    · rw [hz _ _ (by omega) (by omega)]; exact a7 m h
    · rw [hz _ _ (by omega) (by omega)]; exact a8
    · rw [hz _ _ (by omega) (by omega)]; exact a9
    · rw [hz _ _ (by omega) (by omega)]; exact a10
    · rw [hz _ _ (by omega) (by omega)]; exact a11
    · rw [hz _ _ (by omega) (by omega)]; exact b1
    · rw [pv_u2, if_pos ⟨rfl, rfl⟩]
    · rw [hz _ _ (by omega) (by omega)]; exact b3 m h
    · rw [hz _ _ (by omega) (by omega)]; exact b4 m h
    · rw [hz _ _ (by omega) (by omega)]; exact b5 m h
    · rw [hz _ _ (by omega) (by omega)]; exact b6 m h
    · rw [hz _ _ (by omega) (by omega)]; exact b7 m h
    · rw [hz _ _ (by omega) (by omega)]; exact b8
    · rw [hz _ _ (by omega) (by omega)]; exact b9
    · rw [hz _ _ (by omega) (by omega)]; exact b10
    · rw [hz _ _ (by omega) (by omega)]; exact b11
    · rw [hz _ _ (by omega) (by omega)]; exact c4
    · rw [hz _ _ (by omega) (by omega), hz _ _ (by omega) (by omega)]; exact c5
    · obtain ⟨t1, t2, t3, t4, t5⟩ := h2.at (Z := u2 (u2 z 9 4 (nI j)) 78 10 (nI j)) (fun c i hc => hz c i (by omega) (by omega))
      exact ⟨by omega, t2, t3, t4, t5⟩
theorem one_y {zm : Sg} {n m : Nat} (hn : n ≤ 6) (hm : zm 78 0 = nI n) (h : m < n) (fu : Nat) : pM_isOne fu (nI m) zm = some (1, zm) := by
  obtain ⟨n, rfl⟩ : ∃ q, n = q + 1 := ⟨n - 1, by omega⟩
  unfold pM_isOne pM_in
  rw [if_neg (nI_pos (by omega)), hm, nI_pred, if_neg (by rw [pv_lt (by omega) (by omega)]; omega), pv_bnd]
  rfl
theorem st_asks {fu : Nat} (hf : 50000 ≤ fu) (z : Sg) (a1 a2 : Int32) (h : Inv z) : ∃ (r : Int32) (z1 z2 : Sg), pS_asks fu a1 a2 z = some (r, z1) ∧ pM_asks fu a1 a2 z1 = some (r, z2) ∧ Inv z2 := by
  obtain ⟨n, lw, tc, ts, F, K, C, E, h⟩ := h
  have hn := h.1.2.2.1.1
  have hb := h.bs (fu := fu) (by omega)
  have hk := has_cases hn h.1.1.1 h.1.2.1.1 a2
  rcases wi_cases (M := 2) (k := 2) rfl (by omega) a1 with ⟨c1, c2⟩ | ⟨p, hp, rfl, c1, c2⟩
  · exact ⟨-1000, z, z, by unfold pS_asks; rw [c1, pv_bnd, if_pos rfl], by unfold pM_asks; rw [c2, pv_bnd, if_pos rfl], n, lw, tc, ts, F, K, C, E, h⟩
  · rcases hk with ⟨d1, d2⟩ | ⟨m, hm, rfl, d1, d2⟩
    · exact ⟨-1000, z, z, by unfold pS_asks; rw [c1, pv_bnd, if_neg (by decide), d1, pv_bnd, if_pos rfl], by unfold pM_asks; rw [c2, pv_bnd, if_neg (by decide), d2, pv_bnd, if_pos rfl], n, lw, tc, ts, F, K, C, E, h⟩
    · refine ask2 h (saM (C lw) (E lw) p (nxM n F K m)) ?_ (fun y hy _ => ?_)
      · obtain ⟨y, y1, y2, y3⟩ := lookC (fu := fu) (Or.inl rfl) h.1.1 hn (by omega) hm
        have q : qC fu y 9 n lw m F K (C lw) (E lw) := ⟨Or.inl rfl, y3, hn, hm, hb.2.1, hb.2.2.1, h.lC.s (Or.inl rfl) (by have := hb.2.1; omega) y2.s, by omega, hb.2.2.2.2⟩
        obtain ⟨Y, x1, x2⟩ := lawC q (p := p) (by omega)
        have hlw : inb (y 9 4) 6 = true := by rw [y3.1.2.1]; exact pv_inb hb.2.1 (by omega)
        refine ⟨Y, ?_, y2.s.q9.tr x2.q⟩
        unfold pS_asks
        rw [c1, pv_bnd, if_neg (by decide), d1, pv_bnd, if_neg (by decide), y1, pv_bndv, hlw, pv_chk, x1, pv_bnd]
      · obtain ⟨Y, x1, x2⟩ := askMr (fu := fu) (p := p) ⟨hy.1.2.1, hn, hm, hb.2.1, hb.2.2.1, hy.lM, by omega, hb.2.2.2.2⟩ (by omega)
        refine ⟨Y, ?_, x2.r⟩
        unfold pM_asks
        rw [c2, pv_bnd, if_neg (by decide), one_y hn hy.1.2.1.1 hm, pv_bnd, if_neg (by decide), x1, pv_bnd]
