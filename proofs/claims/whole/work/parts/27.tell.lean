section CLS
variable {fu r n lw m : Nat} {z : Sg} {F : Nat → Nat → Int32} {K : Nat → Int32} {C E : Nat → Nat}
/-- what a question of the class rests on -/
def qC (fu : Nat) (z : Sg) (r n lw m : Nat) (F : Nat → Nat → Int32) (K : Nat → Int32) (C E : Nat → Nat) : Prop := isRow r ∧ lkd z r n lw F K m ∧ n ≤ 6 ∧ m < n ∧ lw < 6 ∧ tOK C E ∧ lC z (42 + 4 * lw) C E ∧ 1000 ≤ fu ∧ bF n F K
theorem lC.t {z Z : Sg} {lw : Nat} (hw : lw < 7) (h : lC z (42 + 4 * lw) C E) (e : EqT z Z) : lC Z (42 + 4 * lw) C E := by
  obtain ⟨h1, h2, h3, h4⟩ := h
  have q2 : ¬ ST (42 + 4 * lw + 2) := by unfold ST; omega
  have q1 : ¬ ST (42 + 4 * lw + 1) := by unfold ST; omega
  exact ⟨by rw [e _ _ q2]; exact h1, by rw [e _ _ q2]; exact h2, by rw [e _ _ q2]; exact h3, fun i hi => by rw [e _ _ q1]; exact h4 i hi⟩
theorem lC.s {z Z : Sg} {r lw : Nat} (hr : isRow r) (hw : lw < 7) (h : lC z (42 + 4 * lw) C E) (e : EqS r z Z) : lC Z (42 + 4 * lw) C E := by
  obtain ⟨h1, h2, h3, h4⟩ := h
  have q2 : ∀ j, ¬ SC r (42 + 4 * lw + 2) j := fun j => by unfold SC isRow at *; omega
  have q1 : ∀ j, ¬ SC r (42 + 4 * lw + 1) j := fun j => by unfold SC isRow at *; omega
  exact ⟨by rw [e _ _ (q2 _)]; exact h1, by rw [e _ _ (q2 _)]; exact h2, by rw [e _ _ (q2 _)]; exact h3, fun i hi => by rw [e _ _ (q1 _)]; exact h4 i hi⟩
theorem qC.t {Z : Sg} (h : qC fu z r n lw m F K C E) (e : EqT z Z) : qC fu Z r n lw m F K C E := by
  obtain ⟨h1, h2, h3, h4, h5, h6, h7, h8, h9⟩ := h
  exact ⟨h1, h2.t h1 e, h3, h4, h5, h6, h7.t (by omega) e, h8, h9⟩
theorem lawC (h : qC fu z r n lw m F K C E) {p : Nat} (hp : p < 3) : ∃ Z, pL_says fu (42 + 4 * (z r 4).toNatClampNeg) (r + 8) (nI p) z = some (saM C E p (nxM n F K m), Z) ∧ EqT z Z := by
  obtain ⟨h1, h2, h3, h4, h5, h6, h7, h8, h9⟩ := h
  rw [h2.1.2.1, pv_clamp (by omega)]
  obtain ⟨Z, e1, e2⟩ := saC (fu := fu) (nc := r + 8) hp (by omega) h6 h7 h2.2.2 (by unfold isRow at h1; omega)
  exact ⟨Z, e1, fun c j hc => e2 c j (fun q => hc (by unfold ST; omega))⟩
theorem keC (h : qC fu z r n lw m F K C E) : ∃ Z, pR_keepsTo fu r z = some (keM (saM C E) n F K m, Z) ∧ EqT z Z := by
  obtain ⟨Y, s1, s2⟩ := lawC h (p := 2) (by omega)
  obtain ⟨h1, ⟨⟨a1, a2, a3, a4, a5, a6, a7, a8, a9, a10, a11⟩, hw, hnm⟩, h3, h4, h5, h6, h7, h8, h9⟩ := h
  obtain ⟨k, hk, ek⟩ := h9.2.2.2.1 m h4
  have s1 : pL_says fu (42 + 4 * (z r 4).toNatClampNeg) (r + 8) 2 z = some (saM C E 2 (nxM n F K m), Y) := s1
  have hlw : inb (z r 4) 6 = true := by rw [a2]; exact pv_inb (by omega) (by omega)
  unfold pR_keepsTo keM
  rw [hw, pv_inb (by omega) (by omega), pv_chk, pv_ga (by omega), a6 m h4, ek, a9, hlw, pv_chk, s1, pv_bnd, pv_ga (by omega), a7 m h4]
  rcases (show k = 0 ∨ k = 1 ∨ k = 2 ∨ k = 3 ∨ k = 4 ∨ k = 5 by omega) with rfl | rfl | rfl | rfl | rfl | rfl
  · exact ⟨Y, rfl, s2⟩
  · exact ⟨z, rfl, EqT.rf⟩
  · exact ⟨Y, rfl, s2⟩
  · exact ⟨z, rfl, EqT.rf⟩
  · exact ⟨z, rfl, EqT.rf⟩
  · exact ⟨Y, rfl, s2⟩
theorem isA1 {z : Sg} {fu : Nat} (hf : 10 ≤ fu) {k : Nat} (hk : k < 6) : pS_isA fu (nI k) 1 z = some (if k = 1 ∨ k = 3 then 1 else 0, z) := by
  obtain ⟨g, rfl⟩ : ∃ g, fu = g + 7 := ⟨fu - 7, by omega⟩
  rcases (show k = 0 ∨ k = 1 ∨ k = 2 ∨ k = 3 ∨ k = 4 ∨ k = 5 by omega) with rfl | rfl | rfl | rfl | rfl | rfl <;> rfl
theorem isA2 {z : Sg} {fu : Nat} (hf : 10 ≤ fu) {k : Nat} (hk : k < 6) : pS_isA fu (nI k) 2 z = some (if k = 2 ∨ k = 4 then 1 else 0, z) := by
  obtain ⟨g, rfl⟩ : ∃ g, fu = g + 7 := ⟨fu - 7, by omega⟩
  rcases (show k = 0 ∨ k = 1 ∨ k = 2 ∨ k = 3 ∨ k = 4 ∨ k = 5 by omega) with rfl | rfl | rfl | rfl | rfl | rfl <;> rfl
theorem ke_b (h9 : bF n F K) (h4 : m < n) : bI 12 (keM (saM C E) n F K m) := by
  obtain ⟨k, hk, ek⟩ := h9.2.2.2.1 m h4
  unfold keM
  split
  · exact h9.2.2.2.2.2.2.1
  · split
    · obtain ⟨a, ha, e⟩ := h9.2.2.2.2.2.2.1
      rw [e, l_6, nI_add, l_12, pk_rem (by omega) (by omega) (by omega)]
      exact ⟨_, by omega, rfl⟩
    · split
      · obtain ⟨a, ha, e⟩ := h9.2.2.2.2.1 m h4
        exact ⟨a, by omega, e⟩
      · exact cl3_b (by omega) _
theorem sa_b {p : Nat} (hp : p ≠ 1) (nm : Nat → Int32) : bI 12 (saM C E p nm) := cl3_b hp _
theorem fmC {fu : Nat} {z : Sg} {x y : Int32} (hx : bI 12 x) (hy : bI 12 y) : pJM_floorMod fu (x - y) 12 z = some (fmM (x - y), z) := by
  obtain ⟨a, ha, rfl⟩ := hx
  obtain ⟨b, hb, rfl⟩ := hy
  have e := fm_tab a ha b hb
  unfold pJM_floorMod
  rw [show (!decide ((12 : Int32) = 0)) = true from by decide, pv_chk, pv_letm, ← e]
  (repeat' split) <;> rfl
theorem hfC (h : qC fu z r n lw m F K C E) : ∃ Z, pR_howFar fu r z = some (hfM (saM C E) n F K m, Z) ∧ EqT z Z := by
  obtain ⟨Y, s1, s2⟩ := lawC h (p := 0) (by omega)
  obtain ⟨V, v1, v2⟩ := keC h
  obtain ⟨X, x1, x2⟩ := keC (h.t s2)
  have hX := (h.t s2).t x2
  have hY := h.t s2
  obtain ⟨h1, ⟨⟨a1, a2, a3, a4, a5, a6, a7, a8, a9, a10, a11⟩, hw, hnm⟩, h3, h4, h5, h6, h7, h8, h9⟩ := h
  obtain ⟨k, hk, ek⟩ := h9.2.2.2.1 m h4
  have s1 : pL_says fu (42 + 4 * (z r 4).toNatClampNeg) (r + 8) 0 z = some (saM C E 0 (nxM n F K m), Y) := s1
  have hlw : inb (z r 4) 6 = true := by rw [a2]; exact pv_inb (by omega) (by omega)
  have hYw : Y r 6 = nI m ∧ ga Y (r + 7) (nI m) = F 4 m := ⟨hY.2.1.2.1, by rw [pv_ga (by omega)]; exact hY.2.1.1.2.2.2.2.2.2.1 m h4⟩
  unfold pR_howFar hfM
  rw [hw, pv_inb (by omega) (by omega), pv_chk, pv_letm, pv_chk, pv_letm, pv_ga (by omega), pv_ga (by omega), a6 m h4, a4 m h4, ek, a11, hlw, pv_chk, s1, pv_bnd, isA1 (by omega) hk, pv_bnd, v1, pv_bnd, fmC (ke_b h9 h4) (h9.2.1 m h4), pv_bnd]
  show ∃ Z, (if nI k = 5 then if K 3 - K 3 / 5 * 5 = 0 then some (0, z) else some (fmM (keM (saM C E) n F K m - F 1 m), V) else if (if k = 1 ∨ k = 3 then (1 : Int32) else 0) = 0 then pR_howFar_93 fu r (nI k) (saM C E 0 (nxM n F K m)) Y else bnd (pR_keepsTo fu r Y) _) = _ ∧ _
  rw [x1, pv_bnd]
  have h93 : ∀ (v : Int32) (W : Sg), W r 6 = nI m → ga W (r + 7) (nI m) = F 4 m → pR_howFar_93 fu r (nI k) v W = some (if k = 2 then c11 (v + F 4 m / 3) else if k = 4 then c11 ((v + F 4 m / 3) * 2) else c11 v, W) := by
    intro v W w1 w2
    unfold pR_howFar_93 pR_howFar_117 pR_howFar_126
    rw [isA2 (by omega) hk, pv_bnd, w1, pv_inb (by omega) (by omega), pv_chk, w2]
    rcases (show k = 0 ∨ k = 1 ∨ k = 2 ∨ k = 3 ∨ k = 4 ∨ k = 5 by omega) with rfl | rfl | rfl | rfl | rfl | rfl <;> rfl
  have hXw : X r 6 = nI m ∧ ga X (r + 7) (nI m) = F 4 m := ⟨hX.2.1.2.1, by rw [pv_ga (by omega)]; exact hX.2.1.1.2.2.2.2.2.2.1 m h4⟩
  rw [h93 _ Y hYw.1 hYw.2]
  show ∃ Z, (if nI k = 5 then if K 3 - K 3 / 5 * 5 = 0 then some (0, z) else some (fmM (keM (saM C E) n F K m - F 1 m), V) else if (if k = 1 ∨ k = 3 then (1 : Int32) else 0) = 0 then _ else if keM (saM C E) n F K m = F 1 m then pR_howFar_93 fu r (nI k) (saM C E 0 (nxM n F K m)) X else letm _ (fun x9 => pR_howFar_93 fu r (nI k) x9 X)) = _ ∧ _
  rw [pv_letm, h93 _ X hXw.1 hXw.2, h93 _ X hXw.1 hXw.2]
  rcases (show k = 0 ∨ k = 1 ∨ k = 2 ∨ k = 3 ∨ k = 4 ∨ k = 5 by omega) with rfl | rfl | rfl | rfl | rfl | rfl
  · refine ⟨Y, ?_, s2⟩
    simp only [show (nI 0 = 5) = False from by decide, show (nI 0 = 1) = False from by decide, show (nI 0 = 2) = False from by decide, show (nI 0 = 3) = False from by decide, show (nI 0 = 4) = False from by decide, show (0 = 1) = False from by decide, show (0 = 3) = False from by decide, show (0 = 2) = False from by decide, show (0 = 4) = False from by decide, or_self, if_false, if_true]
  · refine ⟨X, ?_, s2.tr x2⟩
    simp only [show (nI 1 = 5) = False from by decide, show (nI 1 = 1) = True from by decide, show (1 = 3) = False from by decide, show (1 = 2) = False from by decide, show (1 = 4) = False from by decide, or_false, true_or, if_false, if_true, show ((1 : Int32) = 0) = False from by decide]
    by_cases q : keM (saM C E) n F K m = F 1 m <;> simp only [q, if_true, if_false]
  · refine ⟨Y, ?_, s2⟩
    simp only [show (nI 2 = 5) = False from by decide, show (nI 2 = 1) = False from by decide, show (nI 2 = 2) = True from by decide, show (nI 2 = 3) = False from by decide, show (2 = 1) = False from by decide, show (2 = 3) = False from by decide, or_self, if_false, if_true]
  · refine ⟨X, ?_, s2.tr x2⟩
    simp only [show (nI 3 = 5) = False from by decide, show (nI 3 = 3) = True from by decide, show (3 = 1) = False from by decide, show (3 = 2) = False from by decide, show (3 = 4) = False from by decide, or_true, if_false, if_true, show ((1 : Int32) = 0) = False from by decide]
    by_cases q : keM (saM C E) n F K m = F 1 m <;> simp only [q, if_true, if_false]
  · refine ⟨Y, ?_, s2⟩
    simp only [show (nI 4 = 5) = False from by decide, show (nI 4 = 1) = False from by decide, show (nI 4 = 2) = False from by decide, show (nI 4 = 3) = False from by decide, show (nI 4 = 4) = True from by decide, show (4 = 1) = False from by decide, show (4 = 3) = False from by decide, show (4 = 2) = False from by decide, or_self, if_false, if_true]
  · by_cases q : K 3 - K 3 / 5 * 5 = 0
    · refine ⟨z, ?_, EqT.rf⟩
      simp only [show (nI 5 = 5) = True from by decide, q, if_true]
    · refine ⟨V, ?_, v2⟩
      simp only [show (nI 5 = 5) = True from by decide, q, if_true, if_false]
theorem clC (h : qC fu z r n lw m F K C E) : pR_clashes fu r z = some (if clM n F K m then 1 else 0, z) := by
  obtain ⟨h1, ⟨a, hw, hnm⟩, h3, h4, h5, h6, h7, h8, h9⟩ := h
  have q1 : z (r + 8) 1 = F 1 m := hnm 1 (by omega)
  have q2 : z (r + 8) 2 = seenM n F K m (F 0 m - 1) := hnm 2 (by omega)
  have q3 : z (r + 8) 3 = seenM n F K m (F 0 m + 1) := hnm 3 (by omega)
  obtain ⟨x, hx, ex⟩ := h9.2.1 m h4
  obtain ⟨a, ha, ea⟩ := seen_b h9 h4 h3 (F 0 m - 1)
  obtain ⟨b, hb, eb⟩ := seen_b h9 h4 h3 (F 0 m + 1)
  have t1 := cl_tab x hx a ha
  have t2 := cl_tab x hx b hb
  unfold pR_clashes clM pR_clashes_42
  rw [q1, q2, q3, ex, ea, eb]
  by_cases c1 : apM (nI x) (nI a) = true
  · rw [if_pos (t1.mpr c1), c1]; rfl
  · rw [if_neg (fun q => c1 (t1.mp q))]
    by_cases c2 : apM (nI x) (nI b) = true
    · rw [if_pos (t2.mpr c2), c2]; simp
    · rw [if_neg (fun q => c2 (t2.mp q))]; simp [c1, c2]
theorem htC (h : qC fu z r n lw m F K C E) : ∃ Z, pR_howTiring fu r z = some (htM (saM C E) n F K m, Z) ∧ EqT z Z := by
  obtain ⟨Y, s1, s2⟩ := lawC h (p := 1) (by omega)
  have hY := h.t s2
  have c1 := clC hY
  obtain ⟨h1, ⟨⟨a1, a2, a3, a4, a5, a6, a7, a8, a9, a10, a11⟩, hw, hnm⟩, h3, h4, h5, h6, h7, h8, h9⟩ := h
  obtain ⟨k, hk, ek⟩ := h9.2.2.2.1 m h4
  have s1 : pL_says fu (42 + 4 * (z r 4).toNatClampNeg) (r + 8) 1 z = some (saM C E 1 (nxM n F K m), Y) := s1
  have hlw : inb (z r 4) 6 = true := by rw [a2]; exact pv_inb (by omega) (by omega)
  have hYw : Y r 6 = nI m ∧ ga Y (r + 7) (nI m) = F 4 m := ⟨hY.2.1.2.1, by rw [pv_ga (by omega)]; exact hY.2.1.1.2.2.2.2.2.2.1 m h4⟩
  have h48 : ∀ t, pR_howTiring_48 fu r (nI k) (saM C E 1 (nxM n F K m)) t Y = some (if k = 2 ∨ k = 4 then 2 * (saM C E 1 (nxM n F K m) + t) else if k = 3 then (saM C E 1 (nxM n F K m) + t) - F 4 m else saM C E 1 (nxM n F K m) + t, Y) := by
    intro t
    unfold pR_howTiring_48
    rw [pv_letm, isA2 (by omega) hk, pv_bnd, hYw.1, pv_inb (by omega) (by omega), pv_chk, hYw.2]
    rcases (show k = 0 ∨ k = 1 ∨ k = 2 ∨ k = 3 ∨ k = 4 ∨ k = 5 by omega) with rfl | rfl | rfl | rfl | rfl | rfl <;> rfl
  unfold pR_howTiring htM
  rw [hw, pv_inb (by omega) (by omega), pv_chk, pv_letm, pv_ga (by omega), a6 m h4, ek, hlw, pv_chk, s1, pv_bnd, c1, pv_bnd, h48, h48, Int32.add_zero]
  rcases (show k = 0 ∨ k = 1 ∨ k = 2 ∨ k = 3 ∨ k = 4 ∨ k = 5 by omega) with rfl | rfl | rfl | rfl | rfl | rfl
  · exact ⟨Y, by cases clM n F K m <;> rfl, s2⟩
  · exact ⟨Y, by cases clM n F K m <;> rfl, s2⟩
  · exact ⟨Y, by cases clM n F K m <;> rfl, s2⟩
  · exact ⟨Y, by cases clM n F K m <;> rfl, s2⟩
  · exact ⟨Y, by cases clM n F K m <;> rfl, s2⟩
  · exact ⟨z, rfl, EqT.rf⟩
end CLS
