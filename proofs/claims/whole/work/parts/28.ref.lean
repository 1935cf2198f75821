section REF
variable {fu n lw m : Nat} {z : Sg} {F : Nat → Nat → Int32} {K : Nat → Int32} {C E : Nat → Nat}
def qM (fu : Nat) (z : Sg) (n lw m : Nat) (F : Nat → Nat → Int32) (K : Nat → Int32) (C E : Nat → Nat) : Prop := rM z n lw F K ∧ n ≤ 6 ∧ m < n ∧ lw < 6 ∧ tOK C E ∧ lM z lw C E ∧ 1000 ≤ fu ∧ bF n F K
theorem lM.eqM {z Z : Sg} {t : Nat} (h : lM z t C E) (e : EqM z Z) : lM Z t C E := by
  obtain ⟨h0, h1, h2, h3, h4⟩ := h
  have q : ∀ c, c < 94 → ∀ j, Z c j = z c j := fun c hc j => e c j (by unfold SM; omega)
  exact ⟨by rw [q 85 (by omega)]; exact h0, by rw [q 85 (by omega)]; exact h1, by rw [q 85 (by omega)]; exact h2, by rw [q 85 (by omega)]; exact h3, fun i hi => by rw [q 84 (by omega)]; exact h4 i hi⟩
theorem qM.e {Z : Sg} (h : qM fu z n lw m F K C E) (e : EqM z Z) : qM fu Z n lw m F K C E := by
  obtain ⟨h1, h2, h3, h4, h5, h6, h7, h8⟩ := h
  exact ⟨h1.eqM e, h2, h3, h4, h5, h6.eqM e, h7, h8⟩
theorem EqM.u {z Z : Sg} {c j : Nat} {v : Int32} (h : EqM z Z) (hs : SM c) : EqM z (u2 Z c j v) := fun a b hab => by
  rw [pv_u2, if_neg (fun q => by rw [q.1] at hab; exact hab hs)]
  exact h a b hab
theorem seenMr (h : rM z n lw F K) (hn : n ≤ 6) (hf : 10 ≤ fu) (hm : m < n) (p : Int32) : pM_besideOf fu (nI m) p z = some (seenM n F K m p, z) := by
  have hwho := whoMr (fu := fu) h hn hf p
  obtain ⟨a1, a2, a3, a4, a5, a6, a7, a8, a9, a10, a11⟩ := h
  unfold pM_besideOf seenM
  rw [a8, a9, hwho, pv_bnd]
  by_cases e : p = K 0
  · rw [if_pos e, if_pos e]
  · rw [if_neg e, if_neg e]
    rcases who_at (F := F) (n := n) p with ⟨e, -⟩ | ⟨j, hj, e, -⟩
    · rw [e, if_pos rfl, if_pos rfl, l_3, pk_mul, nI_1, pv_inb (by omega) (by omega), pv_chk, pv_ga (by omega), a4 m hm]
    · rw [e, if_neg (fun q => (pv_neg1 (by omega)).mp q), if_neg (fun q => (pv_neg1 (by omega)).mp q), l_3, pk_mul, nI_1, pv_inb (by omega) (by omega), pv_chk, pv_ga (by omega), a4 j hj, pv_clamp (by omega)]
theorem leftMr (h : rM z n lw F K) (hn : n ≤ 6) (hf : 10 ≤ fu) (hm : m < n) : pM_leftOf fu (nI m) z = some (seenM n F K m (F 0 m - 1), z) := by
  unfold pM_leftOf
  rw [l_3, pk_mul, pv_inb (by omega) (by omega), pv_chk, pv_ga (by omega), h.2.2.1 m hm, seenMr h hn hf hm, pv_bnd]
theorem rightMr (h : rM z n lw F K) (hn : n ≤ 6) (hf : 10 ≤ fu) (hm : m < n) : pM_rightOf fu (nI m) z = some (seenM n F K m (F 0 m + 1), z) := by
  unfold pM_rightOf
  rw [l_3, pk_mul, pv_inb (by omega) (by omega), pv_chk, pv_ga (by omega), h.2.2.1 m hm, seenMr h hn hf hm, pv_bnd]
theorem askMr (h : qM fu z n lw m F K C E) {p : Nat} (hp : p < 3) : ∃ Z, pM_asksOf fu (nI p) (nI m) z = some (saM C E p (nxM n F K m), Z) ∧ EqM z Z := by
  obtain ⟨h1, h2, h3, h4, h5, h6, h7, h8⟩ := h
  unfold pM_asksOf
  rw [pv_letm, h1.2.2.2.2.2.2.2.2.1]
  have s95 : SM 95 := Or.inr rfl
  have e1 : EqM z (u2 z 95 0 (K 1)) := EqM.rf.u s95
  have n1 : (u2 z 95 0 (K 1)) 95 0 = K 1 := by rw [pv_u2, if_pos ⟨rfl, rfl⟩]
  generalize u2 z 95 0 (K 1) = z1 at e1 n1 ⊢
  have r1 := h1.eqM e1
  rw [l_3, pk_mul, nI_1, pv_inb (by omega) (by omega), pv_chk, pv_letm, pv_ga (by omega), r1.2.2.2.1 m h3]
  have e2 : EqM z (u2 z1 95 1 (F 1 m)) := e1.u s95
  have n2 : (u2 z1 95 1 (F 1 m)) 95 0 = K 1 ∧ (u2 z1 95 1 (F 1 m)) 95 1 = F 1 m := ⟨by rw [pv_u2, if_neg (by omega)]; exact n1, by rw [pv_u2, if_pos ⟨rfl, rfl⟩]⟩
  generalize u2 z1 95 1 (F 1 m) = z2 at e2 n2 ⊢
  rw [leftMr (h1.eqM e2) h2 (by omega) h3, pv_bnd, pv_letm]
  generalize hs2 : seenM n F K m (F 0 m - 1) = s2
  show ∃ Z, (bnd (pM_rightOf fu (nI m) (u2 z2 95 2 s2)) _) = _ ∧ _
  have e3 : EqM z (u2 z2 95 2 s2) := e2.u s95
  have n3 : (u2 z2 95 2 s2) 95 0 = K 1 ∧ (u2 z2 95 2 s2) 95 1 = F 1 m ∧ (u2 z2 95 2 s2) 95 2 = s2 := ⟨by rw [pv_u2, if_neg (by omega)]; exact n2.1, by rw [pv_u2, if_neg (by omega)]; exact n2.2, by rw [pv_u2, if_pos ⟨rfl, rfl⟩]⟩
  generalize u2 z2 95 2 s2 = z3 at e3 n3 ⊢
  rw [rightMr (h1.eqM e3) h2 (by omega) h3, pv_bnd, pv_letm]
  generalize hs3 : seenM n F K m (F 0 m + 1) = s3
  show ∃ Z, chk _ (letm (u2 (u2 z3 95 3 s3) 95 4 (ga (u2 z3 95 3 s3) 81 (nI (3 * m) + 2))) _) = _ ∧ _
  have e4 : EqM z (u2 z3 95 3 s3) := e3.u s95
  have n4 : (u2 z3 95 3 s3) 95 0 = K 1 ∧ (u2 z3 95 3 s3) 95 1 = F 1 m ∧ (u2 z3 95 3 s3) 95 2 = s2 ∧ (u2 z3 95 3 s3) 95 3 = s3 := ⟨by rw [pv_u2, if_neg (by omega)]; exact n3.1, by rw [pv_u2, if_neg (by omega)]; exact n3.2.1, by rw [pv_u2, if_neg (by omega)]; exact n3.2.2, by rw [pv_u2, if_pos ⟨rfl, rfl⟩]⟩
  generalize u2 z3 95 3 s3 = z4 at e4 n4 ⊢
  rw [l_2, nI_add, pv_inb (by omega) (by omega), pv_chk, pv_letm, pv_ga (by omega), (h1.eqM e4).2.2.2.2.1 m h3]
  have e5 : EqM z (u2 z4 95 4 (F 2 m)) := e4.u s95
  have n5 : (u2 z4 95 4 (F 2 m)) 95 0 = K 1 ∧ (u2 z4 95 4 (F 2 m)) 95 1 = F 1 m ∧ (u2 z4 95 4 (F 2 m)) 95 2 = s2 ∧ (u2 z4 95 4 (F 2 m)) 95 3 = s3 ∧ (u2 z4 95 4 (F 2 m)) 95 4 = F 2 m := ⟨by rw [pv_u2, if_neg (by omega)]; exact n4.1, by rw [pv_u2, if_neg (by omega)]; exact n4.2.1, by rw [pv_u2, if_neg (by omega)]; exact n4.2.2.1, by rw [pv_u2, if_neg (by omega)]; exact n4.2.2.2, by rw [pv_u2, if_pos ⟨rfl, rfl⟩]⟩
  generalize u2 z4 95 4 (F 2 m) = z5 at e5 n5 ⊢
  rw [pv_inb (by omega) (by omega), pv_chk, pv_letm, pv_ga (by omega), (h1.eqM e5).2.2.2.2.2.2.1 m h3]
  have e6 : EqM z (u2 z5 95 5 (F 4 m)) := e5.u s95
  have n6 : ∀ j, j < 6 → (u2 z5 95 5 (F 4 m)) 95 j = nxM n F K m j := by
    intro j hj
    obtain ⟨q0, q1, q2, q3, q4⟩ := n5
    unfold nxM
    rw [hs2, hs3]
    rcases (show j = 0 ∨ j = 1 ∨ j = 2 ∨ j = 3 ∨ j = 4 ∨ j = 5 by omega) with rfl | rfl | rfl | rfl | rfl | rfl <;> simp [pv_u2, q0, q1, q2, q3, q4]
  generalize u2 z5 95 5 (F 4 m) = z6 at e6 n6 ⊢
  obtain ⟨v, Z, a1, a2, a3⟩ := saMr (fu := fu) hp h4 (by omega) h5 (h1.eqM e6).2.1 (h6.eqM e6) n6
  rw [a1, pv_bnd]
  refine ⟨Z, ?_, e6.tr (fun c j hc => a3 c j (fun q => hc (Or.inl q)))⟩
  unfold pM_asksOf_94 pM_asksOf_106
  rw [← a2]
  rcases (show p = 0 ∨ p = 1 ∨ p = 2 by omega) with rfl | rfl | rfl <;> simp only [cl_within, pv_bnd] <;> rfl
theorem keMr (h : qM fu z n lw m F K C E) : ∃ Z, pM_keepsOf fu (nI m) z = some (keM (saM C E) n F K m, Z) ∧ EqM z Z := by
  obtain ⟨Y, s1, s2⟩ := askMr h (p := 2) (by omega)
  obtain ⟨⟨a1, a2, a3, a4, a5, a6, a7, a8, a9, a10, a11⟩, h2, h3, h4, h5, h6, h7, h8⟩ := h
  obtain ⟨k, hk, ek⟩ := h8.2.2.2.1 m h3
  have s1 : pM_asksOf fu 2 (nI m) z = some (saM C E 2 (nxM n F K m), Y) := s1
  unfold pM_keepsOf keM
  rw [pv_inb (by omega) (by omega), pv_chk, pv_ga (by omega), a6 m h3, ek, a9, s1, pv_bnd, pv_chk, pv_ga (by omega), a7 m h3]
  rcases (show k = 0 ∨ k = 1 ∨ k = 2 ∨ k = 3 ∨ k = 4 ∨ k = 5 by omega) with rfl | rfl | rfl | rfl | rfl | rfl
  · exact ⟨Y, rfl, s2⟩
  · exact ⟨z, rfl, EqM.rf⟩
  · exact ⟨Y, rfl, s2⟩
  · exact ⟨z, rfl, EqM.rf⟩
  · exact ⟨z, rfl, EqM.rf⟩
  · exact ⟨Y, rfl, s2⟩
theorem hfMr (h : qM fu z n lw m F K C E) : ∃ Z, pM_swingsOf fu (nI m) z = some (hfM (saM C E) n F K m, Z) ∧ EqM z Z := by
  obtain ⟨Y, s1, s2⟩ := askMr h (p := 0) (by omega)
  obtain ⟨V, v1, v2⟩ := keMr h
  have hY := h.e s2
  obtain ⟨X, x1, x2⟩ := keMr hY
  obtain ⟨⟨a1, a2, a3, a4, a5, a6, a7, a8, a9, a10, a11⟩, h2, h3, h4, h5, h6, h7, h8⟩ := h
  obtain ⟨k, hk, ek⟩ := h8.2.2.2.1 m h3
  obtain ⟨o, ho, eo⟩ := h8.2.2.2.2.1 m h3
  obtain ⟨a, ha, ea⟩ := sa_b (C := C) (E := E) (p := 0) (by omega) (nxM n F K m)
  have s1 : pM_asksOf fu 0 (nI m) z = some (saM C E 0 (nxM n F K m), Y) := s1
  have hY6 : Y 79 m = F 3 m := hY.1.2.2.2.2.2.1 m h3
  have hY7 : Y 80 m = F 4 m := hY.1.2.2.2.2.2.2.1 m h3
  have hk5 : ∀ (v : Int32) (W : Sg), pM_swingsOf_120 fu v W = some ((if 0 ≤ v then (if v ≤ 11 then v else 11) else 0), W) := fun v W => by
    unfold pM_swingsOf_120
    rw [cl_within, pv_bnd]
  have b0 : bI 100 (saM C E 0 (nxM n F K m)) := ⟨a, by omega, ea⟩
  have b1 : bI 100 (saM C E 0 (nxM n F K m) + 1) := ⟨a + 1, by omega, by rw [ea, nI_1]⟩
  have b3 : bI 100 (saM C E 0 (nxM n F K m) + F 4 m / 3) := ⟨a + o / 3, by omega, by rw [ea, eo, l_3, pk_div (by omega) (by omega) (by omega), nI_add]⟩
  have b4 : bI 100 ((saM C E 0 (nxM n F K m) + F 4 m / 3) * 2) := ⟨(a + o / 3) * 2, by omega, by rw [ea, eo, l_3, pk_div (by omega) (by omega) (by omega), nI_add, l_2, pk_mul]⟩
  have c0 : c11 (saM C E 0 (nxM n F K m)) = saM C E 0 (nxM n F K m) := by
    rw [(c11_b (by omega) b0).2, ea, l_0, if_pos (nI_le (by omega) (by omega)), l_11, if_pos (nI_le (by omega) (by omega))]
  have d0 := (c11_b (by omega) b0).2
  have d1 := (c11_b (by omega) b1).2
  have d3 := (c11_b (by omega) b3).2
  have d4 := (c11_b (by omega) b4).2
  unfold pM_swingsOf hfM
  rw [l_3, pk_mul, nI_1, pv_inb (by omega) (by omega), pv_chk, pv_letm, pv_inb (by omega) (by omega), pv_chk, pv_ga (by omega), pv_ga (by omega), a6 m h3, a4 m h3, ek, a11, v1, pv_bnd, s1, pv_bnd, pv_chk, pv_letm, pv_chk, pv_ga (by omega), pv_ga (by omega), hY6, hY7, ek, x1, pv_bnd, hk5, hk5, cl_within, pv_bnd, cl_within, pv_bnd, ← l_3, Int32.mul_comm 2, ← d0, ← d1, ← d3, ← d4]
  rcases (show k = 0 ∨ k = 1 ∨ k = 2 ∨ k = 3 ∨ k = 4 ∨ k = 5 by omega) with rfl | rfl | rfl | rfl | rfl | rfl
  · exact ⟨Y, by rw [c0]; rfl, s2⟩
  · by_cases q : keM (saM C E) n F K m = F 1 m
    · refine ⟨X, ?_, s2.tr x2⟩; rw [if_neg (by decide), if_pos (by decide), if_pos q, if_neg (by decide), if_pos (by decide), if_pos q]
    · refine ⟨X, ?_, s2.tr x2⟩; rw [if_neg (by decide), if_pos (by decide), if_neg q, if_neg (by decide), if_pos (by decide), if_neg q]
  · exact ⟨Y, rfl, s2⟩
  · by_cases q : keM (saM C E) n F K m = F 1 m
    · refine ⟨X, ?_, s2.tr x2⟩; rw [if_neg (by decide), if_neg (by decide), if_neg (by decide), if_pos (by decide), if_pos q, if_neg (by decide), if_pos (by decide), if_pos q]
    · refine ⟨X, ?_, s2.tr x2⟩; rw [if_neg (by decide), if_neg (by decide), if_neg (by decide), if_pos (by decide), if_neg q, if_neg (by decide), if_pos (by decide), if_neg q]
  · exact ⟨Y, rfl, s2⟩
  · by_cases q : K 3 - K 3 / 5 * 5 = 0
    · refine ⟨z, ?_, EqM.rf⟩; rw [if_pos (by decide), if_pos q, if_pos (by decide), if_pos q]
    · refine ⟨V, ?_, v2⟩; rw [if_pos (by decide), if_neg q, if_pos (by decide), if_neg q]; rfl
theorem apMr {fu : Nat} {a b : Int32} {z : Sg} : pM_areApart fu a b z = some (if apM a b then 1 else 0, z) := by
  unfold pM_areApart apM pM_areApart_16
  by_cases h1 : a - b = 6
  · simp [h1]
  · by_cases h2 : b - a = 6 <;> simp [h1, h2]
theorem clMr (h : rM z n lw F K) (hn : n ≤ 6) (hf : 10 ≤ fu) (hm : m < n) : pM_doesClash fu (nI m) z = some (if clM n F K m then 1 else 0, z) := by
  unfold pM_doesClash clM pM_doesClash_35
  rw [l_3, pk_mul, nI_1, pv_inb (by omega) (by omega), pv_chk, pv_letm, pv_ga (by omega), h.2.2.2.1 m hm, leftMr h hn hf hm, pv_bnd, apMr, pv_bnd, rightMr h hn hf hm, pv_bnd, apMr, pv_bnd]
  cases apM (F 1 m) (seenM n F K m (F 0 m - 1)) <;> cases apM (F 1 m) (seenM n F K m (F 0 m + 1)) <;> rfl
theorem htMr (h : qM fu z n lw m F K C E) : ∃ Z, pM_tiresOf fu (nI m) z = some (htM (saM C E) n F K m, Z) ∧ EqM z Z := by
  obtain ⟨Y, s1, s2⟩ := askMr h (p := 1) (by omega)
  have hY := h.e s2
  obtain ⟨⟨a1, a2, a3, a4, a5, a6, a7, a8, a9, a10, a11⟩, h2, h3, h4, h5, h6, h7, h8⟩ := h
  have c1 := clMr (fu := fu) hY.1 h2 (by omega) h3
  obtain ⟨k, hk, ek⟩ := h8.2.2.2.1 m h3
  have s1 : pM_asksOf fu 1 (nI m) z = some (saM C E 1 (nxM n F K m), Y) := s1
  have hY6 : ga Y 79 (nI m) = F 3 m := by rw [pv_ga (by omega)]; exact hY.1.2.2.2.2.2.1 m h3
  have hY7 : ga Y 80 (nI m) = F 4 m := by rw [pv_ga (by omega)]; exact hY.1.2.2.2.2.2.2.1 m h3
  have h34 : ∀ t, pM_tiresOf_34 fu (nI m) t Y = some (if k = 2 ∨ k = 4 then 2 * t else if k = 3 then t - F 4 m else t, Y) := by
    intro t
    unfold pM_tiresOf_34
    rw [pv_inb (by omega) (by omega), pv_chk, pv_chk, hY6, hY7, ek]
    rcases (show k = 0 ∨ k = 1 ∨ k = 2 ∨ k = 3 ∨ k = 4 ∨ k = 5 by omega) with rfl | rfl | rfl | rfl | rfl | rfl <;> rfl
  unfold pM_tiresOf htM
  rw [pv_inb (by omega) (by omega), pv_chk, pv_ga (by omega), a6 m h3, ek, s1, pv_bnd, c1, pv_bnd, h34, h34]
  rcases (show k = 0 ∨ k = 1 ∨ k = 2 ∨ k = 3 ∨ k = 4 ∨ k = 5 by omega) with rfl | rfl | rfl | rfl | rfl | rfl
  · exact ⟨Y, by cases clM n F K m <;> rfl, s2⟩
  · exact ⟨Y, by cases clM n F K m <;> rfl, s2⟩
  · exact ⟨Y, by cases clM n F K m <;> rfl, s2⟩
  · exact ⟨Y, by cases clM n F K m <;> rfl, s2⟩
  · exact ⟨Y, by cases clM n F K m <;> rfl, s2⟩
  · exact ⟨z, rfl, EqM.rf⟩
end REF
