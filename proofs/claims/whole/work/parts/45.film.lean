/-! film -/
section FILM
variable {fu n lw tc ts : Nat} {F : Nat → Nat → Int32} {K : Nat → Int32} {C E : Nat → Nat → Nat}
theorem b8_tab : ∀ a, a < 12 → (nI a).toInt8.toInt32 = nI a := by decide +kernel
theorem itM_succ (L : LT) (n : Nat) : ∀ k s, itM L n (k + 1) s = s1M L n (itM L n k s) := by
  intro k
  induction k with
  | zero => intro s; rfl
  | succ k ih => intro s; show itM L n (k + 1) (s1M L n s) = _; rw [ih]; rfl
theorem it_b {CC EE : Nat → Nat} : ∀ k (s : FK), bs fu n lw s.1 s.2 CC EE → bs fu n lw (itM (saM CC EE) n k s).1 (itM (saM CC EE) n k s).2 CC EE := by
  intro k
  induction k with
  | zero => intro s hs; exact hs
  | succ k ih => intro s hs; exact ih _ hs.next
/-- what a sheet tells by film -/
def fiM (L : LT) (n m N : Nat) (s : FK) : Nat → Int32 := fun j => if j < N then (itM L n (j + 1) s).1 1 m else 0
theorem fiC_loop {CC EE : Nat → Nat} {m s0 N : Nat} (hm : m < n) (hs : s0 < 4) (hN : N ≤ 20) {y : Sg} (hy1 : y (70 + 2 * s0) 1 = 0) (hy0 : ∀ j, j < 40 → y (71 + 2 * s0) j = 0) (s : FK) (hb : bs fu n lw s.1 s.2 CC EE) : ∀ k i f z, i + k = N → k < f → rC z 20 n lw (itM (saM CC EE) n i s).1 (itM (saM CC EE) n i s).2 → lC z (42 + 4 * lw) CC EE → (∀ c j, ¬ QC c j → c ≠ 71 + 2 * s0 → z c j = y c j) → (∀ j, j < 40 → z (71 + 2 * s0) j = if j < i then (itM (saM CC EE) n (j + 1) s).1 1 m else 0) → ∃ Z, pS_film_62 fu f (nI s0) (nI m) (nI N) (nI i) z = some (nI N, Z) ∧ (∀ c j, ¬ QC c j → c ≠ 71 + 2 * s0 → Z c j = y c j) ∧ (∀ j, j < 40 → Z (71 + 2 * s0) j = fiM (saM CC EE) n m N s j) := by
  intro k
  induction k with
  | zero =>
    intro i f z h1 h2 h3 h4 h5 h6
    obtain ⟨f, rfl⟩ := fuS h2
    rw [pS_film_62, if_pos (nI_le (by omega) (by omega))]
    refine ⟨z, rfl, h5, fun j hj => ?_⟩
    rw [h6 j hj, show i = N by omega]
    rfl
  | succ k ih =>
    intro i f z h1 h2 h3 h4 h5 h6
    obtain ⟨f, rfl⟩ := fuS h2
    have hbi := it_b (fu := fu) (lw := lw) i s hb
    have hn := hb.1
    obtain ⟨Y, y1, y2, y3, y4⟩ := swC (Or.inr (Or.inl rfl)) hbi h3 h4
    have eY : ∀ c j, ¬ QC c j → Y c j = z c j := y4.q20
    have e70 : Y (70 + 2 * s0) 1 = 0 := by rw [eY _ _ (by unfold QC ST; omega), h5 _ _ (by unfold QC ST; omega) (by omega)]; exact hy1
    have hit := itM_succ (saM CC EE) n i s
    have y2' : rC Y 20 n lw (itM (saM CC EE) n (i + 1) s).1 (itM (saM CC EE) n (i + 1) s).2 := by rw [hit]; exact y2
    obtain ⟨a, ha, ea⟩ := (it_b (fu := fu) (lw := lw) (i + 1) s hb).2.2.2.2.2.1 m hm
    have e24 : ga Y 24 (nI m) = (itM (saM CC EE) n (i + 1) s).1 1 m := by rw [pv_ga (by omega)]; exact y2'.2.2.2.1 m hm
    rw [pS_film_62, if_neg (nI_ge (by omega) (by omega)), y1, pv_bnd, pv_inb (by omega) (by omega), pv_chk, pv_inb (by omega) (by omega), pv_chk, pv_clamp (by omega)]
    unfold pH_write pH_write_31
    rw [if_pos e70, e24, ea, b8_tab a ha, pv_inb (by omega) (by omega), pv_chk, pv_letm, pv_bndv, pv_letm, pv_sa (by omega), nI_1, show 70 + 2 * s0 + 1 = 71 + 2 * s0 by omega, ← ea]
    refine ih (i + 1) f _ (by omega) (by omega) (y2'.at (fun c j hc => by rw [pv_u2, if_neg (by omega)])) ((h4.w (Or.inr (Or.inl rfl)) (by have := hb.2.1; omega) y4).at (fun c j hc => by rw [pv_u2, if_neg (by have := hb.2.1; omega)])) (fun c j hc hc2 => by rw [pv_u2, if_neg (by omega), eY c j hc]; exact h5 c j hc hc2) (fun j hj => ?_)
    by_cases e : j = i
    · rw [e, pv_u2, if_pos ⟨rfl, rfl⟩, if_pos (by omega)]
    · rw [pv_u2, if_neg (by omega), eY _ _ (by unfold QC ST; omega), h6 j hj]
      by_cases q : j < i
      · rw [if_pos q, if_pos (by omega)]
      · rw [if_neg q, if_neg (by omega)]
theorem fiMr_loop {CC EE : Nat → Nat} {m s0 N : Nat} (hm : m < n) (hs : s0 < 4) (hN : N ≤ 20) {y z0 : Sg} (hy : kptM z0 y) (s : FK) (hb : bs fu n lw s.1 s.2 CC EE) : ∀ k i f z, i + k = 40 → k < f → rM z n lw (itM (saM CC EE) n (min i N) s).1 (itM (saM CC EE) n (min i N) s).2 → lM z lw CC EE → (∀ c j, ¬ (c = 90 ∧ 40 * s0 ≤ j ∧ j < 40 * s0 + 40) → c ≠ 94 → c ≠ 95 → c ≠ 96 → (c ≠ 81 ∨ 18 ≤ j) → (c ≠ 82 ∨ 4 ≤ j) → z c j = y c j) → (∀ j, j < i → z 90 (40 * s0 + j) = fiM (saM CC EE) n m N s j) → ∃ Z, pM_film_57 fu f (nI s0) (nI m) (nI N) (nI i) z = some (nI N, Z) ∧ (∀ c j, ¬ (c = 90 ∧ 40 * s0 ≤ j ∧ j < 40 * s0 + 40) → ¬ (94 ≤ c ∧ c ≤ 97) → Z c j = z0 c j) ∧ (∀ j, j < 40 → Z 90 (40 * s0 + j) = fiM (saM CC EE) n m N s j) := by
  intro k
  induction k with
  | zero =>
    intro i f z h1 h2 h3 h4 h5 h6
    obtain ⟨f, rfl⟩ := fuS h2
    have hfu := hb.2.2.2.1
    obtain ⟨Z, z1, z2, z3, z4⟩ := layMr1 (fu := fu) (y := z) (by omega) 18 0 fu z (by omega) (by omega) (fun _ _ _ => rfl) (fun j hj => absurd hj (by omega))
    rw [pM_film_57, if_pos (show (40 : Int32) ≤ nI i from nI_le (a := 40) (by omega) (by omega))]
    unfold pM_lays
    rw [show pM_lays_2 fu fu 0 z = _ from z1, pv_bndv]
    refine ⟨Z, rfl, fun c j c1 c2 => ?_, fun j hj => ?_⟩
    · by_cases e1 : c = 81 ∧ j < 18
      · obtain ⟨rfl, hj⟩ := e1
        rw [z3 j hj, h5 97 j (by omega) (by omega) (by omega) (by omega) (by omega) (by omega)]; exact hy.2.1 j hj
      · by_cases e2 : c = 82 ∧ j < 5
        · obtain ⟨rfl, hj⟩ := e2
          rw [z4 j hj, h5 97 _ (by omega) (by omega) (by omega) (by omega) (by omega) (by omega)]; exact hy.2.2 j hj
        · rw [z2 c j (by omega) (by omega), h5 c j c1 (by omega) (by omega) (by omega) (by omega) (by omega)]; exact hy.1 c j (by omega)
    · rw [z2 90 _ (by omega) (by omega)]; exact h6 j (by omega)
  | succ k ih =>
    intro i f z h1 h2 h3 h4 h5 h6
    obtain ⟨f, rfl⟩ := fuS h2
    have hn := hb.1
    rw [pM_film_57, if_neg (show ¬ (40 : Int32) ≤ nI i from nI_ge (b := 40) (by omega) (by omega)), l_40, pk_mul, nI_add, pv_inb (by omega) (by omega), pv_chk, pv_letm, pv_sa (by omega)]
    unfold pM_film_110
    by_cases q : i < N
    · have emin : min i N = i := by omega
      rw [emin] at h3
      have hbi := it_b (fu := fu) (lw := lw) i s hb
      have r1 : rM (u2 z 90 (40 * s0 + i) 0) n lw (itM (saM CC EE) n i s).1 (itM (saM CC EE) n i s).2 := h3.at (fun c j hc => by rw [pv_u2, if_neg (by omega)])
      obtain ⟨Y, y1, y2, y4⟩ := swMr hbi r1 (h4.at (fun c j hc => by rw [pv_u2, if_neg (by omega)]))
      have hit := itM_succ (saM CC EE) n i s
      have y2' : rM Y n lw (itM (saM CC EE) n (i + 1) s).1 (itM (saM CC EE) n (i + 1) s).2 := by rw [hit]; exact y2
      have e81 : ga Y 81 (nI (3 * m + 1)) = (itM (saM CC EE) n (i + 1) s).1 1 m := by rw [pv_ga (by omega)]; exact y2'.2.2.2.1 m hm
      rw [if_neg (nI_ge q (by omega)), y1, pv_bnd, l_3, pk_mul, nI_1, pv_inb (by omega) (by omega), pv_chk, pv_chk, pv_letm, pv_letm, pv_sa (by omega), e81, nI_1]
      refine ih (i + 1) f _ (by omega) (by omega) ?_ ((h4.at (fun c j hc => by rw [pv_u2, if_neg (by omega), y4 c j (by omega) (by omega) (by omega) (by omega) (by omega), pv_u2, if_neg (by omega)]))) (fun c j c1 c2 c3 c4 c5 c6 => by rw [pv_u2, if_neg (by omega), y4 c j (by omega) (by omega) (by omega) (by omega) (by omega), pv_u2, if_neg (by omega)]; exact h5 c j c1 c2 c3 c4 c5 c6) (fun j hj => ?_)
      · rw [show min (i + 1) N = i + 1 by omega]
        exact y2'.at (fun c j hc => by rw [pv_u2, if_neg (by omega)])
      · by_cases e : j = i
        · rw [e, pv_u2, if_pos ⟨rfl, rfl⟩]
          unfold fiM
          rw [if_pos q]
        · rw [pv_u2, if_neg (by omega), y4 90 _ (by omega) (by omega) (by omega) (by omega) (by omega), pv_u2, if_neg (by omega)]
          exact h6 j (by omega)
    · rw [if_pos (nI_le (by omega) (by omega)), pv_letm, nI_1]
      refine ih (i + 1) f _ (by omega) (by omega) ?_ (h4.at (fun c j hc => by rw [pv_u2, if_neg (by omega)])) (fun c j c1 c2 c3 c4 c5 c6 => by rw [pv_u2, if_neg (by omega)]; exact h5 c j c1 c2 c3 c4 c5 c6) (fun j hj => ?_)
      · rw [show min (i + 1) N = min i N by omega]
        exact h3.at (fun c j hc => by rw [pv_u2, if_neg (by omega)])
      · by_cases e : j = i
        · rw [e, pv_u2, if_pos ⟨rfl, rfl⟩]
          unfold fiM
          rw [if_neg q]
        · rw [pv_u2, if_neg (by omega)]
          exact h6 j (by omega)
theorem st_film {fu : Nat} (hf : 50000 ≤ fu) (z : Sg) (a1 a2 a3 : Int32) (h : Inv z) : ∃ (r : Int32) (z1 z2 : Sg), pS_film fu a1 a2 a3 z = some (r, z1) ∧ pM_film fu a1 a2 a3 z1 = some (r, z2) ∧ Inv z2 := by
  obtain ⟨n, lw, tc, ts, F, K, C, E, h⟩ := h
  have hI : Inv z := ⟨n, lw, tc, ts, F, K, C, E, h⟩
  have hn := h.1.2.2.1.1
  rcases wi_cases (M := 3) (k := 3) rfl (by omega) a1 with ⟨c1, c2⟩ | ⟨s, hs, rfl, c1, c2⟩
  · exact ⟨-2, z, z, by unfold pS_film; rw [c1, pv_bnd, if_pos rfl], by unfold pM_film; rw [c2, pv_bnd, if_pos rfl], hI⟩
  · rcases has_cases hn h.1.1.1 h.1.2.1.1 a2 with ⟨d1, d2⟩ | ⟨m, hm, rfl, d1, d2⟩
    · exact ⟨-5, z, z, by unfold pS_film; rw [c1, pv_bnd, if_neg (by decide), d1, pv_bnd, if_pos rfl], by unfold pM_film; rw [c2, pv_bnd, if_neg (by decide), d2, pv_bnd, if_pos rfl], hI⟩
    · rcases wi_cases (M := 20) (k := 20) rfl (by omega) a3 with ⟨e1, e2⟩ | ⟨N, hN, rfl, e1, e2⟩
      · exact ⟨-7, z, z, by unfold pS_film; rw [c1, pv_bnd, if_neg (by decide), d1, pv_bnd, if_neg (by decide), e1, pv_bnd, if_pos rfl], by unfold pM_film; rw [c2, pv_bnd, if_neg (by decide), d2, pv_bnd, if_neg (by decide), e2, pv_bnd, if_pos rfl], hI⟩
      · have hb := h.bs (fu := fu) (by omega)
        have hl6 := hb.2.1
        obtain ⟨Y, t1, t2, t3, t4⟩ := ip_think (fu := fu) hf h
        obtain ⟨W, w1, w2, w3, w4, w5⟩ := remC (fu := fu) (b := 70 + 2 * s) (by omega) 0 (nI N) Y
        have w4' : ∀ j, j < 40 → W (71 + 2 * s) j = 0 := fun j hj => by rw [show 71 + 2 * s = 70 + 2 * s + 1 by omega]; exact w4 j hj
        obtain ⟨Z, z1, z2, z3⟩ := fiC_loop (fu := fu) (lw := lw) (m := m) (s0 := s) (N := N) hm (by omega) hN (y := W) w2 w4' (F, K) hb N 0 fu W (by omega) (by omega) (t2.at (fun c j hc => w5 c j (by omega) (by omega))) (t4.at (fun c j hc => w5 c j (by omega) (by omega))) (fun _ _ _ _ => rfl) (fun j hj => by rw [w4' j hj, if_neg (by omega)])
        have eZ : ∀ c j, ¬ QC c j → c ≠ 70 + 2 * s → c ≠ 71 + 2 * s → Z c j = z c j := fun c j q1 q2 q3 => by rw [z2 c j q1 q3, w5 c j q2 (by omega)]; exact t3 c j q1
        -- the reference
        have e2' : ∀ c j, ¬ ((c = 88 ∨ c = 89) ∧ j = s) → (u2 (u2 Z 88 s 0) 89 s (nI N)) c j = Z c j := fun c j hc => by rw [pv_u2, if_neg (by omega), pv_u2, if_neg (by omega)]
        obtain ⟨V, v1, v2⟩ := keepMr (fu := fu) (by omega) (u2 (u2 Z 88 s 0) 89 s (nI N))
        have rz : rM (u2 (u2 Z 88 s 0) 89 s (nI N)) n lw F K := h.1.2.1.at (fun c j hc => by rw [e2' c j (by omega)]; exact eZ c j (by unfold QC ST; omega) (by omega) (by omega))
        have lz : lM (u2 (u2 Z 88 s 0) 89 s (nI N)) lw (C lw) (E lw) := h.lM.at (fun c j hc => by rw [e2' c j (by omega)]; exact eZ c j (by unfold QC ST; omega) (by omega) (by omega))
        obtain ⟨X, x1, x2, x3⟩ := fiMr_loop (fu := fu) (lw := lw) (m := m) (s0 := s) (N := N) hm (by omega) hN v2 (F, K) hb 40 0 fu V (by omega) (by omega) (by rw [Nat.zero_min]; exact rz.kpt v2) (lz.kpt v2) (fun _ _ _ _ _ _ _ _ => rfl) (fun j hj => absurd hj (by omega))
        have eX : ∀ c j, ¬ (c = 90 ∧ 40 * s ≤ j ∧ j < 40 * s + 40) → ¬ (94 ≤ c ∧ c ≤ 97) → ¬ ((c = 88 ∨ c = 89) ∧ j = s) → X c j = Z c j := fun c j q1 q2 q3 => by rw [x2 c j q1 q2]; exact e2' c j q3
        refine ⟨nI N, Z, X, ?_, ?_, h.sheet (s := s) (k := N) (by omega) ⟨by omega, ?_, ?_, ?_, ?_, fun j hj => ?_⟩ (fun c j q1 q2 q3 q4 q5 q6 => ?_)⟩
        · unfold pS_film
          rw [c1, pv_bnd, if_neg (by decide), d1, pv_bnd, if_neg (by decide), e1, pv_bnd, if_neg (by decide), t1, pv_bndv, pv_inb (by omega) (by omega), pv_chk, pv_clamp (by omega), w1, pv_bndv]
          exact z1
        · unfold pM_film
          rw [c2, pv_bnd, if_neg (by decide), one_y hn (by rw [eZ 78 0 (by unfold QC ST; omega) (by omega) (by omega)]; exact h.1.2.1.1) hm, pv_bnd, if_neg (by decide), e2, pv_bnd, if_neg (by decide), pv_inb (by omega) (by omega), pv_chk, pv_letm, pv_chk, pv_letm, pv_sa (by omega), pv_sa (by omega), v1, pv_bndv]
          exact x1
        · rw [eX _ _ (by omega) (by omega) (by omega), z2 _ _ (by unfold QC ST; omega) (by omega)]; exact w3
        · rw [x2 _ _ (by omega) (by omega), pv_u2, if_pos ⟨rfl, rfl⟩]
        · rw [x2 88 s (by omega) (by omega), pv_u2, if_neg (by omega), pv_u2, if_pos ⟨rfl, rfl⟩, eX _ _ (by omega) (by omega) (by omega), z2 _ _ (by unfold QC ST; omega) (by omega)]; exact w2.symm
        · rw [x2 88 s (by omega) (by omega), pv_u2, if_neg (by omega), pv_u2, if_pos ⟨rfl, rfl⟩]; exact Or.inr ⟨0, by omega, rfl⟩
        · rw [x3 j hj, eX _ _ (by omega) (by omega) (by omega), z3 j hj]
        · rw [eX c j q6 (fun w => q2 (by unfold QM; omega)) q5]; exact eZ c j q1 q3 q4
end FILM
