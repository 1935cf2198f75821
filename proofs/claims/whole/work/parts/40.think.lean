/-- what run tells behind its strokes -/
def tbM (n : Nat) (a2 : Int32) (s : FK) : Int32 := if a2 = 1 then isM n s.1 s.2 else if a2 = 2 then csM n s.1 s.2 else if a2 = 3 then s.2 1 else if 20 ≤ a2 then s.1 2 (a2 - 20).toNatClampNeg else s.1 1 (a2 - 10).toNatClampNeg
theorem st_run {fu : Nat} (hf : 50000 ≤ fu) (z : Sg) (a1 a2 : Int32) (h : Inv z) : ∃ (r : Int32) (z1 z2 : Sg), pS_run fu a1 a2 z = some (r, z1) ∧ pM_run fu a1 a2 z1 = some (r, z2) ∧ Inv z2 := by
  obtain ⟨n, lw, tc, ts, F, K, C, E, h⟩ := h
  have hI : Inv z := ⟨n, lw, tc, ts, F, K, C, E, h⟩
  have hn := h.1.2.2.1.1
  have hb := h.bs (fu := fu) (by omega)
  have hl6 := hb.2.1
  have hz9 := h.1.1.1
  have hz78 := h.1.2.1.1
  obtain ⟨Y, t1, t2, t3, t4⟩ := ip_think (fu := fu) hf h
  -- nothing that is asked for
  have bad : pS_run fu a1 a2 z = pS_run_51 fu a1 a2 0 0 z → (∀ fu w, pS_within fu a2 3 w = some (0, w)) → pM_run fu a1 a2 z = pM_run_46 fu a1 a2 0 z → ∃ (r : Int32) (z1 z2 : Sg), pS_run fu a1 a2 z = some (r, z1) ∧ pM_run fu a1 a2 z1 = some (r, z2) ∧ Inv z2 := by
    intro e1 e2 e3
    refine ⟨-2, z, z, ?_, ?_, hI⟩
    · rw [e1]
      unfold pS_run_51
      rcases wi_cases (M := 60) (k := 60) rfl (by omega) a1 with ⟨c1, c2⟩ | ⟨q, hq, rfl, c1, c2⟩
      · rw [c1, pv_bnd, if_pos rfl]
      · rw [c1, pv_bnd, if_neg (by decide), e2, pv_bnd, if_pos rfl, if_pos rfl, if_pos rfl]
    · rw [e3]
      unfold pM_run_46
      rcases wi_cases (M := 60) (k := 60) rfl (by omega) a1 with ⟨c1, c2⟩ | ⟨q, hq, rfl, c1, c2⟩
      · rw [c2, pv_bnd, if_pos rfl]
      · rw [c2, pv_bnd, if_neg (by decide), if_pos rfl]
  -- something that is asked for
  have good : ∀ t3' t4' : Int32, pS_run fu a1 a2 z = pS_run_51 fu a1 a2 t3' t4' z → (∀ _ : Sg, pS_run_51 fu a1 a2 t3' t4' z = bnd (pS_within fu a1 60 z) (fun x6 z5 => if x6 = 0 then some (-2, z5) else pS_run_82 fu a1 a2 t3' z5)) → (∀ y : Sg, y 78 0 = nI n → pM_run fu a1 a2 y = pM_run_46 fu a1 a2 1 y) → (∀ (cut : Int32) (s : FK) (W : Sg), rC W 20 n lw s.1 s.2 → lC W (42 + 4 * lw) (C lw) (E lw) → bs fu n lw s.1 s.2 (C lw) (E lw) → ∃ V, (if a2 = 0 then some (cut, W) else (if a2 = 1 then bnd (pR_inStepBits fu 20 W) (fun x13 z12 => some (x13, z12)) else (if a2 = 2 then bnd (pR_clashBits fu 20 W) (fun x15 z14 => some (x15, z14)) else (if a2 = 3 then some (W 21 1, W) else (if t3' = 0 then chk (inb (a2 - 20) 6) (some (ga W 25 (a2 - 20), W)) else chk (inb (a2 - 10) 6) (some (ga W 24 (a2 - 10), W))))))) = some (if a2 = 0 then cut else tbM n a2 s, V) ∧ EqQ W V) → (∀ (s : FK) (W : Sg), a2 ≠ 0 → rM W n lw s.1 s.2 → pM_toldBehind fu a2 W = some (tbM n a2 s, W)) → ∃ (r : Int32) (z1 z2 : Sg), pS_run fu a1 a2 z = some (r, z1) ∧ pM_run fu a1 a2 z1 = some (r, z2) ∧ Inv z2 := by
    intro t3' t4' e1 e2 e3 e4 e5
    rcases wi_cases (M := 60) (k := 60) rfl (by omega) a1 with ⟨c1, c2⟩ | ⟨q, hq, rfl, c1, c2⟩
    · refine ⟨-2, z, z, by rw [e1, e2 z, c1, pv_bnd, if_pos rfl], ?_, hI⟩
      rw [e3 z hz78]
      unfold pM_run_46
      rw [c2, pv_bnd, if_pos rfl]
    · obtain ⟨Z, x1, x2, x3⟩ := cutC (fu := fu) (Or.inr (Or.inl rfl)) (q := q) (by omega) (F, K) hb t2 t4
      have hbq : ∀ k (s : FK), bs fu n lw s.1 s.2 (C lw) (E lw) → bs fu n lw (itM (saM (C lw) (E lw)) n k s).1 (itM (saM (C lw) (E lw)) n k s).2 (C lw) (E lw) := by
        intro k
        induction k with
        | zero => intro s hs; exact hs
        | succ k ih => intro s hs; exact ih _ hs.next
      obtain ⟨V, v1, v2⟩ := e4 (suM (saM (C lw) (E lw)) n q (F, K) 0) _ Z x2 (lc_q hl6 t4 x3.q20) (hbq q (F, K) hb)
      refine ask2 h (if a2 = 0 then suM (saM (C lw) (E lw)) n q (F, K) 0 else tbM n a2 (itM (saM (C lw) (E lw)) n q (F, K))) ⟨V, ?_, (t3.tr x3.q20).tr v2⟩ (fun y hy _ => ?_)
      · rw [e1, e2 z, c1, pv_bnd, if_neg (by decide)]
        unfold pS_run_82
        rw [t1, pv_bndv, x1, pv_bnd]
        exact v1
      · obtain ⟨y1, k1, k2⟩ := keepMr (fu := fu) (by omega) y
        obtain ⟨y2, g1, g2, g3⟩ := goMr (fu := fu) (q := q) (by omega) (F, K) hb (hy.1.2.1.kpt k2) (hy.lM.kpt k2)
        obtain ⟨y3, l1, l2⟩ := layMr (fu := fu) (by omega) k2 g3
        refine ⟨y3, ?_, l2.r⟩
        rw [e3 y hy.1.2.1.1]
        unfold pM_run_46
        rw [c2, pv_bnd, if_neg (by decide), if_neg (by decide), k1, pv_bndv, g1, pv_bnd]
        unfold pM_run_89
        by_cases q0 : a2 = 0
        · rw [if_pos q0, l1, pv_bndv, if_pos q0]
        · rw [if_neg q0, e5 _ y2 q0 g2, pv_bnd, l1, pv_bndv, if_neg q0]
  by_cases w1 : ∃ q, q < 4 ∧ a2 = nI q
  · obtain ⟨q, hq, rfl⟩ := w1
    have hin : ∀ fu w, pS_within fu (nI q) 3 w = some (1, w) := fun fu w => by
      unfold pS_within
      rw [if_neg (nI_pos (by omega)), if_neg (show ¬ (3 : Int32) < nI q from nI_nlt (a := 3) (b := q) (by omega) (by omega))]
    refine good 0 0 ?_ (fun _ => ?_) (fun y hy => ?_) (fun cut s W r1 l1 b1 => ?_) (fun s W q0 r1 => ?_)
    · unfold pS_run pS_run_24 pS_run_25 pS_run_50
      rw [if_pos (show nI q < 10 from nI_lt (b := 10) (by omega) (by omega)), if_pos (show nI q < 20 from nI_lt (b := 20) (by omega) (by omega))]
    · unfold pS_run_51
      simp only [hin, pv_bnd, show ((1 : Int32) = 0) = False from by decide, if_false]
    · unfold pM_run pM_run_41
      rw [show pM_in fu (nI q) 0 3 y = some (1, y) from hin fu y, pv_bnd, if_neg (by decide)]
    · rcases (show q = 0 ∨ q = 1 ∨ q = 2 ∨ q = 3 by omega) with rfl | rfl | rfl | rfl
      · exact ⟨W, by rw [if_pos (by decide), if_pos (by decide)], EqQ.rf⟩
      · refine ⟨W, ?_, EqQ.rf⟩
        rw [if_neg (by decide), if_pos (by decide), isnC r1 hn (by omega), pv_bnd, if_neg (by decide)]
        rfl
      · obtain ⟨V, v1, v2⟩ := csC (fu := fu) (Or.inr (Or.inl rfl)) b1 r1 l1
        refine ⟨V, ?_, v2.s.q20⟩
        rw [if_neg (by decide), if_neg (by decide), if_pos (by decide), v1, pv_bnd, if_neg (by decide)]
        rfl
      · refine ⟨W, ?_, EqQ.rf⟩
        rw [if_neg (by decide), if_neg (by decide), if_neg (by decide), if_pos (by decide), if_neg (by decide), show W 21 1 = s.2 1 from r1.2.2.2.2.2.2.2.2.1]
        rfl
    · unfold pM_toldBehind
      rcases (show q = 0 ∨ q = 1 ∨ q = 2 ∨ q = 3 by omega) with rfl | rfl | rfl | rfl
      · exact absurd rfl q0
      · rw [if_pos (by decide), isMr r1 hn (by omega), pv_bnd]; rfl
      · rw [if_neg (by decide), if_pos (by decide), csMr r1 hn (by omega), pv_bnd]; rfl
      · rw [if_neg (by decide), if_neg (by decide), if_pos (by decide), r1.2.2.2.2.2.2.2.2.1]; rfl
  · have n4 : ∀ q, q < 4 → a2 ≠ nI q := fun q hq e => w1 ⟨q, hq, e⟩
    have hin : ∀ fu w, pS_within fu a2 3 w = some (0, w) := by
      rcases wi_cases (M := 3) (k := 3) rfl (by omega) a2 with ⟨c1, c2⟩ | ⟨q, hq, rfl, c1, c2⟩
      · exact c1
      · exact absurd rfl (n4 q (by omega))
    have h0 : ¬ a2 = 0 := n4 0 (by omega)
    have h1 : ¬ a2 = 1 := n4 1 (by omega)
    have h2 : ¬ a2 = 2 := n4 2 (by omega)
    have h3 : ¬ a2 = 3 := n4 3 (by omega)
    by_cases w2 : ∃ m, m < n ∧ a2 = nI (m + 10)
    · obtain ⟨m, hm, rfl⟩ := w2
      refine good 1 0 ?_ (fun _ => ?_) (fun y hy => ?_) (fun cut s W r1 l1 b1 => ?_) (fun s W q0 r1 => ?_)
      · unfold pS_run pS_run_25 pS_run_50
        rw [if_neg (show ¬ nI (m + 10) < 10 from nI_nlt (b := 10) (by omega) (by omega)), show nI (m + 10) - 10 = nI m from (pk_sub (a := m + 10) (b := 10) (by omega)).trans (by rw [Nat.add_sub_cancel])]
        unfold pR_has
        rw [if_neg (nI_pos (by omega)), hz9, if_neg (nI_ge hm (by omega)), pv_bnd, if_neg (by decide), if_pos (show nI (m + 10) < 20 from nI_lt (b := 20) (by omega) (by omega))]
      · unfold pS_run_51
        simp only [hin, pv_bnd, show ((1 : Int32) = 0) = False from by decide, if_false, if_true]
      · unfold pM_run pM_run_41
        rw [show pM_in fu (nI (m + 10)) 0 3 y = some (0, y) from hin fu y, pv_bnd, if_pos rfl, show pM_in fu (nI (m + 10)) 10 (9 + y 78 0) y = some (1, y) from inr_yes (d := 10) (Or.inl ⟨rfl, rfl⟩) hn hm hy, pv_bnd, if_neg (by decide)]
      · refine ⟨W, ?_, EqQ.rf⟩
        unfold tbM
        rw [if_neg h0, if_neg h1, if_neg h2, if_neg h3, if_neg h0, if_neg h1, if_neg h2, if_neg h3, if_neg (by decide), if_neg (show ¬ (20 : Int32) ≤ nI (m + 10) from nI_ge (b := 20) (by omega) (by omega)), show nI (m + 10) - 10 = nI m from (pk_sub (a := m + 10) (b := 10) (by omega)).trans (by rw [Nat.add_sub_cancel]), pv_inb (by omega) (by omega), pv_chk, pv_ga (by omega), pv_clamp (by omega), show W 24 m = s.1 1 m from r1.2.2.2.1 m hm]
      · unfold pM_toldBehind tbM
        rw [if_neg h1, if_neg h2, if_neg h3, if_neg h1, if_neg h2, if_neg h3, if_neg (show ¬ (20 : Int32) ≤ nI (m + 10) from nI_ge (b := 20) (by omega) (by omega)), if_neg (show ¬ (20 : Int32) ≤ nI (m + 10) from nI_ge (b := 20) (by omega) (by omega)), show nI (m + 10) - 10 = nI m from (pk_sub (a := m + 10) (b := 10) (by omega)).trans (by rw [Nat.add_sub_cancel]), l_3, pk_mul, nI_1, pv_inb (by omega) (by omega), pv_chk, pv_ga (by omega), pv_clamp (by omega), r1.2.2.2.1 m hm]
    · have n10 : ∀ m, m < n → a2 ≠ nI (m + 10) := fun m hm e => w2 ⟨m, hm, e⟩
      by_cases w3 : ∃ m, m < n ∧ a2 = nI (m + 20)
      · obtain ⟨m, hm, rfl⟩ := w3
        refine good 0 1 ?_ (fun _ => ?_) (fun y hy => ?_) (fun cut s W r1 l1 b1 => ?_) (fun s W q0 r1 => ?_)
        · unfold pS_run pS_run_24 pS_run_25
          rw [if_neg (show ¬ nI (m + 20) < 10 from nI_nlt (b := 10) (by omega) (by omega)), show pR_has fu 9 (nI (m + 20) - 10) z = some (0, z) from has_no (d := 10) (Or.inl rfl) hn n10 hz9 (nI_nlt (by omega) (by omega)), pv_bnd, if_pos rfl, if_neg (show ¬ nI (m + 20) < 20 from nI_nlt (b := 20) (by omega) (by omega)), show nI (m + 20) - 20 = nI m from (pk_sub (a := m + 20) (b := 20) (by omega)).trans (by rw [Nat.add_sub_cancel])]
          unfold pR_has
          rw [if_neg (nI_pos (by omega)), hz9, if_neg (nI_ge hm (by omega)), pv_bnd, if_neg (by decide)]
        · unfold pS_run_51
          simp only [hin, pv_bnd, show ((1 : Int32) = 0) = False from by decide, if_false, if_true]
        · unfold pM_run pM_run_41
          rw [show pM_in fu (nI (m + 20)) 0 3 y = some (0, y) from hin fu y, pv_bnd, if_pos rfl, show pM_in fu (nI (m + 20)) 10 (9 + y 78 0) y = some (0, y) from inr_no (d := 10) (Or.inl ⟨rfl, rfl⟩) hn n10 hy, pv_bnd, if_pos rfl, show pM_in fu (nI (m + 20)) 20 (19 + y 78 0) y = some (1, y) from inr_yes (d := 20) (Or.inr ⟨rfl, rfl⟩) hn hm hy, pv_bnd, if_neg (by decide)]
        · refine ⟨W, ?_, EqQ.rf⟩
          unfold tbM
          rw [if_neg h0, if_neg h1, if_neg h2, if_neg h3, if_neg h0, if_neg h1, if_neg h2, if_neg h3, if_pos rfl, if_pos (show (20 : Int32) ≤ nI (m + 20) from nI_le (a := 20) (by omega) (by omega)), show nI (m + 20) - 20 = nI m from (pk_sub (a := m + 20) (b := 20) (by omega)).trans (by rw [Nat.add_sub_cancel]), pv_inb (by omega) (by omega), pv_chk, pv_ga (by omega), pv_clamp (by omega), show W 25 m = s.1 2 m from r1.2.2.2.2.1 m hm]
        · unfold pM_toldBehind tbM
          rw [if_neg h1, if_neg h2, if_neg h3, if_neg h1, if_neg h2, if_neg h3, if_pos (show (20 : Int32) ≤ nI (m + 20) from nI_le (a := 20) (by omega) (by omega)), if_pos (show (20 : Int32) ≤ nI (m + 20) from nI_le (a := 20) (by omega) (by omega)), show nI (m + 20) - 20 = nI m from (pk_sub (a := m + 20) (b := 20) (by omega)).trans (by rw [Nat.add_sub_cancel]), l_3, pk_mul, l_2, nI_add, pv_inb (by omega) (by omega), pv_chk, pv_ga (by omega), pv_clamp (by omega), r1.2.2.2.2.1 m hm]
      · have n20 : ∀ m, m < n → a2 ≠ nI (m + 20) := fun m hm e => w3 ⟨m, hm, e⟩
        refine bad ?_ hin ?_
        · unfold pS_run pS_run_24 pS_run_25 pS_run_50
          by_cases q10 : a2 < 10
          · rw [if_pos q10, if_pos (by
              rw [Int32.lt_iff_toInt_lt] at q10 ⊢
              have z10 : (10 : Int32).toInt = 10 := by decide
              have z20 : (20 : Int32).toInt = 20 := by decide
              omega)]
          · rw [if_neg q10, show pR_has fu 9 (a2 - 10) z = some (0, z) from has_no (d := 10) (Or.inl rfl) hn n10 hz9 q10, pv_bnd, if_pos rfl]
            by_cases q20 : a2 < 20
            · rw [if_pos q20]
            · rw [if_neg q20, show pR_has fu 9 (a2 - 20) z = some (0, z) from has_no (d := 20) (Or.inr rfl) hn n20 hz9 q20, pv_bnd, if_pos rfl]
        · unfold pM_run
          rw [show pM_in fu a2 0 3 z = some (0, z) from hin fu z, pv_bnd, if_pos rfl, show pM_in fu a2 10 (9 + z 78 0) z = some (0, z) from inr_no (d := 10) (Or.inl ⟨rfl, rfl⟩) hn n10 hz78, pv_bnd, if_pos rfl, show pM_in fu a2 20 (19 + z 78 0) z = some (0, z) from inr_no (d := 20) (Or.inr ⟨rfl, rfl⟩) hn n20 hz78, pv_bnd, if_pos rfl]
