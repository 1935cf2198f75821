/-! the class's reading, level by level -/
theorem rk_k1 : ∀ k, k < 259 → (rkM (sgM k) = 1 ↔ k = 3) ∧ (rkM (sgM k) = 2 ↔ k = 4) := by decide +kernel
theorem rk_k4 : ∀ k, k < 259 → (rkM (sgM k) = 4 ↔ k = 60 ∨ k = 61) := by decide +kernel
theorem rk_k5 : ∀ k, k < 259 → (rkM (sgM k) = 5 ↔ k = 43 ∨ k = 45) := by decide +kernel
theorem rk_k6 : ∀ k, k < 259 → (rkM (sgM k) = 6 ↔ k = 42) ∧ rkM (sgM k) < 7 ∧ rkM (sgM k) ≠ 3 := by decide +kernel
theorem nm_oc : ∀ k, k < 12 → 6 ≤ k → 5 - nI k = oc (k - 6) := by decide +kernel
section RDL
variable {fu n : Nat} {T : Nat → Int32}
theorem lvlC {lv j o d : Nat} {L : Nat → Int32 → Int32 → Sg → Option Sg} (hf : 300 ≤ fu) (ih : REC fu n T d) (hj : j ≤ 5) (ho : o ≤ 5) (hd : 7 * (5 - o) + (6 - j) ≤ d) (hlj : lvR j = lv + 1) (hle : lv < enR j) (hjm : (j ≤ 2 ∧ lv ≤ 2) ∨ (3 ≤ j ∧ 5 ≤ lv))
    (hx : ∀ f v z k, v < 160 → k < 259 → z 3 4 = nI k → ¬ (sgM k ≠ 0 ∧ rkM (sgM k) = lv) → L (f + 1) (nI o) (nI v) z = some z)
    (hs : ∀ f v z k, v < 160 → k < 259 → z 3 4 = nI k → sgM k ≠ 0 → rkM (sgM k) = lv → L (f + 1) (nI o) (nI v) z = bndv (pD_advance fu z) (fun z2 => bndv (gRd fu d j (nI o) z2) (fun z3 => bndv (pL_add fu 66 (oc (sgM k)) z3) (fun z4 => letm (nI v + 1) (fun x5 => L f (nI o) x5 z4)))))
    {z : Sg} {t : Tok} {l : List Tok} {C H : List Nat} {m : Bool} (hH : tlt lv H) (hop : opM H = o) (hC : C.length + l.length ≤ 159) (h1 : outC T n (lvR j) z t l C m H (gRd fu d j (nI o) z)) : outC T n lv z t l C m H (bndv (gRd fu d j (nI o) z) (fun z1 => L fu (nI o) 0 z1)) := by
  rcases h1 with ⟨q, Z, b1, b2, b3, b4⟩ | ⟨Z, t', l', D, m', H2, O2, b1, b2, b3, b4, b5, b6, b7, b8, b9⟩
  · obtain ⟨f, hf'⟩ := fuS (show 0 < fu by omega)
    refine Or.inl ⟨q, Z, ?_, b2, b3, b4⟩
    rw [b1, pv_bndv]
    have := hx f 0 Z 258 (by omega) (by omega) b2.2.1 (fun e => e.1 rfl)
    rw [← hf'] at this
    exact this
  · rw [b1, pv_bndv]
    have hne := wfR_ne b6
    exact loopC hf ih hj ho hd hlj hle hjm hx hs hH hop hC l'.length fu 0 Z t' l' D m' H2 O2 (Nat.le_refl _) (by omega) (by omega) b2 b3 b4 (unM_eq b5 (by omega)) b6 b7 b8 (by rw [← hlj]; exact b9)
theorem opnC {z : Sg} {t : Tok} {l : List Tok} {C : List Nat} {o : Nat} (hz : rcC T n z t l C) (hC : C.length ≤ 160) (ho : o ≤ 5) (k : Sg → Option Sg) : (o < 5 ∧ bnd (pD_opens fu (nI o) z) (fun x z2 => if x = 0 then some z2 else k z2) = bndv (pD_advance fu z) k) ∨ (o = 5 ∧ ∃ Z, bnd (pD_opens fu (nI o) z) (fun x z2 => if x = 0 then some z2 else k z2) = some Z ∧ rfC T n Z t.2.2.1 ∧ FG z Z) := by
  unfold pD_opens
  by_cases q : o < 5
  · rw [if_pos (show nI o < 5 from nI_lt (b := 5) q (by omega))]
    refine Or.inl ⟨q, ?_⟩
    cases pD_advance fu z with
    | none => rfl
    | some y =>
      show (if (1 : Int32) = 0 then some y else k y) = k y
      rw [if_neg (by decide)]
  · rw [if_neg (show ¬ nI o < 5 from nI_nlt (b := 5) (by omega) (by omega))]
    obtain ⟨Z, z1, z2, z3⟩ := hz.fail (fu := fu) hC
    refine Or.inr ⟨by omega, Z, ?_, z2, z3⟩
    rw [z1]
    show (if (0 : Int32) = 0 then some Z else k Z) = some Z
    rw [if_pos rfl]
theorem cmpC {d o c : Nat} {v : Int32} (hf : 300 ≤ fu) (ih : REC fu n T d) (ho : o ≤ 5) (hd : 7 * (5 - o) + 3 ≤ d) {z0 z : Sg} {t t' : Tok} {l l' : List Tok} {C D H H2 O2 : List Nat} {m' : Bool} (hc : c = 14 ∨ c = 15) (hz : rcC T n z t' l' (D ++ C)) (hF : FG z0 z) (hk : sgM t'.1 = c) (hH : tlt 4 H) (hop : opM H = o) (hl : C.length + l.length ≤ 159) (hy : syM (t :: l) true true H C = syM (t' :: l') false m' H2 O2) (hu : unM 5 H2 O2 = unM 5 H (D ++ C)) (hw : wfR D) (hok : okL D) (hle : D.length + l'.length ≤ l.length) (hv : v = oc c) : outC T n 3 z0 t l C true H (pD_readNot_72 fu (gRd fu d) (nI o) v z) := by
  have h259 := hz.kd.1
  have hH5 : tlt 5 H := tlt_le hH (by omega)
  have hc0 : sgM t'.1 ≠ 0 := by omega
  have e4 : rkM c = 4 := by rcases hc with rfl | rfl <;> rfl
  have e5 : lvM c = 5 := by rcases hc with rfl | rfl <;> rfl
  have hu5 : unM 5 H2 O2 = (H, D ++ C) := by rw [hu, unM_k hH5]
  have t4 : t4M H ≠ true := by
    cases H with
    | nil => decide
    | cons x y =>
      intro e
      have a1 : rkM x = 4 := of_decide_eq_true e
      have a2 : rkM x < 4 := hH
      omega
  obtain ⟨g1, g2, g3, _⟩ := sg_59 t'.1 h259 hc0
  have hsy := syOp (l := l') (m := m') (H2 := H2) (O2 := O2) (H := H) (C1 := D ++ C) h259 hc0 (fun e => t4 (by have := e.2; rw [hu5] at this; exact this)) (by rw [hk, e5, hu5])
  rw [hk, decide_eq_false (by omega)] at hsy
  unfold pD_readNot_72
  have n13 : ¬ (c = 13 ∨ c = 19 ∨ c = 0) := by omega
  rcases opdC (j := 3) (c := c) (m2 := false) (H := H) hf ih (by omega) ho (by omega) hz g3 (by show rkM c < 5; omega) (by rw [opM_c, if_neg n13]; exact hop) (fun e => absurd e (by omega)) (fun _ => rfl) (by rw [List.length_append]; omega) hv (fun z8 => some z8) with ⟨q, Z, b1, b2, b3, b4⟩ | ⟨Z, t3, l3, D2, m3, H3, O3, b1, b2, b3, b4, b5, b6, b7, b8, b9⟩
  · exact Or.inl ⟨q, Z, b1, b2, hF.tr b3, by rw [hy, hsy, b4]⟩
  · have ea : c :: (D2 ++ (D ++ C)) = (c :: (D2 ++ D)) ++ C := by simp
    have eu : unM 5 H3 O3 = (c :: H, D2 ++ (D ++ C)) := by
      have : unM 5 H3 O3 = unM 5 (c :: H) (D2 ++ (D ++ C)) := b5
      rw [this, unM_k (show tlt 5 (c :: H) from by show rkM c < 5; omega)]
    refine Or.inr ⟨Z, t3, l3, c :: (D2 ++ D), m3, H3, O3, b1, by rw [← ea]; exact b2, hF.tr b3, by rw [hy, hsy, b4], ?_, wfR_b hw b6 ⟨by omega, by omega, by omega⟩, okL_c (okL_a b7 hok) (Or.inr (Or.inl ⟨by omega, by omega⟩)), by rw [List.length_cons, List.length_append]; omega, fun e => ?_⟩
    · have : unM 5 H3 O3 = unM 5 (c :: H) (D2 ++ (D ++ C)) := b5
      rw [← ea, unM_eq this (by omega : 3 ≤ 5), unM_p (by omega)]
    · have hr := rk_k6 t3.1 b2.kd.1
      have ht : t4M (unM 5 H3 O3).1 = true := by rw [eu]; exact decide_eq_true e4
      rcases b9 e with h | h
      · have h5 : rkM (sgM t3.1) < 5 := h
        by_cases q : rkM (sgM t3.1) = 4
        · exact Or.inr ⟨q, ht⟩
        · exact Or.inl (by omega)
      · exact Or.inr h
theorem notC {d o : Nat} (hf : 300 ≤ fu) (ih : REC fu n T d) (ho : o ≤ 5) (hd : 7 * (5 - o) + 4 ≤ d + 1) {z : Sg} {t : Tok} {l : List Tok} {C H : List Nat} (hz : rcC T n z t l C) (hH : tlt 4 H) (hop : opM H = o) (hl : C.length + l.length ≤ 159) : outC T n 3 z t l C true H (pD_readNot fu (gRd fu d) (nI o) z) := by
  unfold pD_readNot
  by_cases q5 : t.1 = 5
  · have hy : syM (t :: l) true true H C = if opM H = 5 then .inl t.2.2.1 else syM l true true (13 :: H) C := by
      rw [syT, if_neg (by omega), if_neg (by omega), if_pos ⟨q5, rfl⟩]
    rw [if_pos (show z 3 4 = 5 from (hz.eq (k := 5) (by omega)).mpr q5)]
    rcases opnC (fu := fu) (o := o) hz (by omega) ho (fun z2 => bndv (gRd fu d 2 (nI o + 1) z2) (fun z4 => bndv (pL_add fu 66 (-7) z4) (fun z5 => some z5))) with ⟨o1, o2⟩ | ⟨o1, Z, o2, o3, o4⟩
    · rw [o2, nI_1]
      rw [if_neg (by omega)] at hy
      rcases opdC (j := 2) (o := o + 1) (c := 13) (m2 := true) (H := H) (v := -7) hf ih (by omega) (by omega) (by omega) hz (by omega) (by show rkM 13 < 4; decide) (by rw [opM_c, if_pos (by omega), hop]) (fun _ => rfl) (fun e => absurd e (by omega)) hl rfl (fun z8 => some z8) with ⟨q, Z, b1, b2, b3, b4⟩ | ⟨Z, t3, l3, D2, m3, H3, O3, b1, b2, b3, b4, b5, b6, b7, b8, b9⟩
      · exact Or.inl ⟨q, Z, b1, b2, b3, by rw [hy, b4]⟩
      · refine Or.inr ⟨Z, t3, l3, 13 :: D2, m3, H3, O3, b1, b2, b3, by rw [hy, b4], ?_, wfR_u b6 (Or.inl rfl), okL_c b7 (Or.inr (Or.inl ⟨by omega, by omega⟩)), by rw [List.length_cons]; omega, b9⟩
        have : unM 3 H3 O3 = unM 3 (13 :: H) (D2 ++ C) := b5
        rw [this, unM_p (by decide)]
        rfl
    · exact Or.inl ⟨_, Z, o2, o3, o4, by rw [hy, if_pos (by omega)]⟩
  · rw [if_neg (show ¬ z 3 4 = 5 from fun e => q5 ((hz.eq (k := 5) (by omega)).mp e))]
    rcases ih 3 o z t l C true H (by omega) ho (by omega) hz (tlt_le hH (by decide)) hop (fun _ => rfl) (fun _ _ => q5) hl with ⟨q, Z, b1, b2, b3, b4⟩ | ⟨Z, t', l', D, m', H2, O2, b1, b2, b3, b4, b5, b6, b7, b8, b9⟩
    · refine Or.inl ⟨q, Z, ?_, b2, b3, b4⟩
      rw [b1, pv_bndv, b2.2.1, if_neg (by decide), if_neg (by decide)]
    · rw [b1, pv_bndv]
      unfold pD_readNot_56
      by_cases q60 : t'.1 = 60
      · rw [if_pos (show Z 3 4 = 60 from (b2.eq (k := 60) (by omega)).mpr q60), if_pos (show Z 3 4 = 60 from (b2.eq (k := 60) (by omega)).mpr q60)]
        exact cmpC (c := 14) hf ih ho (by omega) (Or.inl rfl) b2 b3 (by rw [q60]; rfl) hH hop hl b4 b5 b6 b7 b8 rfl
      · have n60 : ¬ Z 3 4 = 60 := fun e => q60 ((b2.eq (k := 60) (by omega)).mp e)
        rw [if_neg n60, if_neg n60]
        by_cases q61 : t'.1 = 61
        · rw [if_pos (show Z 3 4 = 61 from (b2.eq (k := 61) (by omega)).mpr q61)]
          exact cmpC (c := 15) hf ih ho (by omega) (Or.inr rfl) b2 b3 (by rw [q61]; rfl) hH hop hl b4 b5 b6 b7 b8 rfl
        · rw [if_neg (show ¬ Z 3 4 = 61 from fun e => q61 ((b2.eq (k := 61) (by omega)).mp e))]
          refine Or.inr ⟨Z, t', l', D, m', H2, O2, rfl, b2, b3, b4, unM_eq (b := 5) b5 (by omega), b6, b7, b8, fun e => ?_⟩
          have hr := rk_k6 t'.1 b2.kd.1
          have n4 : rkM (sgM t'.1) ≠ 4 := fun e4 => by
            rcases (rk_k4 t'.1 b2.kd.1).mp e4 with h | h
            · exact q60 h
            · exact q61 h
          rcases b9 e with h | h
          · have h5 : rkM (sgM t'.1) < 5 := h
            exact Or.inl (by omega)
          · exact absurd h.1 n4
theorem oneC {d o : Nat} (hf : 300 ≤ fu) (ih : REC fu n T d) (ho : o ≤ 5) (hd : 7 * (5 - o) + 1 ≤ d + 1) {z : Sg} {t : Tok} {l : List Tok} {C H : List Nat} {m : Bool} (hz : rcC T n z t l C) (hop : opM H = o) (hm : m = true → t.1 ≠ 5) (hl : C.length + l.length ≤ 159) : outC T n 7 z t l C m H (pD_readOne fu (gRd fu d) (nI o) z) := by
  have hkd := hz.kd
  have hr7 : ∀ (t' : Tok) (H2 O2 : List Nat), t'.1 < 259 → pst 7 t' H2 O2 := fun t' H2 O2 h _ => Or.inl (rk_k6 t'.1 h).2.1
  -- one number, by name or digits
  have num : ∀ c v, v = oc c → (c < 6 ∨ 100000 ≤ c) → okc c → t.1 ≠ 257 → syM (t :: l) true m H C = syM l false m (unM 7 H (c :: C)).1 (unM 7 H (c :: C)).2 → outC T n 7 z t l C m H (bndv (pL_add fu 66 v z) (fun z3 => bndv (pD_advance fu z3) (fun z4 => some z4))) := fun c v hv hc hok hk hy => by
    obtain ⟨Y, y1, y2, y3⟩ := hz.add (fu := fu) (by omega) hv
    obtain ⟨Z, t', l', z1, z2, z3, z4⟩ := y2.adv (fu := fu) hf hk
    subst z2
    refine Or.inr ⟨Z, t', l', [c], m, _, _, by rw [y1, pv_bndv, z1, pv_bndv], z3, y3.tr z4, hy, unM_unM (Nat.le_refl 7) _ _, wfR_1 hc, okL_c (fun x hx => absurd hx (by simp)) hok, by simp; omega, hr7 _ _ _ z3.kd.1⟩
  unfold pD_readOne
  by_cases q1 : t.1 = 256
  · rw [if_pos (show z 3 4 = 256 from (hz.eq (k := 256) (by omega)).mpr q1)]
    have hv := hz.2.2.1.2.1 q1
    have hoc := (oc_nu (c := 100000 + t.2.1) (by omega) (by omega)).1
    exact num (100000 + t.2.1) _ (by rw [hv, hoc, Nat.add_sub_cancel_left]) (by omega) (Or.inr (Or.inr ⟨by omega, by omega⟩)) (by omega) (by rw [syT, if_pos q1])
  · rw [if_neg (show ¬ z 3 4 = 256 from fun e => q1 ((hz.eq (k := 256) (by omega)).mp e))]
    by_cases q2 : 6 ≤ t.1 ∧ t.1 < 12
    · rw [hz.2.2.1.1, if_neg (show ¬ nI t.1 < 6 from nI_nlt (b := 6) q2.1 (by omega)), if_neg (show ¬ (11 : Int32) < nI t.1 from nI_nlt (a := 11) (by omega) (by omega))]
      exact num (t.1 - 6) _ (nm_oc _ q2.2 q2.1) (by omega) (Or.inl (by omega)) (by omega) (by rw [syT, if_neg q1, if_pos q2])
    · have e66 : (if z 3 4 < 6 then pD_readOne_66 fu (gRd fu d) (nI o) z else if 11 < z 3 4 then pD_readOne_66 fu (gRd fu d) (nI o) z else bndv (pL_add fu 66 (5 - z 3 4) z) (fun z1 => bndv (pD_advance fu z1) (fun z2 => some z2))) = pD_readOne_66 fu (gRd fu d) (nI o) z := by
        rw [hz.2.2.1.1]
        by_cases q3 : t.1 < 6
        · rw [if_pos (show nI t.1 < 6 from nI_lt (b := 6) q3 (by omega))]
        · rw [if_neg (show ¬ nI t.1 < 6 from nI_nlt (b := 6) (by omega) (by omega)), if_pos (show (11 : Int32) < nI t.1 from nI_lt (a := 11) (by omega) (by omega))]
      have hy0 : syM (t :: l) true m H C = if t.1 = 45 then (if opM H = 5 then .inl t.2.2.1 else syM l true false (19 :: H) C) else if t.1 = 40 then (if opM H = 5 then .inl t.2.2.1 else syM l true true (0 :: H) C) else .inl t.2.2.1 := by
        rw [syT, if_neg q1, if_neg q2, if_neg (fun e => hm e.2 e.1)]
      rw [e66]
      unfold pD_readOne_66
      by_cases q45 : t.1 = 45
      · rw [if_pos (show z 3 4 = 45 from (hz.eq (k := 45) (by omega)).mpr q45)]
        rw [if_pos q45] at hy0
        rcases opnC (fu := fu) (o := o) hz (by omega) ho (fun z2 => bndv (gRd fu d 5 (nI o + 1) z2) (fun z4 => bndv (pL_add fu 66 (-8) z4) (fun z5 => some z5))) with ⟨o1, o2⟩ | ⟨o1, Z, o2, o3, o4⟩
        · rw [o2, nI_1]
          rw [if_neg (by omega)] at hy0
          rcases opdC (j := 5) (o := o + 1) (c := 19) (m2 := false) (H := H) (v := -8) hf ih (by omega) (by omega) (by omega) hz (by omega) (by show rkM 19 < 8; decide) (by rw [opM_c, if_pos (by omega), hop]) (fun e => absurd e (by omega)) (fun _ => rfl) hl rfl (fun z8 => some z8) with ⟨q, Z, b1, b2, b3, b4⟩ | ⟨Z, t3, l3, D2, m3, H3, O3, b1, b2, b3, b4, b5, b6, b7, b8, b9⟩
          · exact Or.inl ⟨q, Z, b1, b2, b3, by rw [hy0, b4]⟩
          · refine Or.inr ⟨Z, t3, l3, 19 :: D2, m3, H3, O3, b1, b2, b3, by rw [hy0, b4], ?_, wfR_u b6 (Or.inr rfl), okL_c b7 (Or.inr (Or.inl ⟨by omega, by omega⟩)), by rw [List.length_cons]; omega, b9⟩
            have : unM 7 H3 O3 = unM 7 (19 :: H) (D2 ++ C) := b5
            rw [this, unM_p (by decide)]
            rfl
        · exact Or.inl ⟨_, Z, o2, o3, o4, by rw [hy0, if_pos (by omega)]⟩
      · rw [if_neg (show ¬ z 3 4 = 45 from fun e => q45 ((hz.eq (k := 45) (by omega)).mp e))]
        rw [if_neg q45] at hy0
        by_cases q40 : t.1 = 40
        · rw [if_pos (show z 3 4 = 40 from (hz.eq (k := 40) (by omega)).mpr q40)]
          rw [if_pos q40] at hy0
          rcases opnC (fu := fu) (o := o) hz (by omega) ho (fun z2 => bndv (gRd fu d 0 (nI o + 1) z2) (fun z4 => bndv (pD_expect fu 41 z4) (fun z5 => some z5))) with ⟨o1, o2⟩ | ⟨o1, Z, o2, o3, o4⟩
          · rw [o2, nI_1]
            rw [if_neg (by omega)] at hy0
            obtain ⟨z1, t2, l2, a1, a2, a3, a4⟩ := hz.adv (fu := fu) hf (by omega)
            subst a2
            rw [List.length_cons] at hl
            rw [a1, pv_bndv]
            rcases ih 0 (o + 1) z1 t2 l2 C true (0 :: H) (by omega) (by omega) (by omega) a3 (by show rkM 0 < 1; decide) (by rw [opM_c, if_pos (by omega), hop]) (fun _ => rfl) (fun e => absurd e (by omega)) (by omega) with ⟨q, Z, b1, b2, b3, b4⟩ | ⟨Z, t', l', D, m', H2, O2, b1, b2, b3, b4, b5, b6, b7, b8, b9⟩
            · obtain ⟨Y, y1, y2, y3⟩ := b2.exp (fu := fu) (k := 41) (by omega)
              refine Or.inl ⟨q, Y, ?_, y2, (a4.tr b3).tr y3, by rw [hy0, b4]⟩
              rw [b1, pv_bndv, show (41 : Int32) = nI 41 from rfl, y1, pv_bndv]
            · have eu : unM 1 H2 O2 = (0 :: H, D ++ C) := by
                have : unM 1 H2 O2 = unM 1 (0 :: H) (D ++ C) := b5
                rw [this, unM_k (show tlt 1 (0 :: H) from by show rkM 0 < 1; decide)]
              rw [b1, pv_bndv]
              rcases b2.exp (fu := fu) hf (by rw [List.length_append]; omega) (k := 41) (by omega) with ⟨c1, Y, t3, l3, y1, y2, y3, y4⟩ | ⟨c1, Y, y1, y2, y3⟩
              · subst y2
                rw [List.length_cons] at b8
                refine Or.inr ⟨Y, t3, l3, D, m', _, _, by rw [show (41 : Int32) = nI 41 from rfl, y1, pv_bndv], y3, (a4.tr b3).tr y4, ?_, unM_unM (Nat.le_refl 7) H (D ++ C), b6, b7, by rw [List.length_cons]; omega, hr7 _ _ _ y3.kd.1⟩
                rw [hy0, b4, syF, if_neg (by omega), if_pos c1, eu, if_neg (by simp)]
                rfl
              · refine Or.inl ⟨_, Y, by rw [show (41 : Int32) = nI 41 from rfl, y1, pv_bndv], y2, (a4.tr b3).tr y3, ?_⟩
                rw [hy0, b4, syF, eu]
                by_cases q59 : t'.1 = 59
                · rw [if_pos q59, if_neg (by simp)]
                · rw [if_neg q59, if_neg c1]
                  by_cases q0 : sgM t'.1 = 0
                  · rw [if_pos q0]
                  · rw [if_neg q0, if_pos]
                    rcases b9 q0 with h | h
                    · have h1 : rkM (sgM t'.1) < 1 := h
                      exact absurd (rkM_0 h1) q0
                    · exact h
          · exact Or.inl ⟨_, Z, o2, o3, o4, by rw [hy0, if_pos (by omega)]⟩
        · rw [if_neg (show ¬ z 3 4 = 40 from fun e => q40 ((hz.eq (k := 40) (by omega)).mp e))]
          rw [if_neg q40] at hy0
          obtain ⟨Z, z1, z2, z3⟩ := hz.fail (fu := fu) (by omega)
          exact Or.inl ⟨_, Z, by rw [z1, pv_bndv], z2, z3, hy0⟩
theorem recC (hf : 300 ≤ fu) : ∀ d, REC fu n T d := by
  intro d
  induction d with
  | zero => intro i o z t l C m H hi ho hd; omega
  | succ d ih =>
    intro i o z t l C m H hi ho hd hz hH hop hm hm3 hl
    have n160 : ∀ v, v < 160 → ¬ (160 : Int32) ≤ nI v := fun v hv => nI_ge (b := 160) hv (by omega)
    have keq : ∀ {z : Sg} {k a : Nat}, z 3 4 = nI k → k < 259 → a < 300 → ((z 3 4 = nI a) ↔ k = a) := fun h h1 h2 => by rw [h]; exact pv_eq (by omega) (by omega)
    have hi6 : i = 0 ∨ i = 1 ∨ i = 2 ∨ i = 3 ∨ i = 4 ∨ i = 5 := by omega
    rcases hi6 with rfl | rfl | rfl | rfl | rfl | rfl
    · show outC T n 1 z t l C m H (pD_readEither fu (gRd fu d) (nI o) z)
      unfold pD_readEither
      refine lvlC (lv := 1) (j := 1) (L := pD_readEither_7 fu (gRd fu d)) hf ih (by omega) ho (by omega) rfl (by decide) (Or.inl ⟨by omega, by omega⟩) (fun f v z k hv hk hz hn => ?_) (fun f v z k hv hk hz h0 hr => ?_) hH hop hl (ih 1 o z t l C m H (by omega) ho (by omega) hz (tlt_le hH (by decide)) hop (fun _ => hm (by omega)) (fun e => absurd e (by omega)) hl)
      · rw [pD_readEither_7, if_neg (n160 v hv), if_neg (show ¬ z 3 4 = 3 from fun e => hn (by rw [(keq (a := 3) hz hk (by omega)).mp e]; decide))]
      · have := (rk_k1 k hk).1.mp hr
        subst this
        rw [pD_readEither_7, if_neg (n160 v hv), if_pos (show z 3 4 = 3 from hz)]
        rfl
    · show outC T n 2 z t l C m H (pD_readBoth fu (gRd fu d) (nI o) z)
      unfold pD_readBoth
      refine lvlC (lv := 2) (j := 2) (L := pD_readBoth_7 fu (gRd fu d)) hf ih (by omega) ho (by omega) rfl (by decide) (Or.inl ⟨by omega, by omega⟩) (fun f v z k hv hk hz hn => ?_) (fun f v z k hv hk hz h0 hr => ?_) hH hop hl (ih 2 o z t l C m H (by omega) ho (by omega) hz (tlt_le hH (by decide)) hop (fun _ => hm (by omega)) (fun e => absurd e (by omega)) hl)
      · rw [pD_readBoth_7, if_neg (n160 v hv), if_neg (show ¬ z 3 4 = 4 from fun e => hn (by rw [(keq (a := 4) hz hk (by omega)).mp e]; decide))]
      · have := (rk_k1 k hk).2.mp hr
        subst this
        rw [pD_readBoth_7, if_neg (n160 v hv), if_pos (show z 3 4 = 4 from hz)]
        rfl
    · have := hm (by omega)
      subst this
      show outC T n 3 z t l C true H (pD_readNot fu (gRd fu d) (nI o) z)
      exact notC hf ih ho (by omega) hz hH hop hl
    · show outC T n 5 z t l C m H (pD_readSum fu (gRd fu d) (nI o) z)
      unfold pD_readSum
      refine lvlC (lv := 5) (j := 4) (L := pD_readSum_7 fu (gRd fu d)) hf ih (by omega) ho (by omega) rfl (by decide) (Or.inr ⟨by omega, by omega⟩) (fun f v z k hv hk hz hn => ?_) (fun f v z k hv hk hz h0 hr => ?_) hH hop hl (ih 4 o z t l C m H (by omega) ho (by omega) hz (tlt_le hH (by decide)) hop (fun e => absurd e (by omega)) (fun _ => hm3 (by omega)) hl)
      · rw [pD_readSum_7, if_neg (n160 v hv), if_neg (show ¬ z 3 4 = 43 from fun e => hn (by rw [(keq (a := 43) hz hk (by omega)).mp e]; decide)), if_neg (show ¬ z 3 4 = 45 from fun e => hn (by rw [(keq (a := 45) hz hk (by omega)).mp e]; decide))]
      · rcases (rk_k5 k hk).mp hr with rfl | rfl
        · rw [pD_readSum_7, if_neg (n160 v hv), if_pos (show z 3 4 = 43 from hz)]
          unfold pD_readSum_32
          rw [if_pos (show z 3 4 = 43 from hz)]
          rfl
        · have n43 : ¬ z 3 4 = 43 := by rw [hz]; decide
          rw [pD_readSum_7, if_neg (n160 v hv), if_neg n43, if_pos (show z 3 4 = 45 from hz)]
          unfold pD_readSum_32
          rw [if_neg n43]
          rfl
    · show outC T n 6 z t l C m H (pD_readTerm fu (gRd fu d) (nI o) z)
      unfold pD_readTerm
      refine lvlC (lv := 6) (j := 5) (L := pD_readTerm_7 fu (gRd fu d)) hf ih (by omega) ho (by omega) rfl (by decide) (Or.inr ⟨by omega, by omega⟩) (fun f v z k hv hk hz hn => ?_) (fun f v z k hv hk hz h0 hr => ?_) hH hop hl (ih 5 o z t l C m H (by omega) ho (by omega) hz (tlt_le hH (by decide)) hop (fun e => absurd e (by omega)) (fun _ => hm3 (by omega)) hl)
      · rw [pD_readTerm_7, if_neg (n160 v hv), if_neg (show ¬ z 3 4 = 42 from fun e => hn (by rw [(keq (a := 42) hz hk (by omega)).mp e]; decide))]
      · have := (rk_k6 k hk).1.mp hr
        subst this
        rw [pD_readTerm_7, if_neg (n160 v hv), if_pos (show z 3 4 = 42 from hz)]
        rfl
    · show outC T n 7 z t l C m H (pD_readOne fu (gRd fu d) (nI o) z)
      exact oneC hf ih ho (by omega) hz hop (hm3 (by omega)) hl
end RDL
