/-! the class's reading against the held signs -/
def lvR (i : Nat) : Nat := [1, 2, 3, 5, 6, 7].getD i 7
def enR (i : Nat) : Nat := [1, 2, 4, 5, 6, 8].getD i 8
def pst (l : Nat) (t : Tok) (H O : List Nat) : Prop := sgM t.1 ≠ 0 → rkM (sgM t.1) < l ∨ (rkM (sgM t.1) = 4 ∧ t4M (unM 5 H O).1 = true)
def outC (T : Nat → Int32) (n l : Nat) (z : Sg) (t : Tok) (ts : List Tok) (C : List Nat) (m : Bool) (H : List Nat) (g : Option Sg) : Prop :=
  (∃ q Z, g = some Z ∧ rfC T n Z q ∧ FG z Z ∧ syM (t :: ts) true m H C = .inl q) ∨
  ∃ Z t' l' D m' H2 O2, g = some Z ∧ rcC T n Z t' l' (D ++ C) ∧ FG z Z ∧ syM (t :: ts) true m H C = syM (t' :: l') false m' H2 O2 ∧ unM l H2 O2 = unM l H (D ++ C) ∧ wfR D ∧ okL D ∧ D.length + l'.length ≤ ts.length ∧ pst l t' H2 O2
def REC (fu n : Nat) (T : Nat → Int32) (d : Nat) : Prop := ∀ i o z t l C m H, i ≤ 5 → o ≤ 5 → 7 * (5 - o) + (6 - i) ≤ d → rcC T n z t l C → tlt (enR i) H → opM H = o → (i ≤ 2 → m = true) → (3 ≤ i → m = true → t.1 ≠ 5) → C.length + l.length ≤ 159 → outC T n (lvR i) z t l C m H (gRd fu d i (nI o) z)
theorem syF (t : Tok) (l : List Tok) (m : Bool) (H O : List Nat) : syM (t :: l) false m H O = if t.1 = 59 then (if (unM 1 H O).1 = [] then .inr ((unM 1 H O).2, l) else .inl t.2.2.1) else if t.1 = 41 then (if (unM 1 H O).1 = [] then .inl t.2.2.1 else syM l false m (unM 7 (unM 1 H O).1.tail (unM 1 H O).2).1 (unM 7 (unM 1 H O).1.tail (unM 1 H O).2).2) else if sgM t.1 = 0 then .inl t.2.2.1 else if rkM (sgM t.1) = 4 ∧ t4M (unM 5 H O).1 = true then .inl t.2.2.1 else syM l true (decide (sgM t.1 ≤ 12)) (sgM t.1 :: (unM (lvM (sgM t.1)) H O).1) (unM (lvM (sgM t.1)) H O).2 := rfl
theorem syT (t : Tok) (l : List Tok) (m : Bool) (H O : List Nat) : syM (t :: l) true m H O = if t.1 = 256 then syM l false m (unM 7 H ((100000 + t.2.1) :: O)).1 (unM 7 H ((100000 + t.2.1) :: O)).2 else if 6 ≤ t.1 ∧ t.1 < 12 then syM l false m (unM 7 H ((t.1 - 6) :: O)).1 (unM 7 H ((t.1 - 6) :: O)).2 else if t.1 = 5 ∧ m = true then (if opM H = 5 then .inl t.2.2.1 else syM l true m (13 :: H) O) else if t.1 = 45 then (if opM H = 5 then .inl t.2.2.1 else syM l true false (19 :: H) O) else if t.1 = 40 then (if opM H = 5 then .inl t.2.2.1 else syM l true true (0 :: H) O) else .inl t.2.2.1 := rfl
theorem sg_59 : ∀ k, k < 259 → sgM k ≠ 0 → k ≠ 59 ∧ k ≠ 41 ∧ k ≠ 257 ∧ 11 ≤ sgM k ∧ sgM k ≤ 18 ∧ sgM k ≠ 13 := by decide +kernel
theorem syOp {t : Tok} {l : List Tok} {m : Bool} {H2 O2 H C1 : List Nat} (hk : t.1 < 259) (hc : sgM t.1 ≠ 0) (h4 : ¬ (rkM (sgM t.1) = 4 ∧ t4M (unM 5 H2 O2).1 = true)) (hu : unM (lvM (sgM t.1)) H2 O2 = (H, C1)) : syM (t :: l) false m H2 O2 = syM l true (decide (sgM t.1 ≤ 12)) (sgM t.1 :: H) C1 := by
  obtain ⟨k1, k2, _⟩ := sg_59 t.1 hk hc
  rw [syF, if_neg k1, if_neg k2, if_neg hc, if_neg h4, hu]
theorem rk_c1 : ∀ c, c < 19 → 11 ≤ c → c ≠ 13 → (c ≤ 12 ↔ rkM c ≤ 2) ∧ (rkM c ≠ 4 → lvM c = rkM c) := by decide
theorem rk_c2 : ∀ c, c < 19 → 11 ≤ c → c ≠ 13 → 1 ≤ rkM c ∧ rkM c ≠ 3 := by decide
theorem rk_c (c : Nat) (h1 : c < 19) (h2 : 11 ≤ c) (h3 : c ≠ 13) : (c ≤ 12 ↔ rkM c ≤ 2) ∧ (rkM c ≠ 4 → lvM c = rkM c) ∧ (1 ≤ rkM c ∧ rkM c ≠ 3) ∧ ¬ (c = 13 ∨ c = 19 ∨ c = 0) := ⟨(rk_c1 c h1 h2 h3).1, (rk_c1 c h1 h2 h3).2, rk_c2 c h1 h2 h3, by omega⟩
theorem rcC_ne {fu n : Nat} {T : Nat → Int32} {z : Sg} {t : Tok} {l : List Tok} {C : List Nat} (hf : 300 ≤ fu) (h : rcC T n z t l C) (hk : t.1 ≠ 257) : 1 ≤ l.length := by
  obtain ⟨Z, a, b, c1, c2, _⟩ := h.adv (fu := fu) hf hk
  rw [c2]
  simp
section RDE
variable {fu n : Nat} {T : Nat → Int32}
theorem opdC {d j o c : Nat} {z : Sg} {t' : Tok} {l' : List Tok} {C1 H : List Nat} {m2 : Bool} {v : Int32} (hf : 300 ≤ fu) (ih : REC fu n T d) (hj : j ≤ 5) (ho : o ≤ 5) (hd : 7 * (5 - o) + (6 - j) ≤ d) (hz : rcC T n z t' l' C1) (hk : t'.1 ≠ 257) (hH : tlt (enR j) (c :: H)) (hop : opM (c :: H) = o) (hm : j ≤ 2 → m2 = true) (hm3 : 3 ≤ j → m2 = false) (hl : C1.length + l'.length ≤ 159) (hv : v = oc c) (k : Sg → Option Sg) :
    (∃ q Z, bndv (pD_advance fu z) (fun z2 => bndv (gRd fu d j (nI o) z2) (fun z3 => bndv (pL_add fu 66 v z3) k)) = k Z ∧ rfC T n Z q ∧ FG z Z ∧ syM l' true m2 (c :: H) C1 = .inl q) ∨
    ∃ Z t3 l3 D2 m3 H3 O3, bndv (pD_advance fu z) (fun z2 => bndv (gRd fu d j (nI o) z2) (fun z3 => bndv (pL_add fu 66 v z3) k)) = k Z ∧ rcC T n Z t3 l3 (c :: (D2 ++ C1)) ∧ FG z Z ∧ syM l' true m2 (c :: H) C1 = syM (t3 :: l3) false m3 H3 O3 ∧ unM (lvR j) H3 O3 = unM (lvR j) (c :: H) (D2 ++ C1) ∧ wfR D2 ∧ okL D2 ∧ D2.length + l3.length + 1 ≤ l'.length ∧ pst (lvR j) t3 H3 O3 := by
  obtain ⟨z1, t2, l2, a1, a2, a3, a4⟩ := hz.adv (fu := fu) hf hk
  subst a2
  rw [List.length_cons] at hl ⊢
  rcases ih j o z1 t2 l2 C1 m2 (c :: H) hj ho hd a3 hH hop hm (fun h e => absurd (e.symm.trans (hm3 h)) (by decide)) (by omega) with ⟨q, Z, b1, b2, b3, b4⟩ | ⟨Z, t3, l3, D2, m3, H3, O3, b1, b2, b3, b4, b5, b6, b7, b8, b9⟩
  · obtain ⟨Y, y1, y2, y3⟩ := b2.add (fu := fu) v
    refine Or.inl ⟨q, Y, ?_, y2, (a4.tr b3).tr y3, b4⟩
    rw [a1, pv_bndv, b1, pv_bndv, y1, pv_bndv]
  · obtain ⟨Y, y1, y2, y3⟩ := b2.add (fu := fu) (by rw [List.length_append]; omega) hv
    refine Or.inr ⟨Y, t3, l3, D2, m3, H3, O3, ?_, y2, (a4.tr b3).tr y3, b4, b5, b6, b7, by omega, b9⟩
    rw [a1, pv_bndv, b1, pv_bndv, y1, pv_bndv]
theorem loopC {lv j o d : Nat} {L : Nat → Int32 → Int32 → Sg → Option Sg} (hf : 300 ≤ fu) (ih : REC fu n T d) (hj : j ≤ 5) (ho : o ≤ 5) (hd : 7 * (5 - o) + (6 - j) ≤ d) (hlj : lvR j = lv + 1) (hle : lv < enR j) (hjm : (j ≤ 2 ∧ lv ≤ 2) ∨ (3 ≤ j ∧ 5 ≤ lv))
    (hx : ∀ f v z k, v < 160 → k < 259 → z 3 4 = nI k → ¬ (sgM k ≠ 0 ∧ rkM (sgM k) = lv) → L (f + 1) (nI o) (nI v) z = some z)
    (hs : ∀ f v z k, v < 160 → k < 259 → z 3 4 = nI k → sgM k ≠ 0 → rkM (sgM k) = lv → L (f + 1) (nI o) (nI v) z = bndv (pD_advance fu z) (fun z2 => bndv (gRd fu d j (nI o) z2) (fun z3 => bndv (pL_add fu 66 (oc (sgM k)) z3) (fun z4 => letm (nI v + 1) (fun x5 => L f (nI o) x5 z4)))))
    {z0 : Sg} {t0 : Tok} {l0 : List Tok} {C H : List Nat} {m : Bool} (hH : tlt lv H) (hop : opM H = o) (hC : C.length + l0.length ≤ 159) : ∀ N f v z t' l' D m' H2 O2, l'.length ≤ N → N < f → v + l'.length < 160 → rcC T n z t' l' (D ++ C) → FG z0 z → syM (t0 :: l0) true m H C = syM (t' :: l') false m' H2 O2 → unM lv H2 O2 = unM lv H (D ++ C) → wfR D → okL D → D.length + l'.length ≤ l0.length → pst (lv + 1) t' H2 O2 → outC T n lv z0 t0 l0 C m H (L f (nI o) (nI v) z) := by
  intro N
  induction N with
  | zero =>
    intro f v z t' l' D m' H2 O2 h1 h2 h3 hz hF hy hu hw hk hl hp
    obtain ⟨f, rfl⟩ := fuS h2
    have hl0 : l' = [] := List.eq_nil_of_length_eq_zero (by omega)
    subst hl0
    have h257 : t'.1 = 257 := Classical.byContradiction fun q => by
      obtain ⟨Z, a, b, c1, c2, _⟩ := hz.adv (fu := fu) hf q
      exact absurd c2 (by simp)
    refine Or.inr ⟨z, t', [], D, m', H2, O2, hx f v z t'.1 (by omega) hz.kd.1 hz.2.2.1.1 (fun e => e.1 (by rw [h257]; rfl)), hz, hF, hy, hu, hw, hk, hl, fun e => absurd (by rw [h257]; rfl) e⟩
  | succ N IH =>
    intro f v z t' l' D m' H2 O2 h1 h2 h3 hz hF hy hu hw hk hl hp
    obtain ⟨f, rfl⟩ := fuS h2
    have h259 := hz.kd.1
    by_cases q : sgM t'.1 ≠ 0 ∧ rkM (sgM t'.1) = lv
    · obtain ⟨q1, q2⟩ := q
      obtain ⟨g1, g2, g3, g4, g5, g6⟩ := sg_59 t'.1 h259 q1
      obtain ⟨r1, r2, r3, r4⟩ := rk_c (sgM t'.1) (by omega) g4 g6
      have n4 : rkM (sgM t'.1) ≠ 4 := by omega
      have hsy := syOp (l := l') (m := m') (H2 := H2) (O2 := O2) (H := H) (C1 := D ++ C) h259 q1 (fun e => n4 e.1) (by rw [r2 n4, q2, hu, unM_k hH])
      rw [hs f v z t'.1 (by omega) h259 hz.2.2.1.1 q1 q2]
      rcases opdC (c := sgM t'.1) (m2 := decide (sgM t'.1 ≤ 12)) (H := H) hf ih hj ho hd hz g3 (by show rkM (sgM t'.1) < enR j; omega) (by rw [opM_c, if_neg r4]; exact hop) (fun e => decide_eq_true (r1.mpr (by omega))) (fun e => decide_eq_false (fun e2 => by have := r1.mp e2; omega)) (by rw [List.length_append]; omega) rfl (fun z4 => letm (nI v + 1) (fun x5 => L f (nI o) x5 z4)) with ⟨q, Z, b1, b2, b3, b4⟩ | ⟨Z, t3, l3, D2, m3, H3, O3, b1, b2, b3, b4, b5, b6, b7, b8, b9⟩
      · obtain ⟨f', rfl⟩ := fuS (show N < f by omega)
        have hne := rcC_ne (fu := fu) hf hz g3
        refine Or.inl ⟨q, Z, ?_, b2, hF.tr b3, by rw [hy, hsy, b4]⟩
        rw [b1]
        show L (f' + 1) (nI o) (nI v + 1) Z = _
        rw [nI_1]
        exact hx f' (v + 1) Z 258 (by omega) (by omega) b2.2.1 (fun e => e.1 rfl)
      · rw [b1]
        show outC T n lv z0 t0 l0 C m H (L f (nI o) (nI v + 1) Z)
        rw [nI_1]
        have hl2 := wfR_ne b6
        rw [hlj] at b5 b9
        have e4 : sgM t'.1 :: (D2 ++ (D ++ C)) = (sgM t'.1 :: (D2 ++ D)) ++ C := by simp
        refine IH f (v + 1) Z t3 l3 (sgM t'.1 :: (D2 ++ D)) m3 H3 O3 (by omega) (by omega) (by omega) (by rw [← e4]; exact b2) (hF.tr b3) (by rw [hy, hsy, b4]) ?_ (wfR_b hw b6 ⟨by omega, by omega, g6⟩) (okL_c (okL_a b7 hk) (Or.inr (Or.inl ⟨by omega, by omega⟩))) (by rw [List.length_cons, List.length_append]; omega) b9
        rw [← e4, unM_eq b5 (by omega), unM_p (by omega)]
    · refine Or.inr ⟨z, t', l', D, m', H2, O2, hx f v z t'.1 (by omega) h259 hz.2.2.1.1 q, hz, hF, hy, hu, hw, hk, hl, fun e => ?_⟩
      rcases hp e with h | h
      · refine Or.inl ?_
        have : rkM (sgM t'.1) ≠ lv := fun e2 => q ⟨e, e2⟩
        omega
      · exact Or.inr h
end RDE
