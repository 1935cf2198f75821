/-! weary: down from 99, up from 0 -/
def lsP (P : Nat → Bool) : Nat → Int32
  | 0 => -1
  | k + 1 => if lsP P k = -1 then (if P k then nI k else -1) else lsP P k
def cnP (P : Nat → Bool) : Nat → Int32
  | 0 => 0
  | k + 1 => cnP P k + (if P k then 1 else 0)
def dwM (P : Nat → Bool) : Nat → Int32 → Int32 → Int32 × Int32
  | 0, c, l => (c, l)
  | k + 1, c, l => if P k then dwM P k (c + 1) (nI k) else dwM P k c l
def upM (P : Nat → Bool) : Nat → Nat → Int32 → Int32 → Int32 × Int32
  | 0, _, c, l => (c, l)
  | k + 1, i, c, l => if P i then upM P k (i + 1) (c + 1) (if l = -1 then nI i else l) else upM P k (i + 1) c l
theorem dwM_eq (P : Nat → Bool) : ∀ k c l, k ≤ 100 → dwM P k c l = (c + cnP P k, if lsP P k = -1 then l else lsP P k) := by
  intro k
  induction k with
  | zero => intro c l _; simp [dwM, cnP, lsP]
  | succ k ih =>
    intro c l hk
    unfold dwM cnP lsP
    cases hP : P k with
    | true =>
      simp only [if_true]
      rw [ih _ _ (by omega)]
      refine Prod.ext ?_ ?_
      · show c + 1 + cnP P k = c + (cnP P k + 1)
        rw [Int32.add_assoc, Int32.add_comm 1]
      · show (if lsP P k = -1 then nI k else lsP P k) = _
        by_cases q : lsP P k = -1
        · rw [if_pos q, if_neg (fun w => (pv_neg1 (by omega)).mp w)]
        · rw [if_neg q, if_neg q]
    | false =>
      simp only [Bool.false_eq_true, if_false, Int32.add_zero]
      rw [ih _ _ (by omega)]
      by_cases q : lsP P k = -1
      · rw [if_pos q, if_pos q]; simp
      · rw [if_neg q, if_neg q, if_neg q]
theorem upM_eq (P : Nat → Bool) : ∀ k i c, i + k ≤ 100 → c = cnP P i → upM P k i c (lsP P i) = (cnP P (i + k), lsP P (i + k)) := by
  intro k
  induction k with
  | zero => intro i c _ h; rw [h]; rfl
  | succ k ih =>
    intro i c hk h
    unfold upM
    rw [show i + (k + 1) = i + 1 + k by omega]
    have h1 : ∀ c', c' = cnP P (i + 1) → upM P k (i + 1) c' (lsP P (i + 1)) = _ := fun c' hc => ih (i + 1) c' (by omega) hc
    have e1 : lsP P (i + 1) = if lsP P i = -1 then (if P i then nI i else -1) else lsP P i := rfl
    have e2 : cnP P (i + 1) = cnP P i + (if P i then 1 else 0) := rfl
    cases hP : P i with
    | true =>
      rw [hP] at e1 e2
      simp only [if_true] at e1 e2 ⊢
      rw [h, ← e2, ← e1]
      exact h1 _ rfl
    | false =>
      rw [hP] at e1 e2
      simp only [Bool.false_eq_true, if_false, Int32.add_zero] at e1 e2 ⊢
      have e3 : lsP P (i + 1) = lsP P i := by
        rw [e1]
        by_cases q : lsP P i = -1
        · rw [if_pos q, q]
        · rw [if_neg q]
      rw [h, ← e2, ← e3]
      exact h1 _ rfl
theorem dw_upk (P : Nat → Bool) (k : Nat) (hk : k ≤ 100) : dwM P k 0 (-1) = upM P k 0 0 (-1) := by
  rw [dwM_eq P k 0 (-1) hk, show upM P k 0 0 (-1) = _ from upM_eq P k 0 0 (by omega) rfl, Nat.zero_add]
  refine Prod.ext ?_ ?_
  · show 0 + cnP P k = cnP P k
    rw [Int32.zero_add]
  · show (if lsP P k = -1 then -1 else lsP P k) = lsP P k
    by_cases q : lsP P k = -1
    · rw [if_pos q, q]
    · rw [if_neg q]
theorem dw_up (P : Nat → Bool) : dwM P 100 0 (-1) = upM P 100 0 0 (-1) := dw_upk P 100 (Nat.le_refl _)
section TOLD2
variable {fu n lw tc ts : Nat} {F : Nat → Nat → Int32} {K : Nat → Int32} {C E : Nat → Nat → Nat}
theorem bp_w {L : LT} {n m sz : Nat} {g : Nat → Int32} {F : Nat → Nat → Int32} {K : Nat → Int32} {w v : Nat} (hw : w ≠ 0) : bpM L n m sz g F K w v = decide (foM L n m g sz 0 (sfF F w m (nI v), K) = -1) := by
  unfold bpM; rw [if_neg hw, Bool.true_and]
theorem weC_loop (hf : 50000 ≤ fu) {y : Sg} (h : InvP y n lw tc ts F K C E) {s m sz : Nat} (hs : s < 4) (hm : m < n) (hi : iH1 y s sz) {v3 : Int32} : ∀ k f c l z, k ≤ 100 → k < f → EqQ y z → ∃ Z, pS_weary_37 fu f (nI s) (nI m) v3 c l (nI k - 1) z = some (an2 v3 (dwM (bpM (saM (C lw) (E lw)) n m sz (y (71 + 2 * s)) F K 2) k c l), Z) ∧ EqQ y Z := by
  intro k
  induction k with
  | zero =>
    intro f c l z h1 h2 h3
    obtain ⟨f, rfl⟩ := fuS h2
    rw [pS_weary_37, if_pos (show nI 0 - 1 < 0 from by decide)]
    refine ⟨z, ?_, h3⟩
    show _ = some (if v3 = 0 then c else l, z)
    split <;> rfl
  | succ k ih =>
    intro f c l z h1 h2 h3
    obtain ⟨f, rfl⟩ := fuS h2
    have hz := h.i h3.i
    have hn := hz.1.2.2.1.1
    have hb := (hz.bs (fu := fu) (by omega)).f (w := 2) (m := m) (v := nI k) ⟨k, by show k < 100; omega, rfl⟩
    obtain ⟨Y, t1, t2, t3, t4⟩ := ip_think (fu := fu) hf hz
    have e1 : EqQ Y (u2 Y 25 m (nI k)) := eq_u EqQ.rf (by unfold QC; omega)
    have e2 : EqQ y (u2 Y 25 m (nI k)) := (h3.tr t3).tr e1
    obtain ⟨Z, z1, z2⟩ := foC (fu := fu) hm hs hi (g := y (71 + 2 * s)) (fun _ _ => rfl) (sfF F 2 m (nI k), K) (z := u2 Y 25 m (nI k)) hb (t2.f (w := 2) (by omega)) (lc_q hb.2.1 t4 e1) e2
    rw [pS_weary_37, nI_pred, if_neg (nI_pos (by omega)), t1, pv_bndv, pv_inb (by omega) (by omega), pv_chk, pv_letm, pv_sa (by omega), z1, pv_bnd, dwM, bp_w (by omega)]
    unfold pS_weary_83
    rw [pv_letm, pv_letm, pv_letm, show nI k + (-1) = nI k - 1 from (Int32.sub_eq_add_neg _ _).symm]
    by_cases q : foM (saM (C lw) (E lw)) n m (y (71 + 2 * s)) sz 0 (sfF F 2 m (nI k), K) = -1
    · rw [if_pos q, decide_eq_true q, if_pos rfl]
      exact ih f _ _ Z (by omega) (by omega) z2
    · rw [if_neg q, decide_eq_false q, if_neg (by decide)]
      exact ih f _ _ Z (by omega) (by omega) z2
theorem weMr_loop (hf : 50000 ≤ fu) {y : Sg} (h : InvP y n lw tc ts F K C E) {s m sz : Nat} {g : Nat → Int32} (hs : s < 4) (hm : m < n) (hi : iH1 y s sz) (hg : ∀ j, j < 40 → y (71 + 2 * s) j = g j) {v3 : Int32} : ∀ k v f c l z, v + k = 100 → k < f → (∀ c j, ¬ (94 ≤ c ∧ c ≤ 97) → ¬ (c = 81 ∧ j = 3 * m + 2) → z c j = y c j) → ∃ Z, pM_weary_49 fu f (nI s) (nI m) v3 (F 2 m) c l (nI v) z = some (an2 v3 (upM (bpM (saM (C lw) (E lw)) n m sz g F K 2) k v c l), Z) ∧ EqX y Z := by
  have hn := h.1.2.2.1.1
  intro k
  induction k with
  | zero =>
    intro v f c l z h1 h2 h3
    obtain ⟨f, rfl⟩ := fuS h2
    rw [pM_weary_49, if_pos (show (99 : Int32) < nI v from nI_lt (a := 99) (by omega) (by omega)), l_3, pk_mul, l_2, nI_add, pv_inb (by omega) (by omega), pv_chk, pv_letm, pv_sa (by omega)]
    refine ⟨u2 z 81 (3 * m + 2) (F 2 m), ?_, fun c j hc => ?_⟩
    · show _ = some (if v3 = 0 then c else l, _)
      split <;> rfl
    · by_cases e : c = 81 ∧ j = 3 * m + 2
      · rw [pv_u2, if_pos e, e.1, e.2]; exact (h.1.2.1.2.2.2.2.1 m hm).symm
      · rw [pv_u2, if_neg e]; exact h3 c j hc e
  | succ k ih =>
    intro v f c l z h1 h2 h3
    obtain ⟨f, rfl⟩ := fuS h2
    have e2 : ∀ c j, ¬ (94 ≤ c ∧ c ≤ 97) → ¬ (c = 81 ∧ j = 3 * m + 2) → (u2 z 81 (3 * m + 2) (nI v)) c j = y c j := fun c j c1 c2 => by rw [pv_u2, if_neg c2]; exact h3 c j c1 c2
    obtain ⟨Z, z1, z2⟩ := ulF (fu := fu) hf h (z := u2 z 81 (3 * m + 2) (nI v)) (w := 2) (v := v) (c0 := 81) (j0 := 3 * m + 2) hs hm hi hg (by omega) (show v < 100 by omega) e2 (by rw [pv_u2, if_pos ⟨rfl, rfl⟩])
    have e3 : ∀ c j, ¬ (94 ≤ c ∧ c ≤ 97) → ¬ (c = 81 ∧ j = 3 * m + 2) → Z c j = y c j := fun c j c1 c2 => by rw [z2 c j c1]; exact e2 c j c1 c2
    rw [pM_weary_49, if_neg (show ¬ (99 : Int32) < nI v from nI_nlt (a := 99) (by omega) (by omega)), l_3, pk_mul, l_2, nI_add, pv_inb (by omega) (by omega), pv_chk, pv_letm, pv_sa (by omega), z1, pv_bnd, upM, bp_w (by omega)]
    unfold pM_weary_83 pM_weary_97 pM_weary_116 pM_weary_118
    simp only [pv_letm, nI_1, Int32.add_zero]
    by_cases q : foM (saM (C lw) (E lw)) n m g sz 0 (sfF F 2 m (nI v), K) = -1
    · rw [if_pos q, decide_eq_true q, if_pos rfl]
      simp only [show ((1 : Int32) = 0) = False from by decide, if_false]
      obtain ⟨W, w1, w2⟩ := ih (v + 1) f (c + 1) (if l = -1 then nI v else l) Z (by omega) (by omega) e3
      refine ⟨W, ?_, w2⟩
      rw [← w1]
      by_cases ql : l = -1
      · rw [if_pos ql, if_pos ql]
      · rw [if_neg ql, if_neg ql]
    · rw [if_neg q, decide_eq_false q]
      simp only [eq_self, if_true, Bool.false_eq_true, if_false]
      exact ih (v + 1) f c l Z (by omega) (by omega) e3
theorem st_weary {fu : Nat} (hf : 50000 ≤ fu) (z : Sg) (a1 a2 a3 : Int32) (h : Inv z) : ∃ (r : Int32) (z1 z2 : Sg), pS_weary fu a1 a2 a3 z = some (r, z1) ∧ pM_weary fu a1 a2 a3 z1 = some (r, z2) ∧ Inv z2 := by
  obtain ⟨n, lw, tc, ts, F, K, C, E, h⟩ := h
  have hI : Inv z := ⟨n, lw, tc, ts, F, K, C, E, h⟩
  have hn := h.1.2.2.1.1
  rcases one_cases h a1 a2 with ⟨r, r0, r1, r2⟩ | ⟨s, k, m, hs, hk, hm, rfl, rfl, hi, r1, r2⟩
  · exact ⟨r, z, z, by unfold pS_weary; rw [r1, pv_bnd, if_neg r0], by unfold pM_weary; rw [r2, pv_bnd, if_neg r0], hI⟩
  · rcases wi_cases (M := 1) (k := 1) rfl (by omega) a3 with ⟨c1, c2⟩ | ⟨v, hv, rfl, c1, c2⟩
    · exact ⟨-7, z, z, by unfold pS_weary; rw [r1, pv_bnd, if_pos rfl, c1, pv_bnd, if_pos rfl], by unfold pM_weary; rw [r2 fu z (fun _ _ _ _ => rfl), pv_bnd, if_pos rfl, c2, pv_bnd, if_pos rfl], hI⟩
    · refine ask2 h (an2 (nI v) (dwM (bpM (saM (C lw) (E lw)) n m k (z (71 + 2 * s)) F K 2) 100 0 (-1))) ?_ (fun y hy e => ?_)
      · obtain ⟨Z, z1, z2⟩ := weC_loop (fu := fu) hf h hs hm hi (v3 := nI v) 100 fu 0 (-1) z (by omega) (by omega) EqQ.rf
        refine ⟨Z, ?_, z2⟩
        unfold pS_weary
        rw [r1, pv_bnd, if_pos rfl, c1, pv_bnd, if_neg (by decide)]
        exact z1
      · have hiy : iH1 y s k := hi.at hs (fun c j hc => e c j (by unfold QC ST; omega) (by unfold QM; omega))
        obtain ⟨Z, z1, z2⟩ := weMr_loop (fu := fu) hf hy (g := z (71 + 2 * s)) hs hm hiy (fun j _ => e _ j (by unfold QC ST; omega) (by unfold QM; omega)) (v3 := nI v) 100 0 fu 0 (-1) y (by omega) (by omega) (fun _ _ _ _ => rfl)
        refine ⟨Z, ?_, z2.r⟩
        unfold pM_weary
        rw [r2 fu y e, pv_bnd, if_pos rfl, c2, pv_bnd, if_neg (by decide), l_3, pk_mul, l_2, nI_add, pv_inb (by omega) (by omega), pv_chk, pv_letm, pv_ga (by omega), hy.1.2.1.2.2.2.2.1 m hm, dw_up]
        exact z1
/-! whose, laws -/
def wsM (L : LT) (n sz : Nat) (g : Nat → Int32) (F : Nat → Nat → Int32) (K : Nat → Int32) : Nat → Bool := fun m => decide (foM L n m g sz 0 (F, K) = -1)
theorem wsC_loop (hf : 50000 ≤ fu) {y : Sg} (h : InvP y n lw tc ts F K C E) {s sz : Nat} (hs : s < 4) (hi : iH1 y s sz) : ∀ k m f a z, m + k = n → k < f → EqQ y z → ∃ Z, pS_whose_17 fu f (nI s) a (nI m) z = some (ibM (wsM (saM (C lw) (E lw)) n sz (y (71 + 2 * s)) F K) k m a, Z) ∧ EqQ y Z := by
  have hn := h.1.2.2.1.1
  intro k
  induction k with
  | zero =>
    intro m f a z h1 h2 h3
    obtain ⟨f, rfl⟩ := fuS h2
    have hz := h.i h3.i
    rw [pS_whose_17, hz.1.1.1, if_pos (nI_le (by omega) (by omega))]
    exact ⟨z, rfl, h3⟩
  | succ k ih =>
    intro m f a z h1 h2 h3
    obtain ⟨f, rfl⟩ := fuS h2
    have hz := h.i h3.i
    have hb := hz.bs (fu := fu) (by omega)
    obtain ⟨Y, t1, t2, t3, t4⟩ := ip_think (fu := fu) hf hz
    obtain ⟨Z, z1, z2⟩ := foC (fu := fu) (m := m) (by omega) hs hi (g := y (71 + 2 * s)) (fun _ _ => rfl) (F, K) (z := Y) hb t2 t4 (h3.tr t3)
    rw [pS_whose_17, hz.1.1.1, if_neg (nI_ge (by omega) (by omega)), t1, pv_bndv, z1, pv_bnd, ibM]
    unfold pS_whose_58
    rw [pv_letm, pv_letm, pv_letm, nI_1]
    obtain ⟨W, w1, w2⟩ := ih (m + 1) f (if wsM (saM (C lw) (E lw)) n sz (y (71 + 2 * s)) F K m then a ||| (1 <<< (nI m &&& 31)) else a) Z (by omega) (by omega) z2
    refine ⟨W, ?_, w2⟩
    rw [← w1]
    by_cases q : foM (saM (C lw) (E lw)) n m (y (71 + 2 * s)) sz 0 (F, K) = -1
    · rw [if_pos q, show wsM (saM (C lw) (E lw)) n sz (y (71 + 2 * s)) F K m = true from decide_eq_true q, if_pos rfl]
    · rw [if_neg q, show wsM (saM (C lw) (E lw)) n sz (y (71 + 2 * s)) F K m = false from decide_eq_false q, if_neg (by decide)]
theorem wsMr_loop (hf : 50000 ≤ fu) {y : Sg} (h : InvP y n lw tc ts F K C E) {s sz : Nat} {g : Nat → Int32} (hs : s < 4) (hi : iH1 y s sz) (hg : ∀ j, j < 40 → y (71 + 2 * s) j = g j) : ∀ k m f a z, m + k = n → k < f → EqX y z → ∃ Z, pM_whose_17 fu f (nI s) a (nI m) z = some (ibM (wsM (saM (C lw) (E lw)) n sz g F K) k m a, Z) ∧ EqX y Z := by
  have hn := h.1.2.2.1.1
  intro k
  induction k with
  | zero =>
    intro m f a z h1 h2 h3
    obtain ⟨f, rfl⟩ := fuS h2
    rw [pM_whose_17, (h.1.2.1.x h3).1, if_pos (nI_le (by omega) (by omega))]
    exact ⟨z, rfl, h3⟩
  | succ k ih =>
    intro m f a z h1 h2 h3
    obtain ⟨f, rfl⟩ := fuS h2
    obtain ⟨Z, z1, z2⟩ := foMr (fu := fu) (m := m) (s0 := s) (sz := sz) (g := g) (by omega) hs hi.1 (z0 := z) (by rw [h3 89 s (by omega)]; exact hi.2.2.1) (fun j hj => by rw [h3 90 _ (by omega), hi.2.2.2.2.2 j hj]; exact hg j hj) (F, K) (h.bs (fu := fu) (by omega)) (h.1.2.1.x h3) (h.lM.x h3)
    rw [pM_whose_17, (h.1.2.1.x h3).1, if_neg (nI_ge (by omega) (by omega)), z1, pv_bnd, ibM]
    unfold pM_whose_46
    simp only [pv_letm, nI_1, Int32.or_zero]
    obtain ⟨W, w1, w2⟩ := ih (m + 1) f (if wsM (saM (C lw) (E lw)) n sz g F K m then a ||| (1 <<< (nI m &&& 31)) else a) Z (by omega) (by omega) (h3.tr z2)
    refine ⟨W, ?_, w2⟩
    rw [← w1]
    by_cases q : foM (saM (C lw) (E lw)) n m g sz 0 (F, K) = -1
    · rw [if_pos q, show wsM (saM (C lw) (E lw)) n sz g F K m = true from decide_eq_true q, if_pos rfl]
    · rw [if_neg q, show wsM (saM (C lw) (E lw)) n sz g F K m = false from decide_eq_false q, if_neg (by decide)]
theorem st_whose {fu : Nat} (hf : 50000 ≤ fu) (z : Sg) (a1 : Int32) (h : Inv z) : ∃ (r : Int32) (z1 z2 : Sg), pS_whose fu a1 z = some (r, z1) ∧ pM_whose fu a1 z1 = some (r, z2) ∧ Inv z2 := by
  obtain ⟨n, lw, tc, ts, F, K, C, E, h⟩ := h
  have hn := h.1.2.2.1.1
  rcases told_cases h a1 with ⟨r, r0, r1, r2⟩ | ⟨s, k, hs, hk, rfl, hi, r1, r2⟩
  · exact ⟨r, z, z, by unfold pS_whose; rw [r1, pv_bnd, if_neg r0], by unfold pM_whose; rw [r2, pv_bnd, if_neg r0], n, lw, tc, ts, F, K, C, E, h⟩
  · refine ask2 h (ibM (wsM (saM (C lw) (E lw)) n k (z (71 + 2 * s)) F K) n 0 0) ?_ (fun y hy e => ?_)
    · obtain ⟨Z, z1, z2⟩ := wsC_loop (fu := fu) hf h hs hi n 0 fu 0 z (by omega) (by omega) EqQ.rf
      refine ⟨Z, ?_, z2⟩
      unfold pS_whose
      rw [r1, pv_bnd, if_pos rfl]
      exact z1
    · have hiy : iH1 y s k := hi.at hs (fun c j hc => e c j (by unfold QC ST; omega) (by unfold QM; omega))
      obtain ⟨Z, z1, z2⟩ := wsMr_loop (fu := fu) hf hy (g := z (71 + 2 * s)) hs hiy (fun j _ => e _ j (by unfold QC ST; omega) (by unfold QM; omega)) n 0 fu 0 y (by omega) (by omega) EqX.rf
      refine ⟨Z, ?_, z2.r⟩
      unfold pM_whose
      rw [r2 fu y e, pv_bnd, if_pos rfl]
      exact z1
def lwM (C E : Nat → Nat → Nat) (n m sz : Nat) (g : Nat → Int32) (F : Nat → Nat → Int32) (K : Nat → Int32) : Nat → Bool := fun t => decide (foM (saM (C t) (E t)) n m g sz 0 (F, K) = -1)
theorem rC.l {z : Sg} {r n lw t : Nat} {F : Nat → Nat → Int32} {K : Nat → Int32} (h : rC z r n lw F K) : rC (u2 z r 4 (nI t)) r n t F K := by
  obtain ⟨a1, a2, a3, a4, a5, a6, a7, a8, a9, a10, a11⟩ := h
  refine ⟨by rw [pv_u2, if_neg (by omega)]; exact a1, by rw [pv_u2, if_pos ⟨rfl, rfl⟩], fun i hi => by rw [pv_u2, if_neg (by omega)]; exact a3 i hi, fun i hi => by rw [pv_u2, if_neg (by omega)]; exact a4 i hi, fun i hi => by rw [pv_u2, if_neg (by omega)]; exact a5 i hi, fun i hi => by rw [pv_u2, if_neg (by omega)]; exact a6 i hi, fun i hi => by rw [pv_u2, if_neg (by omega)]; exact a7 i hi, by rw [pv_u2, if_neg (by omega)]; exact a8, by rw [pv_u2, if_neg (by omega)]; exact a9, by rw [pv_u2, if_neg (by omega)]; exact a10, by rw [pv_u2, if_neg (by omega)]; exact a11⟩
theorem rM.l {y z : Sg} {n lw t : Nat} {F : Nat → Nat → Int32} {K : Nat → Int32} (h : rM y n lw F K) (e : ∀ c j, ¬ (94 ≤ c ∧ c ≤ 97) → ¬ (c = 78 ∧ j = 10) → z c j = y c j) (ez : z 78 10 = nI t) : rM z n t F K := by
  obtain ⟨a1, a2, a3, a4, a5, a6, a7, a8, a9, a10, a11⟩ := h
  refine ⟨by rw [e _ _ (by omega) (by omega)]; exact a1, ez, fun i hi => by rw [e _ _ (by omega) (by omega)]; exact a3 i hi, fun i hi => by rw [e _ _ (by omega) (by omega)]; exact a4 i hi, fun i hi => by rw [e _ _ (by omega) (by omega)]; exact a5 i hi, fun i hi => by rw [e _ _ (by omega) (by omega)]; exact a6 i hi, fun i hi => by rw [e _ _ (by omega) (by omega)]; exact a7 i hi, by rw [e _ _ (by omega) (by omega)]; exact a8, by rw [e _ _ (by omega) (by omega)]; exact a9, by rw [e _ _ (by omega) (by omega)]; exact a10, by rw [e _ _ (by omega) (by omega)]; exact a11⟩
theorem laC_loop (hf : 50000 ≤ fu) {y : Sg} (h : InvP y n lw tc ts F K C E) {s m sz : Nat} (hs : s < 4) (hm : m < n) (hi : iH1 y s sz) : ∀ k t f a z, t + k = tc → k < f → EqQ y z → ∃ Z, pS_laws_19 fu f (nI s) (nI m) a (nI t) z = some (ibM (lwM C E n m sz (y (71 + 2 * s)) F K) k t a, Z) ∧ EqQ y Z := by
  have ht6 := h.2.1.2.1
  intro k
  induction k with
  | zero =>
    intro t f a z h1 h2 h3
    obtain ⟨f, rfl⟩ := fuS h2
    have hz := h.i h3.i
    rw [pS_laws_19, hz.2.1.2.2.1, if_pos (nI_le (by omega) (by omega))]
    exact ⟨z, rfl, h3⟩
  | succ k ih =>
    intro t f a z h1 h2 h3
    obtain ⟨f, rfl⟩ := fuS h2
    have hz := h.i h3.i
    obtain ⟨q1, q2, q3⟩ := hz.2.1.2.2.2.2 t (by omega)
    have hb0 := hz.bs (fu := fu) (by omega)
    have hb : bs fu n t F K (C t) (E t) := ⟨hb0.1, by omega, q1, hb0.2.2.2⟩
    obtain ⟨Y, t1, t2, t3, t4⟩ := ip_think (fu := fu) hf hz
    have e1 : EqQ Y (u2 Y 20 4 (nI t)) := eq_u EqQ.rf (by unfold QC; omega)
    obtain ⟨Z, z1, z2⟩ := foC (fu := fu) (m := m) hm hs hi (g := y (71 + 2 * s)) (fun _ _ => rfl) (F, K) (z := u2 Y 20 4 (nI t)) hb t2.l (lc_q hb.2.1 q2 (t3.tr e1)) ((h3.tr t3).tr e1)
    rw [pS_laws_19, hz.2.1.2.2.1, if_neg (nI_ge (by omega) (by omega)), t1, pv_bndv, pv_letm, z1, pv_bnd, ibM]
    unfold pS_laws_67
    rw [pv_letm, pv_letm, pv_letm, nI_1]
    obtain ⟨W, w1, w2⟩ := ih (t + 1) f (if lwM C E n m sz (y (71 + 2 * s)) F K t then a ||| (1 <<< (nI t &&& 31)) else a) Z (by omega) (by omega) z2
    refine ⟨W, ?_, w2⟩
    rw [← w1]
    by_cases q : foM (saM (C t) (E t)) n m (y (71 + 2 * s)) sz 0 (F, K) = -1
    · rw [if_pos q, show lwM C E n m sz (y (71 + 2 * s)) F K t = true from decide_eq_true q, if_pos rfl]
    · rw [if_neg q, show lwM C E n m sz (y (71 + 2 * s)) F K t = false from decide_eq_false q, if_neg (by decide)]
theorem laMr_loop (hf : 50000 ≤ fu) {y : Sg} (h : InvP y n lw tc ts F K C E) {s m sz : Nat} {g : Nat → Int32} (hs : s < 4) (hm : m < n) (hi : iH1 y s sz) (hg : ∀ j, j < 40 → y (71 + 2 * s) j = g j) : ∀ k t f a z, t + k = tc → k < f → (∀ c j, ¬ (94 ≤ c ∧ c ≤ 97) → ¬ (c = 78 ∧ j = 10) → z c j = y c j) → ∃ Z, pM_laws_25 fu f (nI s) (nI m) (nI lw) a (nI t) z = some (ibM (lwM C E n m sz g F K) k t a, Z) ∧ EqX y Z := by
  have ht6 := h.2.1.2.1
  intro k
  induction k with
  | zero =>
    intro t f a z h1 h2 h3
    obtain ⟨f, rfl⟩ := fuS h2
    rw [pM_laws_25, h3 78 9 (by omega) (by omega), h.2.1.2.2.2.1, if_pos (nI_le (by omega) (by omega)), pv_letm]
    refine ⟨_, rfl, fun c j hc => ?_⟩
    by_cases e : c = 78 ∧ j = 10
    · rw [pv_u2, if_pos e, e.1, e.2]; exact h.1.2.1.2.1.symm
    · rw [pv_u2, if_neg e]; exact h3 c j hc e
  | succ k ih =>
    intro t f a z h1 h2 h3
    obtain ⟨f, rfl⟩ := fuS h2
    obtain ⟨q1, q2, q3⟩ := h.2.1.2.2.2.2 t (by omega)
    have hb0 := h.bs (fu := fu) (by omega)
    have hb : bs fu n t F K (C t) (E t) := ⟨hb0.1, by omega, q1, hb0.2.2.2⟩
    have e2 : ∀ c j, ¬ (94 ≤ c ∧ c ≤ 97) → ¬ (c = 78 ∧ j = 10) → (u2 z 78 10 (nI t)) c j = y c j := fun c j c1 c2 => by rw [pv_u2, if_neg c2]; exact h3 c j c1 c2
    obtain ⟨Z, z1, z2⟩ := foMr (fu := fu) (m := m) (s0 := s) (sz := sz) (g := g) hm hs hi.1 (z0 := u2 z 78 10 (nI t)) (by rw [e2 89 s (by omega) (by omega)]; exact hi.2.2.1) (fun j hj => by rw [e2 90 _ (by omega) (by omega), hi.2.2.2.2.2 j hj]; exact hg j hj) (F, K) hb (h.1.2.1.l e2 (by rw [pv_u2, if_pos ⟨rfl, rfl⟩])) (q3.at (fun c j hc => e2 c j (by omega) (by omega)))
    have e3 : ∀ c j, ¬ (94 ≤ c ∧ c ≤ 97) → ¬ (c = 78 ∧ j = 10) → Z c j = y c j := fun c j c1 c2 => by rw [z2 c j c1]; exact e2 c j c1 c2
    rw [pM_laws_25, h3 78 9 (by omega) (by omega), h.2.1.2.2.2.1, if_neg (nI_ge (by omega) (by omega)), pv_letm, z1, pv_bnd, ibM]
    unfold pM_laws_60
    simp only [pv_letm, nI_1, Int32.or_zero]
    obtain ⟨W, w1, w2⟩ := ih (t + 1) f (if lwM C E n m sz g F K t then a ||| (1 <<< (nI t &&& 31)) else a) Z (by omega) (by omega) e3
    refine ⟨W, ?_, w2⟩
    rw [← w1]
    by_cases q : foM (saM (C t) (E t)) n m g sz 0 (F, K) = -1
    · rw [if_pos q, show lwM C E n m sz g F K t = true from decide_eq_true q, if_pos rfl]
    · rw [if_neg q, show lwM C E n m sz g F K t = false from decide_eq_false q, if_neg (by decide)]
theorem st_laws {fu : Nat} (hf : 50000 ≤ fu) (z : Sg) (a1 a2 : Int32) (h : Inv z) : ∃ (r : Int32) (z1 z2 : Sg), pS_laws fu a1 a2 z = some (r, z1) ∧ pM_laws fu a1 a2 z1 = some (r, z2) ∧ Inv z2 := by
  obtain ⟨n, lw, tc, ts, F, K, C, E, h⟩ := h
  have ht6 := h.2.1.2.1
  rcases one_cases h a1 a2 with ⟨r, r0, r1, r2⟩ | ⟨s, k, m, hs, hk, hm, rfl, rfl, hi, r1, r2⟩
  · exact ⟨r, z, z, by unfold pS_laws; rw [r1, pv_bnd, if_neg r0], by unfold pM_laws; rw [r2, pv_bnd, if_neg r0], n, lw, tc, ts, F, K, C, E, h⟩
  · refine ask2 h (ibM (lwM C E n m k (z (71 + 2 * s)) F K) tc 0 0) ?_ (fun y hy e => ?_)
    · obtain ⟨Z, z1, z2⟩ := laC_loop (fu := fu) hf h hs hm hi tc 0 fu 0 z (by omega) (by omega) EqQ.rf
      refine ⟨Z, ?_, z2⟩
      unfold pS_laws
      rw [r1, pv_bnd, if_pos rfl]
      exact z1
    · have hiy : iH1 y s k := hi.at hs (fun c j hc => e c j (by unfold QC ST; omega) (by unfold QM; omega))
      obtain ⟨Z, z1, z2⟩ := laMr_loop (fu := fu) hf hy (g := z (71 + 2 * s)) hs hm hiy (fun j _ => e _ j (by unfold QC ST; omega) (by unfold QM; omega)) tc 0 fu 0 y (by omega) (by omega) (fun _ _ _ _ => rfl)
      refine ⟨Z, ?_, z2.r⟩
      unfold pM_laws
      rw [r2 fu y e, pv_bnd, if_pos rfl, pv_letm, hy.1.2.1.2.1]
      exact z1
end TOLD2
