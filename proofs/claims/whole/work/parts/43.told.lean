/-- by which of many numbers that would be -1 -/
def bpM (L : LT) (n m sz : Nat) (g : Nat → Int32) (F : Nat → Nat → Int32) (K : Nat → Int32) (w : Nat) : Nat → Bool := fun v => (if w = 0 then saO n F K m v else true) && decide (foM L n m g sz 0 (sfF F w m (nI v), K) = -1)
def bkM (L : LT) (n m sz : Nat) (g : Nat → Int32) (F : Nat → Nat → Int32) (K : Nat → Int32) (j : Nat) : Nat → Bool := fun v => decide (foM L n m g sz 0 (F, skK K j (nI v)) = -1)
section TOLD
variable {fu n lw tc ts : Nat} {F : Nat → Nat → Int32} {K : Nat → Int32} {C E : Nat → Nat → Nat}
theorem iH1.q {z y : Sg} {s k : Nat} (hs : s < 4) (h : iH1 z s k) (e : EqQ z y) : iH1 y s k := h.at hs (fun c j hc => e c j (by unfold QC ST; omega))
theorem bfC_loop (hf : 50000 ≤ fu) {y : Sg} (h : InvP y n lw tc ts F K C E) {s m sz w V : Nat} (hs : s < 4) (hm : m < n) (hi : iH1 y s sz) (hw : w < 5) (hV : V ≤ bnW w) : ∀ k v f a z, v + k = V → k < f → EqQ y z → ∃ Z, pS_bitsOfFact_6 fu f (nI s) (nI m) (nI w) (nI V) a (nI v) z = some (ibM (bpM (saM (C lw) (E lw)) n m sz (y (71 + 2 * s)) F K w) k v a, Z) ∧ EqQ y Z := by
  have hVb : V ≤ 100 := Nat.le_trans hV (by unfold bnW; (repeat' split) <;> omega)
  intro k
  induction k with
  | zero =>
    intro v f a z h1 h2 h3
    obtain ⟨f, rfl⟩ := fuS h2
    rw [pS_bitsOfFact_6, if_pos (nI_le (by omega) (by omega))]
    exact ⟨z, rfl, h3⟩
  | succ k ih =>
    intro v f a z h1 h2 h3
    obtain ⟨f, rfl⟩ := fuS h2
    have hz := h.i h3.i
    have hn := hz.1.2.2.1.1
    have hb := (hz.bs (fu := fu) (by omega)).f (w := w) (m := m) (v := nI v) ⟨v, by omega, rfl⟩
    obtain ⟨Y, t1, t2, t3, t4⟩ := ip_think (fu := fu) hf hz
    have e1 : EqQ Y (u2 Y (23 + w) m (nI v)) := eq_u EqQ.rf (by unfold QC; omega)
    have e2 : EqQ y (u2 Y (23 + w) m (nI v)) := (h3.tr t3).tr e1
    obtain ⟨Z, z1, z2⟩ := foC (fu := fu) hm hs hi (g := y (71 + 2 * s)) (fun _ _ => rfl) (sfF F w m (nI v), K) (z := u2 Y (23 + w) m (nI v)) hb (t2.f hw) (lc_q hb.2.1 t4 e1) e2
    have h85 : ∀ b W, EqQ y W → b = (if bpM (saM (C lw) (E lw)) n m sz (y (71 + 2 * s)) F K w v then a ||| (1 <<< (nI v &&& 31)) else a) → ∃ Z, pS_bitsOfFact_85 fu (pS_bitsOfFact_6 fu f) (nI s) (nI m) (nI w) (nI V) b (nI v) W = some (ibM (bpM (saM (C lw) (E lw)) n m sz (y (71 + 2 * s)) F K w) k (v + 1) (if bpM (saM (C lw) (E lw)) n m sz (y (71 + 2 * s)) F K w v then a ||| (1 <<< (nI v &&& 31)) else a), Z) ∧ EqQ y Z := fun b W hW hbb => by
      unfold pS_bitsOfFact_85
      rw [pv_letm, nI_1, hbb]
      exact ih (v + 1) f _ W (by omega) (by omega) hW
    have h59 : (w = 0 → saO n F K m v = true) → ∃ Z, pS_bitsOfFact_59 fu (pS_bitsOfFact_6 fu f) (nI s) (nI m) (nI w) (nI V) a (nI v) 1 (u2 Y (23 + w) m (nI v)) = some (ibM (bpM (saM (C lw) (E lw)) n m sz (y (71 + 2 * s)) F K w) k (v + 1) (if bpM (saM (C lw) (E lw)) n m sz (y (71 + 2 * s)) F K w v then a ||| (1 <<< (nI v &&& 31)) else a), Z) ∧ EqQ y Z := fun hmay => by
      have hP : bpM (saM (C lw) (E lw)) n m sz (y (71 + 2 * s)) F K w v = decide (foM (saM (C lw) (E lw)) n m (y (71 + 2 * s)) sz 0 (sfF F w m (nI v), K) = -1) := by
        unfold bpM
        by_cases w0 : w = 0
        · rw [if_pos w0, hmay w0, Bool.true_and]
        · rw [if_neg w0, Bool.true_and]
      unfold pS_bitsOfFact_59
      rw [if_neg (by decide), z1, pv_bnd]
      by_cases q : foM (saM (C lw) (E lw)) n m (y (71 + 2 * s)) sz 0 (sfF F w m (nI v), K) = -1
      · rw [if_pos q, pv_letm]
        exact h85 _ Z z2 (by rw [hP, decide_eq_true q, if_pos rfl])
      · rw [if_neg q]
        exact h85 _ Z z2 (by rw [hP, decide_eq_false q, if_neg (by decide)])
    rw [pS_bitsOfFact_6, if_neg (nI_ge (by omega) (by omega)), t1, pv_bndv, pv_inb (by omega) (by omega), pv_chk, pv_inb (by omega) (by omega), pv_chk, pv_letm, pv_clamp (by omega), pv_sa (by omega), ibM]
    unfold pS_bitsOfFact_54
    by_cases w0 : w = 0
    · subst w0
      have hV10 : V ≤ 10 := hV
      have hz2 := hz.i (t3.tr e1).i
      rw [if_pos (show nI 0 = 0 from rfl), ffC (fu := fu) hz2.1.1 hn hm (by omega) (by omega), pv_bnd]
      cases hsa : saO n F K m v with
      | true =>
        simp only [eq_self, if_true, show ((1 : Int32) = 0) = False from by decide, if_false]
        exact h59 (fun _ => hsa)
      | false =>
        simp only [eq_self, if_true, Bool.false_eq_true, if_false]
        unfold pS_bitsOfFact_59
        rw [if_pos rfl]
        exact h85 a _ e2 (by
          have : bpM (saM (C lw) (E lw)) n m sz (y (71 + 2 * s)) F K 0 v = false := by unfold bpM; rw [if_pos rfl, hsa, Bool.false_and]
          rw [this, if_neg (by decide)])
    · rw [if_neg (show ¬ nI w = 0 from fun q => w0 (by rw [l_0, pv_eq (by omega) (by omega)] at q; exact q))]
      exact h59 (fun q => absurd q w0)
theorem bkC_loop (hf : 50000 ≤ fu) {y : Sg} (h : InvP y n lw tc ts F K C E) {s m sz j : Nat} (hs : s < 4) (hm : m < n) (hi : iH1 y s sz) (hj : j = 1 ∨ j = 2) : ∀ k v f a z, v + k = 12 → k < f → EqQ y z → ∃ Z, pS_bitsOfMark_6 fu f (nI s) (nI m) (nI j) a (nI v) z = some (ibM (bkM (saM (C lw) (E lw)) n m sz (y (71 + 2 * s)) F K j) k v a, Z) ∧ EqQ y Z := by
  intro k
  induction k with
  | zero =>
    intro v f a z h1 h2 h3
    obtain ⟨f, rfl⟩ := fuS h2
    rw [pS_bitsOfMark_6, if_pos (show (12 : Int32) ≤ nI v from nI_le (a := 12) (by omega) (by omega))]
    exact ⟨z, rfl, h3⟩
  | succ k ih =>
    intro v f a z h1 h2 h3
    obtain ⟨f, rfl⟩ := fuS h2
    have hz := h.i h3.i
    have hb := (hz.bs (fu := fu) (by omega)).k (j := j) (v := nI v) ⟨v, by unfold bnK; rw [if_neg (by omega)]; omega, rfl⟩
    obtain ⟨Y, t1, t2, t3, t4⟩ := ip_think (fu := fu) hf hz
    have e1 : EqQ Y (u2 Y 21 j (nI v)) := eq_u EqQ.rf (by unfold QC; omega)
    have e2 : EqQ y (u2 Y 21 j (nI v)) := (h3.tr t3).tr e1
    obtain ⟨Z, z1, z2⟩ := foC (fu := fu) hm hs hi (g := y (71 + 2 * s)) (fun _ _ => rfl) (F, skK K j (nI v)) (z := u2 Y 21 j (nI v)) hb (t2.k) (lc_q hb.2.1 t4 e1) e2
    rw [pS_bitsOfMark_6, if_neg (show ¬ (12 : Int32) ≤ nI v from nI_ge (b := 12) (by omega) (by omega)), t1, pv_bndv, pv_inb (by omega) (by omega), pv_chk, pv_letm, pv_sa (by omega), z1, pv_bnd, ibM]
    unfold pS_bitsOfMark_54
    rw [pv_letm, pv_letm, pv_letm, nI_1]
    obtain ⟨W, w1, w2⟩ := ih (v + 1) f (if bkM (saM (C lw) (E lw)) n m sz (y (71 + 2 * s)) F K j v then a ||| (1 <<< (nI v &&& 31)) else a) Z (by omega) (by omega) z2
    refine ⟨W, ?_, w2⟩
    rw [← w1]
    by_cases q : foM (saM (C lw) (E lw)) n m (y (71 + 2 * s)) sz 0 (F, skK K j (nI v)) = -1
    · rw [if_pos q, show bkM (saM (C lw) (E lw)) n m sz (y (71 + 2 * s)) F K j v = true from decide_eq_true q, if_pos rfl]
    · rw [if_neg q, show bkM (saM (C lw) (E lw)) n m sz (y (71 + 2 * s)) F K j v = false from decide_eq_false q, if_neg (by decide)]
/-- one look of the reference at told strokes: a fact otherwise -/
theorem ulF (hf : 50000 ≤ fu) {y z : Sg} (h : InvP y n lw tc ts F K C E) {s m sz w v c0 j0 : Nat} {g : Nat → Int32} (hs : s < 4) (hm : m < n) (hi : iH1 y s sz) (hg : ∀ j, j < 40 → y (71 + 2 * s) j = g j) (hw : (w < 3 ∧ c0 = 81 ∧ j0 = 3 * m + w) ∨ (w = 3 ∧ c0 = 79 ∧ j0 = m) ∨ (w = 4 ∧ c0 = 80 ∧ j0 = m)) (hv : v < bnW w) (e : ∀ c j, ¬ (94 ≤ c ∧ c ≤ 97) → ¬ (c = c0 ∧ j = j0) → z c j = y c j) (ez : z c0 j0 = nI v) : ∃ Z, pM_unlike fu (nI s) (nI m) z = some (foM (saM (C lw) (E lw)) n m g sz 0 (sfF F w m (nI v), K), Z) ∧ EqX z Z :=
  foMr (fu := fu) hm hs hi.1 (by rw [e 89 s (by omega) (by omega)]; exact hi.2.2.1) (fun j hj => by rw [e 90 _ (by omega) (by omega), hi.2.2.2.2.2 j hj]; exact hg j hj) (sfF F w m (nI v), K) ((h.bs (fu := fu) (by omega)).f ⟨v, hv, rfl⟩) (h.1.2.1.f hw e ez) (h.lM.at (fun c j hc => e c j (by omega) (by omega)))
theorem ulK (hf : 50000 ≤ fu) {y z : Sg} (h : InvP y n lw tc ts F K C E) {s m sz v j0 : Nat} {g : Nat → Int32} (hs : s < 4) (hm : m < n) (hi : iH1 y s sz) (hg : ∀ j, j < 40 → y (71 + 2 * s) j = g j) (hv : v < bnK j0) (e : ∀ c j, ¬ (94 ≤ c ∧ c ≤ 97) → ¬ (c = 82 ∧ j = j0) → z c j = y c j) (ez : z 82 j0 = nI v) : ∃ Z, pM_unlike fu (nI s) (nI m) z = some (foM (saM (C lw) (E lw)) n m g sz 0 (F, skK K j0 (nI v)), Z) ∧ EqX z Z :=
  foMr (fu := fu) hm hs hi.1 (by rw [e 89 s (by omega) (by omega)]; exact hi.2.2.1) (fun j hj => by rw [e 90 _ (by omega) (by omega), hi.2.2.2.2.2 j hj]; exact hg j hj) (F, skK K j0 (nI v)) ((h.bs (fu := fu) (by omega)).k ⟨v, hv, rfl⟩) (h.1.2.1.k e ez) (h.lM.at (fun c j hc => e c j (by omega) (by omega)))
theorem plMr_loop (hf : 50000 ≤ fu) {y : Sg} (h : InvP y n lw tc ts F K C E) {s m sz : Nat} {g : Nat → Int32} (hs : s < 4) (hm : m < n) (hi : iH1 y s sz) (hg : ∀ j, j < 40 → y (71 + 2 * s) j = g j) : ∀ k v f a z, v + k = 10 → k < f → EqX y z → ∃ Z, pM_placesBy_15 fu f (nI s) (nI m) (F 0 m) a (nI v) z = some (ibM (bpM (saM (C lw) (E lw)) n m sz g F K 0) k v a, Z) ∧ EqX y Z := by
  intro k
  induction k with
  | zero =>
    intro v f a z h1 h2 h3
    obtain ⟨f, rfl⟩ := fuS h2
    rw [pM_placesBy_15, if_pos (show (10 : Int32) ≤ nI v from nI_le (a := 10) (by omega) (by omega))]
    exact ⟨z, rfl, h3⟩
  | succ k ih =>
    intro v f a z h1 h2 h3
    obtain ⟨f, rfl⟩ := fuS h2
    have hn := h.1.2.2.1.1
    have rz := h.1.2.1.x h3
    have step : saO n F K m v = true → ∃ Z, pM_placesBy_42 fu (pM_placesBy_15 fu f) (nI s) (nI m) (F 0 m) a (nI v) 1 z = some (ibM (bpM (saM (C lw) (E lw)) n m sz g F K 0) k (v + 1) (if bpM (saM (C lw) (E lw)) n m sz g F K 0 v then a ||| (1 <<< (nI v &&& 31)) else a), Z) ∧ EqX y Z := fun hsa => by
      have e2 : ∀ c j, ¬ (94 ≤ c ∧ c ≤ 97) → ¬ (c = 81 ∧ j = 3 * m) → (u2 z 81 (3 * m) (nI v)) c j = y c j := fun c j c1 c2 => by rw [pv_u2, if_neg c2]; exact h3 c j c1
      obtain ⟨Z, z1, z2⟩ := ulF (fu := fu) hf h (z := u2 z 81 (3 * m) (nI v)) (w := 0) (v := v) (c0 := 81) (j0 := 3 * m) hs hm hi hg (by omega) (show v < 10 by omega) e2 (by rw [pv_u2, if_pos ⟨rfl, rfl⟩])
      have e3 : EqX y (u2 Z 81 (3 * m) (F 0 m)) := fun c j hc => by
        by_cases e : c = 81 ∧ j = 3 * m
        · rw [pv_u2, if_pos e, e.1, e.2]; exact (h.1.2.1.2.2.1 m hm).symm
        · rw [pv_u2, if_neg e, z2 c j hc]; exact e2 c j hc e
      have hP : bpM (saM (C lw) (E lw)) n m sz g F K 0 v = decide (foM (saM (C lw) (E lw)) n m g sz 0 (sfF F 0 m (nI v), K) = -1) := by
        unfold bpM; rw [if_pos rfl, hsa, Bool.true_and]
      unfold pM_placesBy_42 pM_placesBy_79 pM_placesBy_91
      rw [if_neg (by decide), l_3, pk_mul, pv_inb (by omega) (by omega), pv_chk, pv_letm, pv_sa (by omega), z1, pv_bnd]
      simp only [pv_letm, pv_chk, nI_1, Int32.or_zero, pv_sa (show 3 * m < 2147483648 by omega)]
      obtain ⟨V, v1, v2⟩ := ih (v + 1) f (if bpM (saM (C lw) (E lw)) n m sz g F K 0 v then a ||| (1 <<< (nI v &&& 31)) else a) _ (by omega) (by omega) e3
      refine ⟨V, ?_, v2⟩
      rw [← v1, hP]
      by_cases q : foM (saM (C lw) (E lw)) n m g sz 0 (sfF F 0 m (nI v), K) = -1
      · rw [if_pos q, decide_eq_true q, if_pos rfl]
      · rw [if_neg q, decide_eq_false q, if_neg (by decide)]
    rw [pM_placesBy_15, if_neg (show ¬ (10 : Int32) ≤ nI v from nI_ge (b := 10) (by omega) (by omega)), frMr (fu := fu) rz hn (by omega) (by omega), pv_bnd, ibM]
    unfold pM_placesBy_37
    by_cases own : nI v = F 0 m
    · rw [if_pos own]
      exact step (by unfold saO; rw [decide_eq_true own]; rfl)
    · rw [if_neg own]
      have eo : saO n F K m v = frB n F K v := by unfold saO; rw [decide_eq_false own]; rfl
      cases hfr : frB n F K v with
      | true =>
        simp only [eq_self, if_true, show ((1 : Int32) = 0) = False from by decide, if_false]
        exact step (by rw [eo, hfr])
      | false =>
        simp only [eq_self, if_true, Bool.false_eq_true, if_false]
        unfold pM_placesBy_42 pM_placesBy_91
        have hP : bpM (saM (C lw) (E lw)) n m sz g F K 0 v = false := by unfold bpM; rw [if_pos rfl, eo, hfr, Bool.false_and]
        rw [if_pos rfl, pv_letm, nI_1, hP, if_neg (by decide)]
        exact ih (v + 1) f a z (by omega) (by omega) h3
theorem swMr_loop (hf : 50000 ≤ fu) {y : Sg} (h : InvP y n lw tc ts F K C E) {s m sz : Nat} {g : Nat → Int32} (hs : s < 4) (hm : m < n) (hi : iH1 y s sz) (hg : ∀ j, j < 40 → y (71 + 2 * s) j = g j) : ∀ k v f a z, v + k = 12 → k < f → (∀ c j, ¬ (94 ≤ c ∧ c ≤ 97) → ¬ (c = 81 ∧ j = 3 * m + 1) → z c j = y c j) → ∃ Z, pM_swingsBy_17 fu f (nI s) (nI m) (F 1 m) a (nI v) z = some (ibM (bpM (saM (C lw) (E lw)) n m sz g F K 1) k v a, Z) ∧ EqX y Z := by
  have hn := h.1.2.2.1.1
  intro k
  induction k with
  | zero =>
    intro v f a z h1 h2 h3
    obtain ⟨f, rfl⟩ := fuS h2
    rw [pM_swingsBy_17, if_pos (show (12 : Int32) ≤ nI v from nI_le (a := 12) (by omega) (by omega)), l_3, pk_mul, nI_1, pv_inb (by omega) (by omega), pv_chk, pv_letm, pv_sa (by omega)]
    refine ⟨_, rfl, fun c j hc => ?_⟩
    by_cases e : c = 81 ∧ j = 3 * m + 1
    · rw [pv_u2, if_pos e, e.1, e.2]; exact (h.1.2.1.2.2.2.1 m hm).symm
    · rw [pv_u2, if_neg e]; exact h3 c j hc e
  | succ k ih =>
    intro v f a z h1 h2 h3
    obtain ⟨f, rfl⟩ := fuS h2
    have e2 : ∀ c j, ¬ (94 ≤ c ∧ c ≤ 97) → ¬ (c = 81 ∧ j = 3 * m + 1) → (u2 z 81 (3 * m + 1) (nI v)) c j = y c j := fun c j c1 c2 => by rw [pv_u2, if_neg c2]; exact h3 c j c1 c2
    obtain ⟨Z, z1, z2⟩ := ulF (fu := fu) hf h (z := u2 z 81 (3 * m + 1) (nI v)) (w := 1) (v := v) (c0 := 81) (j0 := 3 * m + 1) hs hm hi hg (by omega) (show v < 12 by omega) e2 (by rw [pv_u2, if_pos ⟨rfl, rfl⟩])
    have e3 : ∀ c j, ¬ (94 ≤ c ∧ c ≤ 97) → ¬ (c = 81 ∧ j = 3 * m + 1) → Z c j = y c j := fun c j c1 c2 => by rw [z2 c j c1]; exact e2 c j c1 c2
    have hP : bpM (saM (C lw) (E lw)) n m sz g F K 1 v = decide (foM (saM (C lw) (E lw)) n m g sz 0 (sfF F 1 m (nI v), K) = -1) := by
      unfold bpM; rw [if_neg (by decide), Bool.true_and]
    rw [pM_swingsBy_17, if_neg (show ¬ (12 : Int32) ≤ nI v from nI_ge (b := 12) (by omega) (by omega)), l_3, pk_mul, nI_1, pv_inb (by omega) (by omega), pv_chk, pv_letm, pv_sa (by omega), z1, pv_bnd, ibM]
    unfold pM_swingsBy_56
    simp only [pv_letm, nI_1, Int32.or_zero]
    obtain ⟨V, v1, v2⟩ := ih (v + 1) f (if bpM (saM (C lw) (E lw)) n m sz g F K 1 v then a ||| (1 <<< (nI v &&& 31)) else a) Z (by omega) (by omega) e3
    refine ⟨V, ?_, v2⟩
    rw [← v1, hP]
    by_cases q : foM (saM (C lw) (E lw)) n m g sz 0 (sfF F 1 m (nI v), K) = -1
    · rw [if_pos q, decide_eq_true q, if_pos rfl]
    · rw [if_neg q, decide_eq_false q, if_neg (by decide)]
theorem rwMr_loop (hf : 50000 ≤ fu) {y : Sg} (h : InvP y n lw tc ts F K C E) {s m sz j0 : Nat} {g : Nat → Int32} (hs : s < 4) (hm : m < n) (hi : iH1 y s sz) (hg : ∀ j, j < 40 → y (71 + 2 * s) j = g j) (hj0 : j0 = 1 ∨ j0 = 2) : ∀ k v f a z, v + k = 12 → k < f → (∀ c j, ¬ (94 ≤ c ∧ c ≤ 97) → ¬ (c = 82 ∧ j = j0) → z c j = y c j) → ∃ Z, pM_rowBy_14 fu f (nI s) (nI m) (nI j0) (y 82 j0) a (nI v) z = some (ibM (bkM (saM (C lw) (E lw)) n m sz g F K j0) k v a, Z) ∧ EqX y Z := by
  intro k
  induction k with
  | zero =>
    intro v f a z h1 h2 h3
    obtain ⟨f, rfl⟩ := fuS h2
    rw [pM_rowBy_14, if_pos (show (12 : Int32) ≤ nI v from nI_le (a := 12) (by omega) (by omega)), pv_inb (by omega) (by omega), pv_chk, pv_letm, pv_sa (by omega)]
    refine ⟨_, rfl, fun c j hc => ?_⟩
    by_cases e : c = 82 ∧ j = j0
    · rw [pv_u2, if_pos e, e.1, e.2]
    · rw [pv_u2, if_neg e]; exact h3 c j hc e
  | succ k ih =>
    intro v f a z h1 h2 h3
    obtain ⟨f, rfl⟩ := fuS h2
    have e2 : ∀ c j, ¬ (94 ≤ c ∧ c ≤ 97) → ¬ (c = 82 ∧ j = j0) → (u2 z 82 j0 (nI v)) c j = y c j := fun c j c1 c2 => by rw [pv_u2, if_neg c2]; exact h3 c j c1 c2
    obtain ⟨Z, z1, z2⟩ := ulK (fu := fu) hf h (z := u2 z 82 j0 (nI v)) (v := v) (j0 := j0) hs hm hi hg (by unfold bnK; rw [if_neg (by omega)]; omega) e2 (by rw [pv_u2, if_pos ⟨rfl, rfl⟩])
    have e3 : ∀ c j, ¬ (94 ≤ c ∧ c ≤ 97) → ¬ (c = 82 ∧ j = j0) → Z c j = y c j := fun c j c1 c2 => by rw [z2 c j c1]; exact e2 c j c1 c2
    rw [pM_rowBy_14, if_neg (show ¬ (12 : Int32) ≤ nI v from nI_ge (b := 12) (by omega) (by omega)), pv_inb (by omega) (by omega), pv_chk, pv_letm, pv_sa (by omega), z1, pv_bnd, ibM]
    unfold pM_rowBy_49
    simp only [pv_letm, nI_1, Int32.or_zero]
    obtain ⟨V, v1, v2⟩ := ih (v + 1) f (if bkM (saM (C lw) (E lw)) n m sz g F K j0 v then a ||| (1 <<< (nI v &&& 31)) else a) Z (by omega) (by omega) e3
    refine ⟨V, ?_, v2⟩
    rw [← v1]
    by_cases q : foM (saM (C lw) (E lw)) n m g sz 0 (F, skK K j0 (nI v)) = -1
    · rw [if_pos q, show bkM (saM (C lw) (E lw)) n m sz g F K j0 v = true from decide_eq_true q, if_pos rfl]
    · rw [if_neg q, show bkM (saM (C lw) (E lw)) n m sz g F K j0 v = false from decide_eq_false q, if_neg (by decide)]
theorem kiMr_loop (hf : 50000 ≤ fu) {y : Sg} (h : InvP y n lw tc ts F K C E) {s m sz so V : Nat} {g : Nat → Int32} (hs : s < 4) (hm : m < n) (hi : iH1 y s sz) (hg : ∀ j, j < 40 → y (71 + 2 * s) j = g j) (hso : (so = 0 ∧ V = 6) ∨ (so = 1 ∧ V = 10)) : ∀ k v f a z, v + k = V → k < f → (∀ c j, ¬ (94 ≤ c ∧ c ≤ 97) → ¬ (c = 79 ∧ j = m) → ¬ (c = 80 ∧ j = m) → z c j = y c j) → ∃ Z, pM_kinds_50 fu f (nI s) (nI m) (nI so) (F 3 m) (F 4 m) a (nI v) z = some (ibM (bpM (saM (C lw) (E lw)) n m sz g F K (3 + so)) k v a, Z) ∧ EqX y Z := by
  have hn := h.1.2.2.1.1
  have y79 : y 79 m = F 3 m := h.1.2.1.2.2.2.2.2.1 m hm
  have y80 : y 80 m = F 4 m := h.1.2.1.2.2.2.2.2.2.1 m hm
  have h63 : ∀ f a v z, (if nI so = 0 then pM_kinds_63 fu (pM_kinds_50 fu f) (nI s) (nI m) (nI so) (F 3 m) (F 4 m) a (nI v) (nI v) 6 z else pM_kinds_63 fu (pM_kinds_50 fu f) (nI s) (nI m) (nI so) (F 3 m) (F 4 m) a (nI v) (nI v) 10 z) = pM_kinds_63 fu (pM_kinds_50 fu f) (nI s) (nI m) (nI so) (F 3 m) (F 4 m) a (nI v) (nI v) (nI V) z := fun f a v z => by
    rcases hso with ⟨rfl, rfl⟩ | ⟨rfl, rfl⟩
    · rw [if_pos (by decide)]; rfl
    · rw [if_neg (by decide)]; rfl
  intro k
  induction k with
  | zero =>
    intro v f a z h1 h2 h3
    obtain ⟨f, rfl⟩ := fuS h2
    rw [pM_kinds_50, h63]
    unfold pM_kinds_63
    rw [if_pos (nI_le (by omega) (by omega)), pv_inb (by omega) (by omega), pv_chk, pv_letm, pv_chk, pv_letm, pv_sa (by omega), pv_sa (by omega)]
    refine ⟨_, rfl, fun c j hc => ?_⟩
    by_cases e : c = 80 ∧ j = m
    · rw [pv_u2, if_pos e, e.1, e.2]; exact y80.symm
    · rw [pv_u2, if_neg e]
      by_cases e' : c = 79 ∧ j = m
      · rw [pv_u2, if_pos e', e'.1, e'.2]; exact y79.symm
      · rw [pv_u2, if_neg e']; exact h3 c j hc e' e
  | succ k ih =>
    intro v f a z h1 h2 h3
    obtain ⟨f, rfl⟩ := fuS h2
    have step : ∀ A B : Int32, ((so = 0 ∧ A = nI v ∧ B = F 4 m) ∨ (so = 1 ∧ A = F 3 m ∧ B = nI v)) → ∃ Z, pM_kinds_100 fu (pM_kinds_50 fu f) (nI s) (nI m) (nI so) (F 3 m) (F 4 m) a (nI v) (nI m) B (u2 z 79 m A) = some (ibM (bpM (saM (C lw) (E lw)) n m sz g F K (3 + so)) k (v + 1) (if bpM (saM (C lw) (E lw)) n m sz g F K (3 + so) v then a ||| (1 <<< (nI v &&& 31)) else a), Z) ∧ EqX y Z := fun A B hAB => by
      have e2 : ∀ c j, ¬ (94 ≤ c ∧ c ≤ 97) → ¬ (c = 79 + so ∧ j = m) → (u2 (u2 z 79 m A) 80 m B) c j = y c j := fun c j c1 c2 => by
        by_cases e : c = 80 ∧ j = m
        · rw [pv_u2, if_pos e]
          rcases hAB with ⟨q1, q2, q3⟩ | ⟨q1, q2, q3⟩
          · rw [e.1, e.2, q3, y80]
          · omega
        · rw [pv_u2, if_neg e]
          by_cases e' : c = 79 ∧ j = m
          · rw [pv_u2, if_pos e']
            rcases hAB with ⟨q1, q2, q3⟩ | ⟨q1, q2, q3⟩
            · omega
            · rw [e'.1, e'.2, q2, y79]
          · rw [pv_u2, if_neg e']; exact h3 c j c1 e' e
      have ez : (u2 (u2 z 79 m A) 80 m B) (79 + so) m = nI v := by
        rcases hAB with ⟨q1, q2, q3⟩ | ⟨q1, q2, q3⟩
        · rw [pv_u2, if_neg (by omega), pv_u2, if_pos (by omega), q2]
        · rw [pv_u2, if_pos (by omega), q3]
      have hvb : v < bnW (3 + so) := by
        unfold bnW
        rcases hso with ⟨rfl, rfl⟩ | ⟨rfl, rfl⟩
        · simp; omega
        · simp; omega
      obtain ⟨Z, z1, z2⟩ := ulF (fu := fu) hf h (z := u2 (u2 z 79 m A) 80 m B) (w := 3 + so) (v := v) (c0 := 79 + so) (j0 := m) hs hm hi hg (by omega) hvb e2 ez
      have e3 : ∀ c j, ¬ (94 ≤ c ∧ c ≤ 97) → ¬ (c = 79 ∧ j = m) → ¬ (c = 80 ∧ j = m) → Z c j = y c j := fun c j c1 c2 c3 => by rw [z2 c j c1]; exact e2 c j c1 (by omega)
      have hP : bpM (saM (C lw) (E lw)) n m sz g F K (3 + so) v = decide (foM (saM (C lw) (E lw)) n m g sz 0 (sfF F (3 + so) m (nI v), K) = -1) := by
        unfold bpM; rw [if_neg (by omega), Bool.true_and]
      unfold pM_kinds_100 pM_kinds_121
      rw [pv_inb (by omega) (by omega), pv_chk, pv_letm, pv_sa (by omega), z1, pv_bnd]
      simp only [pv_letm, nI_1, Int32.or_zero]
      obtain ⟨W, v1, v2⟩ := ih (v + 1) f (if bpM (saM (C lw) (E lw)) n m sz g F K (3 + so) v then a ||| (1 <<< (nI v &&& 31)) else a) Z (by omega) (by omega) e3
      refine ⟨W, ?_, v2⟩
      rw [← v1, hP]
      by_cases q : foM (saM (C lw) (E lw)) n m g sz 0 (sfF F (3 + so) m (nI v), K) = -1
      · rw [if_pos q, decide_eq_true q, if_pos rfl]
      · rw [if_neg q, decide_eq_false q, if_neg (by decide)]
    rw [pM_kinds_50, h63, ibM]
    unfold pM_kinds_63 pM_kinds_82
    rw [if_neg (nI_ge (by omega) (by omega)), pv_inb (by omega) (by omega), pv_chk, pv_chk, pv_letm, pv_letm, pv_sa (by omega), pv_sa (by omega)]
    rcases hso with ⟨rfl, rfl⟩ | ⟨rfl, rfl⟩
    · rw [if_pos (by decide), if_neg (by decide)]
      exact step _ _ (Or.inl ⟨rfl, rfl, rfl⟩)
    · rw [if_neg (by decide), if_pos (by decide)]
      exact step _ _ (Or.inr ⟨rfl, rfl, rfl⟩)
theorem st_kinds {fu : Nat} (hf : 50000 ≤ fu) (z : Sg) (a1 a2 a3 : Int32) (h : Inv z) : ∃ (r : Int32) (z1 z2 : Sg), pS_kinds fu a1 a2 a3 z = some (r, z1) ∧ pM_kinds fu a1 a2 a3 z1 = some (r, z2) ∧ Inv z2 := by
  obtain ⟨n, lw, tc, ts, F, K, C, E, h⟩ := h
  have hI : Inv z := ⟨n, lw, tc, ts, F, K, C, E, h⟩
  have hn := h.1.2.2.1.1
  rcases one_cases h a1 a2 with ⟨r, r0, r1, r2⟩ | ⟨s, k, m, hs, hk, hm, rfl, rfl, hi, r1, r2⟩
  · exact ⟨r, z, z, by unfold pS_kinds; rw [r1, pv_bnd, if_neg r0], by unfold pM_kinds; rw [r2, pv_bnd, if_neg r0], hI⟩
  · rcases wi_cases (M := 1) (k := 1) rfl (by omega) a3 with ⟨c1, c2⟩ | ⟨so, hso, rfl, c1, c2⟩
    · exact ⟨-7, z, z, by unfold pS_kinds; rw [r1, pv_bnd, if_pos rfl, c1, pv_bnd, if_pos rfl], by unfold pM_kinds; rw [r2 fu z (fun _ _ _ _ => rfl), pv_bnd, if_pos rfl, c2, pv_bnd, if_pos rfl], hI⟩
    · refine ask2 h (ibM (bpM (saM (C lw) (E lw)) n m k (z (71 + 2 * s)) F K (3 + so)) (if so = 0 then 6 else 10) 0 0) ?_ (fun y hy e => ?_)
      · obtain ⟨Z, z1, z2⟩ := bfC_loop (fu := fu) hf h hs hm hi (w := 3 + so) (V := if so = 0 then 6 else 10) (by omega) (by unfold bnW; rcases (show so = 0 ∨ so = 1 by omega) with rfl | rfl <;> decide) (if so = 0 then 6 else 10) 0 fu 0 z (by omega) (by split <;> omega) EqQ.rf
        refine ⟨Z, ?_, z2⟩
        unfold pS_kinds pS_bitsOfFact
        rw [r1, pv_bnd, if_pos rfl, c1, pv_bnd, if_neg (by decide)]
        rcases (show so = 0 ∨ so = 1 by omega) with rfl | rfl
        · rw [if_pos (by decide)]
          rw [show pS_bitsOfFact_6 fu fu (nI s) (nI m) 3 6 0 0 z = _ from z1, pv_bnd]
        · rw [if_neg (by decide)]
          rw [show pS_bitsOfFact_6 fu fu (nI s) (nI m) 4 10 0 0 z = _ from z1, pv_bnd]
      · have hiy : iH1 y s k := hi.at hs (fun c j hc => e c j (by unfold QC ST; omega) (by unfold QM; omega))
        obtain ⟨Z, z1, z2⟩ := kiMr_loop (fu := fu) hf hy (g := z (71 + 2 * s)) (so := so) (V := if so = 0 then 6 else 10) hs hm hiy (fun j _ => e _ j (by unfold QC ST; omega) (by unfold QM; omega)) (by rcases (show so = 0 ∨ so = 1 by omega) with rfl | rfl <;> decide) (if so = 0 then 6 else 10) 0 fu 0 y (by omega) (by split <;> omega) (fun _ _ _ _ _ => rfl)
        refine ⟨Z, ?_, z2.r⟩
        unfold pM_kinds
        rw [r2 fu y e, pv_bnd, if_pos rfl, c2, pv_bnd, if_neg (by decide), pv_inb (by omega) (by omega), pv_chk, pv_letm, pv_chk, pv_letm, pv_ga (by omega), pv_ga (by omega), hy.1.2.1.2.2.2.2.2.1 m hm, hy.1.2.1.2.2.2.2.2.2.1 m hm]
        exact z1
theorem st_states {fu : Nat} (hf : 50000 ≤ fu) (z : Sg) (a1 a2 a3 : Int32) (h : Inv z) : ∃ (r : Int32) (z1 z2 : Sg), pS_states fu a1 a2 a3 z = some (r, z1) ∧ pM_states fu a1 a2 a3 z1 = some (r, z2) ∧ Inv z2 := by
  obtain ⟨n, lw, tc, ts, F, K, C, E, h⟩ := h
  have hI : Inv z := ⟨n, lw, tc, ts, F, K, C, E, h⟩
  have hn := h.1.2.2.1.1
  rcases one_cases h a1 a2 with ⟨r, r0, r1, r2⟩ | ⟨s, k, m, hs, hk, hm, rfl, rfl, hi, r1, r2⟩
  · exact ⟨r, z, z, by unfold pS_states; rw [r1, pv_bnd, if_neg r0], by unfold pM_states; rw [r2, pv_bnd, if_neg r0], hI⟩
  · have gy : ∀ y, EqI z y → iH1 y s k ∧ ∀ j, j < 40 → y (71 + 2 * s) j = z (71 + 2 * s) j := fun y e => ⟨hi.at hs (fun c j hc => e c j (by unfold QC ST; omega) (by unfold QM; omega)), fun j _ => e _ j (by unfold QC ST; omega) (by unfold QM; omega)⟩
    by_cases w0 : a3 = 0
    · refine ask2 h (ibM (bpM (saM (C lw) (E lw)) n m k (z (71 + 2 * s)) F K 0) 10 0 0) ?_ (fun y hy e => ?_)
      · obtain ⟨Z, z1, z2⟩ := bfC_loop (fu := fu) hf h hs hm hi (w := 0) (V := 10) (by omega) (by decide) 10 0 fu 0 z (by omega) (by omega) EqQ.rf
        refine ⟨Z, ?_, z2⟩
        unfold pS_states pS_bitsOfFact
        rw [r1, pv_bnd, if_pos rfl, if_pos w0, show pS_bitsOfFact_6 fu fu (nI s) (nI m) 0 10 0 0 z = _ from z1, pv_bnd]
      · obtain ⟨Z, z1, z2⟩ := plMr_loop (fu := fu) hf hy hs hm (gy y e).1 (gy y e).2 10 0 fu 0 y (by omega) (by omega) EqX.rf
        refine ⟨Z, ?_, z2.r⟩
        unfold pM_states pM_placesBy
        rw [r2 fu y e, pv_bnd, if_pos rfl, if_pos w0, l_3, pk_mul, pv_inb (by omega) (by omega), pv_chk, pv_letm, pv_ga (by omega), hy.1.2.1.2.2.1 m hm, show pM_placesBy_15 fu fu (nI s) (nI m) (F 0 m) 0 0 y = _ from z1, pv_bnd]
    · by_cases w1 : a3 = 1
      · refine ask2 h (ibM (bpM (saM (C lw) (E lw)) n m k (z (71 + 2 * s)) F K 1) 12 0 0) ?_ (fun y hy e => ?_)
        · obtain ⟨Z, z1, z2⟩ := bfC_loop (fu := fu) hf h hs hm hi (w := 1) (V := 12) (by omega) (by decide) 12 0 fu 0 z (by omega) (by omega) EqQ.rf
          refine ⟨Z, ?_, z2⟩
          unfold pS_states pS_bitsOfFact
          rw [r1, pv_bnd, if_pos rfl, if_neg w0, if_pos w1, show pS_bitsOfFact_6 fu fu (nI s) (nI m) 1 12 0 0 z = _ from z1, pv_bnd]
        · obtain ⟨Z, z1, z2⟩ := swMr_loop (fu := fu) hf hy hs hm (gy y e).1 (gy y e).2 12 0 fu 0 y (by omega) (by omega) (fun _ _ _ _ => rfl)
          refine ⟨Z, ?_, z2.r⟩
          unfold pM_states pM_swingsBy
          rw [r2 fu y e, pv_bnd, if_pos rfl, if_neg w0, if_pos w1, l_3, pk_mul, nI_1, pv_inb (by omega) (by omega), pv_chk, pv_letm, pv_ga (by omega), hy.1.2.1.2.2.2.1 m hm, show pM_swingsBy_17 fu fu (nI s) (nI m) (F 1 m) 0 0 y = _ from z1, pv_bnd]
      · by_cases w2 : a3 = 2
        · refine ask2 h (ibM (bkM (saM (C lw) (E lw)) n m k (z (71 + 2 * s)) F K 1) 12 0 0) ?_ (fun y hy e => ?_)
          · obtain ⟨Z, z1, z2⟩ := bkC_loop (fu := fu) hf h hs hm hi (j := 1) (Or.inl rfl) 12 0 fu 0 z (by omega) (by omega) EqQ.rf
            refine ⟨Z, ?_, z2⟩
            unfold pS_states pS_bitsOfMark
            rw [r1, pv_bnd, if_pos rfl, if_neg w0, if_neg w1, if_pos w2, show pS_bitsOfMark_6 fu fu (nI s) (nI m) 1 0 0 z = _ from z1, pv_bnd]
          · obtain ⟨Z, z1, z2⟩ := rwMr_loop (fu := fu) hf hy (j0 := 1) hs hm (gy y e).1 (gy y e).2 (Or.inl rfl) 12 0 fu 0 y (by omega) (by omega) (fun _ _ _ _ => rfl)
            refine ⟨Z, ?_, z2.r⟩
            unfold pM_states pM_rowBy
            rw [r2 fu y e, pv_bnd, if_pos rfl, if_neg w0, if_neg w1, if_pos w2, w2, show (2 : Int32) - 1 = nI 1 from rfl, pv_inb (by omega) (by omega), pv_chk, pv_letm, pv_ga (by omega), show pM_rowBy_14 fu fu (nI s) (nI m) (nI 1) (y 82 1) 0 0 y = _ from z1, pv_bnd]
        · by_cases w3 : a3 = 3
          · refine ask2 h (ibM (bkM (saM (C lw) (E lw)) n m k (z (71 + 2 * s)) F K 2) 12 0 0) ?_ (fun y hy e => ?_)
            · obtain ⟨Z, z1, z2⟩ := bkC_loop (fu := fu) hf h hs hm hi (j := 2) (Or.inr rfl) 12 0 fu 0 z (by omega) (by omega) EqQ.rf
              refine ⟨Z, ?_, z2⟩
              unfold pS_states pS_bitsOfMark
              rw [r1, pv_bnd, if_pos rfl, if_neg w0, if_neg w1, if_neg w2, if_pos w3, show pS_bitsOfMark_6 fu fu (nI s) (nI m) 2 0 0 z = _ from z1, pv_bnd]
            · obtain ⟨Z, z1, z2⟩ := rwMr_loop (fu := fu) hf hy (j0 := 2) hs hm (gy y e).1 (gy y e).2 (Or.inr rfl) 12 0 fu 0 y (by omega) (by omega) (fun _ _ _ _ => rfl)
              refine ⟨Z, ?_, z2.r⟩
              unfold pM_states pM_rowBy
              rw [r2 fu y e, pv_bnd, if_pos rfl, if_neg w0, if_neg w1, if_neg w2, if_pos w3, w3, show (3 : Int32) - 1 = nI 2 from rfl, pv_inb (by omega) (by omega), pv_chk, pv_letm, pv_ga (by omega), show pM_rowBy_14 fu fu (nI s) (nI m) (nI 2) (y 82 2) 0 0 y = _ from z1, pv_bnd]
          · exact ⟨-7, z, z, by unfold pS_states; rw [r1, pv_bnd, if_pos rfl, if_neg w0, if_neg w1, if_neg w2, if_neg w3], by unfold pM_states; rw [r2 fu z (fun _ _ _ _ => rfl), pv_bnd, if_pos rfl, if_neg w0, if_neg w1, if_neg w2, if_neg w3], hI⟩
end TOLD
