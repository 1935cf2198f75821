/-! the best of all that is tried -/
def beM (ok : Nat → Bool) (val : Nat → Int32) : Nat → Nat → Int32 → Int32 → Int32 × Int32
  | 0, _, b, m => (b, m)
  | k + 1, p, b, m => if ok p then (if val p ≤ m then beM ok val k (p + 1) b m else beM ok val k (p + 1) (nI p) (val p)) else beM ok val k (p + 1) b m
/-- all that a try of the class leaves as it was -/
def EqY (z Z : Sg) : Prop := EqQ z Z ∧ ∀ j, Z 5 j = z 5 j
theorem EqY.rf {z : Sg} : EqY z z := ⟨EqQ.rf, fun _ => rfl⟩
theorem EqY.tr {z Z Y : Sg} (h1 : EqY z Z) (h2 : EqY Z Y) : EqY z Y := ⟨h1.1.tr h2.1, fun j => (h2.2 j).trans (h1.2 j)⟩
section BEST
variable {fu n lw tc ts : Nat} {z : Sg} {F : Nat → Nat → Int32} {K : Nat → Int32} {C E : Nat → Nat → Nat}
theorem ip_thinkY (hf : 50000 ≤ fu) (h : InvP z n lw tc ts F K C E) : ∃ Y, pR_become fu 20 9 z = some Y ∧ rC Y 20 n lw F K ∧ EqY z Y ∧ lC Y (42 + 4 * lw) (C lw) (E lw) := by
  obtain ⟨Y, y1, y2, y3, y4⟩ := becC (fu := fu) (r := 20) (r2 := 9) (Or.inr (Or.inl rfl)) (Or.inl rfl) (by omega) (by omega) h.1.2.2.1.1 h.1.1
  have hq := y4.q20
  exact ⟨Y, y1, y2, ⟨hq, fun j => y4 5 j (by omega)⟩, (h.i hq.i).lC⟩
/-- a try of the class: a mark, a fact otherwise, and strokes -/
theorem tryK (hf : 50000 ≤ fu) (h : InvP z n lw tc ts F K C E) {q j : Nat} {v : Int32} (hq : q < 100) (hj : j < 4) (hv : bI (bnK j) v) : ∃ Y, pR_become fu 20 9 z = some Y ∧ ∃ Z, pR_cutBy fu 20 (nI q) (u2 Y 21 j v) = some (suM (saM (C lw) (E lw)) n q (F, skK K j v) 0, Z) ∧ EqY z Z := by
  obtain ⟨Y, t1, t2, t3, t4⟩ := ip_thinkY (fu := fu) hf h
  have hb := (h.bs (fu := fu) (by omega)).k hv
  have e : EqY Y (u2 Y 21 j v) := ⟨eq_u EqQ.rf (by unfold QC; omega), fun i => by rw [pv_u2, if_neg (by omega)]⟩
  obtain ⟨Z, z1, z2, z3⟩ := cutC (fu := fu) (Or.inr (Or.inl rfl)) hq (F, skK K j v) hb (t2.k) (lc_q hb.2.1 t4 e.1)
  exact ⟨Y, t1, Z, z1, (t3.tr e).tr ⟨z3.q20, fun i => z3 5 i (by unfold SW SC; omega)⟩⟩
theorem tryF (hf : 50000 ≤ fu) (h : InvP z n lw tc ts F K C E) {q w m : Nat} {v : Int32} (hq : q < 100) (hw : w < 5) (hv : bI (bnW w) v) : ∃ Y, pR_become fu 20 9 z = some Y ∧ ∃ Z, pR_cutBy fu 20 (nI q) (u2 Y (23 + w) m v) = some (suM (saM (C lw) (E lw)) n q (sfF F w m v, K) 0, Z) ∧ EqY z Z := by
  obtain ⟨Y, t1, t2, t3, t4⟩ := ip_thinkY (fu := fu) hf h
  have hb := (h.bs (fu := fu) (by omega)).f (m := m) hv
  have e : EqY Y (u2 Y (23 + w) m v) := ⟨eq_u EqQ.rf (by unfold QC; omega), fun i => by rw [pv_u2, if_neg (by omega)]⟩
  obtain ⟨Z, z1, z2, z3⟩ := cutC (fu := fu) (Or.inr (Or.inl rfl)) hq (sfF F w m v, K) hb (t2.f hw) (lc_q hb.2.1 t4 e.1)
  exact ⟨Y, t1, Z, z1, (t3.tr e).tr ⟨z3.q20, fun i => z3 5 i (by unfold SW SC; omega)⟩⟩
theorem offC {fu : Nat} {p : Nat} {x b m : Int32} {y z : Sg} (h5 : z 5 0 = b ∧ z 5 1 = m) (e : EqQ y z) : ∃ Z, pB_offer fu (nI p) x z = some Z ∧ EqQ y Z ∧ Z 5 0 = (if x ≤ m then b else nI p) ∧ Z 5 1 = (if x ≤ m then m else x) := by
  unfold pB_offer
  rw [h5.2]
  by_cases q : x ≤ m
  · rw [if_pos q, if_pos q, if_pos q]
    exact ⟨z, rfl, e, h5.1, h5.2⟩
  · rw [if_neg q, if_neg q, if_neg q, pv_letm, pv_letm]
    refine ⟨_, rfl, eq_u (eq_u e (by unfold QC; omega)) (by unfold QC; omega), ?_, ?_⟩
    · rw [pv_u2, if_neg (by omega), pv_u2, if_pos ⟨rfl, rfl⟩]
    · rw [pv_u2, if_pos ⟨rfl, rfl⟩]
theorem telC {fu : Nat} {v : Int32} {z : Sg} : pB_tells fu v z = some (if v = 0 then z 5 0 else z 5 1, z) := by
  unfold pB_tells
  split <;> rfl
theorem clrC {fu : Nat} (z : Sg) : ∃ Z, pB_clear fu z = some Z ∧ EqQ z Z ∧ Z 5 0 = -1 ∧ Z 5 1 = -1 := by
  unfold pB_clear
  rw [pv_letm, pv_letm]
  refine ⟨_, rfl, eq_u (eq_u EqQ.rf (by unfold QC; omega)) (by unfold QC; omega), ?_, ?_⟩
  · rw [pv_u2, if_neg (by omega), pv_u2, if_pos ⟨rfl, rfl⟩]
  · rw [pv_u2, if_pos ⟨rfl, rfl⟩]
/-! gap -/
def gaM (L : LT) (n q : Nat) (F : Nat → Nat → Int32) (K : Nat → Int32) : Nat → Int32 := fun p => suM L n q (F, skK K 0 (nI p)) 0
def gaO (n : Nat) (F : Nat → Nat → Int32) : Nat → Bool := fun p => decide (whoM F (nI p) n 0 = -1)
def an2 (v : Int32) (r : Int32 × Int32) : Int32 := if v = 0 then r.1 else r.2
theorem gapC_loop (hf : 50000 ≤ fu) {y : Sg} (h : InvP y n lw tc ts F K C E) {q : Nat} (hq : q ≤ 40) {v2 : Int32} : ∀ k p f b m z, p + k = 10 → k < f → EqQ y z → z 5 0 = b ∧ z 5 1 = m → ∃ Z, pS_gap_29 fu f (nI q) v2 (nI p) z = some (an2 v2 (beM (gaO n F) (gaM (saM (C lw) (E lw)) n q F K) k p b m), Z) ∧ EqQ y Z := by
  intro k
  induction k with
  | zero =>
    intro p f b m z h1 h2 h3 h4
    obtain ⟨f, rfl⟩ := fuS h2
    rw [pS_gap_29, if_pos (show (10 : Int32) ≤ nI p from nI_le (a := 10) (by omega) (by omega)), telC, pv_bnd, h4.1, h4.2]
    exact ⟨z, rfl, h3⟩
  | succ k ih =>
    intro p f b m z h1 h2 h3 h4
    obtain ⟨f, rfl⟩ := fuS h2
    have hz := h.i h3.i
    have hn := hz.1.2.2.1.1
    rw [pS_gap_29, if_neg (show ¬ (10 : Int32) ≤ nI p from nI_ge (b := 10) (by omega) (by omega)), whoC (fu := fu) hz.1.1 hn (by omega), pv_bnd, beM]
    unfold pS_gap_83
    simp only [pv_letm, nI_1]
    rcases who_at (F := F) (n := n) (nI p) with ⟨e, -⟩ | ⟨j, hj, e, -⟩
    · have eo : gaO n F p = true := by unfold gaO; rw [e]; rfl
      obtain ⟨Y, t1, Z, z1, z2⟩ := tryK (fu := fu) hf hz (q := q) (j := 0) (v := nI p) (by omega) (by omega) ⟨p, by unfold bnK; rw [if_pos rfl]; omega, rfl⟩
      obtain ⟨W, w1, w2, w3, w4⟩ := offC (fu := fu) (p := p) (x := suM (saM (C lw) (E lw)) n q (F, skK K 0 (nI p)) 0) (b := b) (m := m) (y := y) (z := Z) ⟨by rw [z2.2]; exact h4.1, by rw [z2.2]; exact h4.2⟩ (h3.tr z2.1)
      rw [e, if_neg (by decide), t1, pv_bndv, z1, pv_bnd, w1, pv_bndv, eo, if_pos rfl]
      obtain ⟨V, v1, v2⟩ := ih (p + 1) f _ _ W (by omega) (by omega) w2 ⟨w3, w4⟩
      refine ⟨V, ?_, v2⟩
      rw [v1]
      show _ = some (an2 _ (if suM (saM (C lw) (E lw)) n q (F, skK K 0 (nI p)) 0 ≤ m then _ else beM (gaO n F) (gaM (saM (C lw) (E lw)) n q F K) k (p + 1) (nI p) (suM (saM (C lw) (E lw)) n q (F, skK K 0 (nI p)) 0)), V)
      by_cases g : suM (saM (C lw) (E lw)) n q (F, skK K 0 (nI p)) 0 ≤ m
      · rw [if_pos g, if_pos g, if_pos g]
      · rw [if_neg g, if_neg g, if_neg g]
    · have eo : gaO n F p = false := by unfold gaO; rw [e]; exact decide_eq_false (fun w => (pv_neg1 (by omega)).mp w)
      rw [e, if_pos (nI_pos' (by omega)), eo, if_neg (by decide)]
      exact ih (p + 1) f b m z (by omega) (by omega) h3 h4
theorem gapMr_loop (hf : 50000 ≤ fu) {y : Sg} (h : InvP y n lw tc ts F K C E) {q : Nat} (hq : q ≤ 40) {v2 : Int32} : ∀ k p f b m z, p + k = 10 → k < f → (∀ c j, ¬ (94 ≤ c ∧ c ≤ 97) → ¬ (c = 82 ∧ j = 0) → z c j = y c j) → ∃ Z, pM_gap_38 fu f (nI q) v2 (K 0) b m (nI p) z = some (an2 v2 (beM (gaO n F) (gaM (saM (C lw) (E lw)) n q F K) k p b m), Z) ∧ EqX y Z := by
  intro k
  induction k with
  | zero =>
    intro p f b m z h1 h2 h3
    obtain ⟨f, rfl⟩ := fuS h2
    rw [pM_gap_38, if_pos (show (10 : Int32) ≤ nI p from nI_le (a := 10) (by omega) (by omega)), pv_letm]
    refine ⟨u2 z 82 0 (K 0), ?_, fun c j hc => ?_⟩
    · show _ = some (if v2 = 0 then b else m, _)
      split <;> rfl
    · by_cases e : c = 82 ∧ j = 0
      · rw [pv_u2, if_pos e, e.1, e.2]; exact h.1.2.1.2.2.2.2.2.2.2.1.symm
      · rw [pv_u2, if_neg e]; exact h3 c j hc e
  | succ k ih =>
    intro p f b m z h1 h2 h3
    obtain ⟨f, rfl⟩ := fuS h2
    have hn := h.1.2.2.1.1
    have rz := h.1.2.1.k h3 rfl
    rw [pM_gap_38, if_neg (show ¬ (10 : Int32) ≤ nI p from nI_ge (b := 10) (by omega) (by omega)), whoMr (fu := fu) rz hn (by omega), pv_bnd, beM]
    unfold pM_gap_102 pM_gap_84 pM_gap_100 pM_gap_102
    simp only [pv_letm, nI_1]
    rcases who_at (F := F) (n := n) (nI p) with ⟨e, -⟩ | ⟨j, hj, e, -⟩
    · have eo : gaO n F p = true := by unfold gaO; rw [e]; rfl
      have e2 : ∀ c j, ¬ (94 ≤ c ∧ c ≤ 97) → ¬ (c = 82 ∧ j = 0) → (u2 z 82 0 (nI p)) c j = y c j := fun c j c1 c2 => by rw [pv_u2, if_neg c2]; exact h3 c j c1 c2
      have r2 : rM (u2 z 82 0 (nI p)) n lw F (skK K 0 (nI p)) := h.1.2.1.k e2 (by rw [pv_u2, if_pos ⟨rfl, rfl⟩])
      obtain ⟨Z, z1, z2⟩ := cnMr (fu := fu) (q := q) (by omega) (F, skK K 0 (nI p)) ((h.bs (fu := fu) (by omega)).k ⟨p, by unfold bnK; rw [if_pos rfl]; omega, rfl⟩) r2 (h.lM.at (fun c j hc => e2 c j (by omega) (by omega)))
      have e3 : ∀ c j, ¬ (94 ≤ c ∧ c ≤ 97) → ¬ (c = 82 ∧ j = 0) → Z c j = y c j := fun c j c1 c2 => by rw [z2 c j c1]; exact e2 c j c1 c2
      rw [e, if_pos rfl, z1, pv_bnd, eo, if_pos rfl]
      show ∃ Z, _ = some (an2 _ (if suM (saM (C lw) (E lw)) n q (F, skK K 0 (nI p)) 0 ≤ m then _ else beM (gaO n F) (gaM (saM (C lw) (E lw)) n q F K) k (p + 1) (nI p) (suM (saM (C lw) (E lw)) n q (F, skK K 0 (nI p)) 0)), Z) ∧ _
      by_cases g : suM (saM (C lw) (E lw)) n q (F, skK K 0 (nI p)) 0 ≤ m
      · rw [if_pos g, if_pos g, if_pos g]
        exact ih (p + 1) f b m Z (by omega) (by omega) e3
      · rw [if_neg g, if_neg g, if_neg g]
        exact ih (p + 1) f _ _ Z (by omega) (by omega) e3
    · have eo : gaO n F p = false := by unfold gaO; rw [e]; exact decide_eq_false (fun w => (pv_neg1 (by omega)).mp w)
      rw [e, if_neg (fun w => (pv_neg1 (by omega)).mp w), eo, if_neg (by decide)]
      exact ih (p + 1) f b m z (by omega) (by omega) h3
theorem st_gap {fu : Nat} (hf : 50000 ≤ fu) (z : Sg) (a1 a2 : Int32) (h : Inv z) : ∃ (r : Int32) (z1 z2 : Sg), pS_gap fu a1 a2 z = some (r, z1) ∧ pM_gap fu a1 a2 z1 = some (r, z2) ∧ Inv z2 := by
  obtain ⟨n, lw, tc, ts, F, K, C, E, h⟩ := h
  have hI : Inv z := ⟨n, lw, tc, ts, F, K, C, E, h⟩
  rcases wi_cases (M := 40) (k := 40) rfl (by omega) a1 with ⟨c1, c2⟩ | ⟨q, hq, rfl, c1, c2⟩
  · exact ⟨-2, z, z, by unfold pS_gap; rw [c1, pv_bnd, if_pos rfl], by unfold pM_gap; rw [c2, pv_bnd, if_pos rfl], hI⟩
  · rcases wi_cases (M := 1) (k := 1) rfl (by omega) a2 with ⟨e1, e2⟩ | ⟨v, hv, rfl, e1, e2⟩
    · exact ⟨-2, z, z, by unfold pS_gap; rw [c1, pv_bnd, if_neg (by decide), e1, pv_bnd, if_pos rfl], by unfold pM_gap; rw [c2, pv_bnd, if_neg (by decide), e2, pv_bnd, if_pos rfl], hI⟩
    · refine ask2 h (an2 (nI v) (beM (gaO n F) (gaM (saM (C lw) (E lw)) n q F K) 10 0 (-1) (-1))) ?_ (fun y hy _ => ?_)
      · obtain ⟨Y, y1, y2, y3, y4⟩ := clrC (fu := fu) z
        obtain ⟨Z, z1, z2⟩ := gapC_loop (fu := fu) hf h hq (v2 := nI v) 10 0 fu (-1) (-1) Y (by omega) (by omega) y2 ⟨y3, y4⟩
        refine ⟨Z, ?_, z2⟩
        unfold pS_gap
        rw [c1, pv_bnd, if_neg (by decide), e1, pv_bnd, if_neg (by decide), y1, pv_bndv]
        exact z1
      · obtain ⟨Z, z1, z2⟩ := gapMr_loop (fu := fu) hf hy hq (v2 := nI v) 10 0 fu (-1) (-1) y (by omega) (by omega) (fun _ _ _ _ => rfl)
        refine ⟨Z, ?_, z2.r⟩
        unfold pM_gap
        rw [c2, pv_bnd, if_neg (by decide), e2, pv_bnd, if_neg (by decide), pv_letm, hy.1.2.1.2.2.2.2.2.2.2.1]
        exact z1
/-! tempo -/
def teM (L : LT) (n q : Nat) (F : Nat → Nat → Int32) (K : Nat → Int32) : Nat → Int32 := fun p => suM L n q (F, skK K 2 (nI p)) 0
theorem temC_loop (hf : 50000 ≤ fu) {y : Sg} (h : InvP y n lw tc ts F K C E) {q : Nat} (hq : q ≤ 40) {v2 : Int32} : ∀ k p f b m z, p + k = 12 → k < f → EqQ y z → z 5 0 = b ∧ z 5 1 = m → ∃ Z, pS_tempo_29 fu f (nI q) v2 (nI p) z = some (an2 v2 (beM (fun _ => true) (teM (saM (C lw) (E lw)) n q F K) k p b m), Z) ∧ EqQ y Z := by
  intro k
  induction k with
  | zero =>
    intro p f b m z h1 h2 h3 h4
    obtain ⟨f, rfl⟩ := fuS h2
    rw [pS_tempo_29, if_pos (show (12 : Int32) ≤ nI p from nI_le (a := 12) (by omega) (by omega)), telC, pv_bnd, h4.1, h4.2]
    exact ⟨z, rfl, h3⟩
  | succ k ih =>
    intro p f b m z h1 h2 h3 h4
    obtain ⟨f, rfl⟩ := fuS h2
    have hz := h.i h3.i
    obtain ⟨Y, t1, Z, z1, z2⟩ := tryK (fu := fu) hf hz (q := q) (j := 2) (v := nI p) (by omega) (by omega) ⟨p, by unfold bnK; rw [if_neg (by omega)]; omega, rfl⟩
    obtain ⟨W, w1, w2, w3, w4⟩ := offC (fu := fu) (p := p) (x := suM (saM (C lw) (E lw)) n q (F, skK K 2 (nI p)) 0) (b := b) (m := m) (y := y) (z := Z) ⟨by rw [z2.2]; exact h4.1, by rw [z2.2]; exact h4.2⟩ (h3.tr z2.1)
    rw [pS_tempo_29, if_neg (show ¬ (12 : Int32) ≤ nI p from nI_ge (b := 12) (by omega) (by omega)), t1, pv_bndv, pv_letm, z1, pv_bnd, w1, pv_bndv, pv_letm, nI_1, beM, if_pos rfl]
    obtain ⟨V, v1, v2⟩ := ih (p + 1) f _ _ W (by omega) (by omega) w2 ⟨w3, w4⟩
    refine ⟨V, ?_, v2⟩
    rw [v1]
    show _ = some (an2 _ (if suM (saM (C lw) (E lw)) n q (F, skK K 2 (nI p)) 0 ≤ m then _ else beM (fun _ => true) (teM (saM (C lw) (E lw)) n q F K) k (p + 1) (nI p) (suM (saM (C lw) (E lw)) n q (F, skK K 2 (nI p)) 0)), V)
    by_cases g : suM (saM (C lw) (E lw)) n q (F, skK K 2 (nI p)) 0 ≤ m
    · rw [if_pos g, if_pos g, if_pos g]
    · rw [if_neg g, if_neg g, if_neg g]
theorem temMr_loop (hf : 50000 ≤ fu) {y : Sg} (h : InvP y n lw tc ts F K C E) {q : Nat} (hq : q ≤ 40) {v2 : Int32} : ∀ k p f b m z, p + k = 12 → k < f → (∀ c j, ¬ (94 ≤ c ∧ c ≤ 97) → ¬ (c = 82 ∧ j = 2) → z c j = y c j) → ∃ Z, pM_tempo_38 fu f (nI q) v2 (K 2) b m (nI p) z = some (an2 v2 (beM (fun _ => true) (teM (saM (C lw) (E lw)) n q F K) k p b m), Z) ∧ EqX y Z := by
  intro k
  induction k with
  | zero =>
    intro p f b m z h1 h2 h3
    obtain ⟨f, rfl⟩ := fuS h2
    rw [pM_tempo_38, if_pos (show (12 : Int32) ≤ nI p from nI_le (a := 12) (by omega) (by omega)), pv_letm]
    refine ⟨u2 z 82 2 (K 2), ?_, fun c j hc => ?_⟩
    · show _ = some (if v2 = 0 then b else m, _)
      split <;> rfl
    · by_cases e : c = 82 ∧ j = 2
      · rw [pv_u2, if_pos e, e.1, e.2]; exact h.1.2.1.2.2.2.2.2.2.2.2.2.1.symm
      · rw [pv_u2, if_neg e]; exact h3 c j hc e
  | succ k ih =>
    intro p f b m z h1 h2 h3
    obtain ⟨f, rfl⟩ := fuS h2
    have e2 : ∀ c j, ¬ (94 ≤ c ∧ c ≤ 97) → ¬ (c = 82 ∧ j = 2) → (u2 z 82 2 (nI p)) c j = y c j := fun c j c1 c2 => by rw [pv_u2, if_neg c2]; exact h3 c j c1 c2
    have r2 : rM (u2 z 82 2 (nI p)) n lw F (skK K 2 (nI p)) := h.1.2.1.k e2 (by rw [pv_u2, if_pos ⟨rfl, rfl⟩])
    obtain ⟨Z, z1, z2⟩ := cnMr (fu := fu) (q := q) (by omega) (F, skK K 2 (nI p)) ((h.bs (fu := fu) (by omega)).k ⟨p, by unfold bnK; rw [if_neg (by omega)]; omega, rfl⟩) r2 (h.lM.at (fun c j hc => e2 c j (by omega) (by omega)))
    have e3 : ∀ c j, ¬ (94 ≤ c ∧ c ≤ 97) → ¬ (c = 82 ∧ j = 2) → Z c j = y c j := fun c j c1 c2 => by rw [z2 c j c1]; exact e2 c j c1 c2
    rw [pM_tempo_38, if_neg (show ¬ (12 : Int32) ≤ nI p from nI_ge (b := 12) (by omega) (by omega)), pv_letm, z1, pv_bnd, beM, if_pos rfl]
    unfold pM_tempo_74 pM_tempo_90
    simp only [pv_letm, nI_1]
    show ∃ Z, _ = some (an2 _ (if suM (saM (C lw) (E lw)) n q (F, skK K 2 (nI p)) 0 ≤ m then _ else beM (fun _ => true) (teM (saM (C lw) (E lw)) n q F K) k (p + 1) (nI p) (suM (saM (C lw) (E lw)) n q (F, skK K 2 (nI p)) 0)), Z) ∧ _
    by_cases g : suM (saM (C lw) (E lw)) n q (F, skK K 2 (nI p)) 0 ≤ m
    · rw [if_pos g, if_pos g, if_pos g]
      exact ih (p + 1) f b m Z (by omega) (by omega) e3
    · rw [if_neg g, if_neg g, if_neg g]
      exact ih (p + 1) f _ _ Z (by omega) (by omega) e3
theorem st_tempo {fu : Nat} (hf : 50000 ≤ fu) (z : Sg) (a1 a2 : Int32) (h : Inv z) : ∃ (r : Int32) (z1 z2 : Sg), pS_tempo fu a1 a2 z = some (r, z1) ∧ pM_tempo fu a1 a2 z1 = some (r, z2) ∧ Inv z2 := by
  obtain ⟨n, lw, tc, ts, F, K, C, E, h⟩ := h
  have hI : Inv z := ⟨n, lw, tc, ts, F, K, C, E, h⟩
  rcases wi_cases (M := 40) (k := 40) rfl (by omega) a1 with ⟨c1, c2⟩ | ⟨q, hq, rfl, c1, c2⟩
  · exact ⟨-2, z, z, by unfold pS_tempo; rw [c1, pv_bnd, if_pos rfl], by unfold pM_tempo; rw [c2, pv_bnd, if_pos rfl], hI⟩
  · rcases wi_cases (M := 1) (k := 1) rfl (by omega) a2 with ⟨e1, e2⟩ | ⟨v, hv, rfl, e1, e2⟩
    · exact ⟨-2, z, z, by unfold pS_tempo; rw [c1, pv_bnd, if_neg (by decide), e1, pv_bnd, if_pos rfl], by unfold pM_tempo; rw [c2, pv_bnd, if_neg (by decide), e2, pv_bnd, if_pos rfl], hI⟩
    · refine ask2 h (an2 (nI v) (beM (fun _ => true) (teM (saM (C lw) (E lw)) n q F K) 12 0 (-1) (-1))) ?_ (fun y hy _ => ?_)
      · obtain ⟨Y, y1, y2, y3, y4⟩ := clrC (fu := fu) z
        obtain ⟨Z, z1, z2⟩ := temC_loop (fu := fu) hf h hq (v2 := nI v) 12 0 fu (-1) (-1) Y (by omega) (by omega) y2 ⟨y3, y4⟩
        refine ⟨Z, ?_, z2⟩
        unfold pS_tempo
        rw [c1, pv_bnd, if_neg (by decide), e1, pv_bnd, if_neg (by decide), y1, pv_bndv]
        exact z1
      · obtain ⟨Z, z1, z2⟩ := temMr_loop (fu := fu) hf hy hq (v2 := nI v) 12 0 fu (-1) (-1) y (by omega) (by omega) (fun _ _ _ _ => rfl)
        refine ⟨Z, ?_, z2.r⟩
        unfold pM_tempo
        rw [c2, pv_bnd, if_neg (by decide), e2, pv_bnd, if_neg (by decide), pv_letm, hy.1.2.1.2.2.2.2.2.2.2.2.2.1]
        exact z1
/-! stands -/
def saO (n : Nat) (F : Nat → Nat → Int32) (K : Nat → Int32) (m : Nat) : Nat → Bool := fun p => decide (nI p = F 0 m) || frB n F K p
def sdM (L : LT) (n q m : Nat) (F : Nat → Nat → Int32) (K : Nat → Int32) : Nat → Int32 := fun p => suM L n q (sfF F 0 m (nI p), K) 0
theorem ffC {fu r p m : Nat} {z : Sg} (h : rC z r n lw F K) (hn : n ≤ 6) (hm : m < n) (hf : 10 ≤ fu) (hp : p < 10) : pR_isFreeFor fu r (nI m) (nI p) z = some (if saO n F K m p then 1 else 0, z) := by
  unfold pR_isFreeFor pR_isFreeFor_20 saO
  rw [pv_inb (by omega) (by omega), pv_chk, pv_ga (by omega), h.2.2.1 m hm, frC h hn hf hp, pv_bnd]
  by_cases q : nI p = F 0 m
  · rw [if_pos q, decide_eq_true q]; rfl
  · rw [if_neg q, decide_eq_false q]
    cases frB n F K p <;> rfl
theorem stdC_loop (hf : 50000 ≤ fu) {y : Sg} (h : InvP y n lw tc ts F K C E) {q m0 : Nat} (hq : q ≤ 40) (hm0 : m0 < n) {v2 : Int32} : ∀ k p f b m z, p + k = 10 → k < f → EqQ y z → z 5 0 = b ∧ z 5 1 = m → ∃ Z, pS_stands_44 fu f (nI m0) (nI q) v2 (nI p) z = some (an2 v2 (beM (saO n F K m0) (sdM (saM (C lw) (E lw)) n q m0 F K) k p b m), Z) ∧ EqQ y Z := by
  intro k
  induction k with
  | zero =>
    intro p f b m z h1 h2 h3 h4
    obtain ⟨f, rfl⟩ := fuS h2
    rw [pS_stands_44, if_pos (show (10 : Int32) ≤ nI p from nI_le (a := 10) (by omega) (by omega)), telC, pv_bnd, h4.1, h4.2]
    exact ⟨z, rfl, h3⟩
  | succ k ih =>
    intro p f b m z h1 h2 h3 h4
    obtain ⟨f, rfl⟩ := fuS h2
    have hz := h.i h3.i
    have hn := hz.1.2.2.1.1
    rw [pS_stands_44, if_neg (show ¬ (10 : Int32) ≤ nI p from nI_ge (b := 10) (by omega) (by omega)), ffC (fu := fu) hz.1.1 hn hm0 (by omega) (by omega), pv_bnd, beM]
    unfold pS_stands_105
    simp only [pv_letm, nI_1]
    cases eo : saO n F K m0 p with
    | true =>
      obtain ⟨Y, t1, Z, z1, z2⟩ := tryF (fu := fu) hf hz (q := q) (w := 0) (m := m0) (v := nI p) (by omega) (by omega) ⟨p, by unfold bnW; rw [if_pos rfl]; omega, rfl⟩
      obtain ⟨W, w1, w2, w3, w4⟩ := offC (fu := fu) (p := p) (x := suM (saM (C lw) (E lw)) n q (sfF F 0 m0 (nI p), K) 0) (b := b) (m := m) (y := y) (z := Z) ⟨by rw [z2.2]; exact h4.1, by rw [z2.2]; exact h4.2⟩ (h3.tr z2.1)
      simp only [eq_self, if_true, show ((1 : Int32) = 0) = False from by decide, if_false]
      rw [t1, pv_bndv, pv_inb (by omega) (by omega), pv_chk, pv_sa (by omega), show pR_cutBy fu 20 (nI q) (u2 Y 23 m0 (nI p)) = _ from z1, pv_bnd, w1, pv_bndv]
      obtain ⟨V, v1, v2⟩ := ih (p + 1) f _ _ W (by omega) (by omega) w2 ⟨w3, w4⟩
      refine ⟨V, ?_, v2⟩
      rw [v1]
      show _ = some (an2 _ (if suM (saM (C lw) (E lw)) n q (sfF F 0 m0 (nI p), K) 0 ≤ m then _ else beM (saO n F K m0) (sdM (saM (C lw) (E lw)) n q m0 F K) k (p + 1) (nI p) (suM (saM (C lw) (E lw)) n q (sfF F 0 m0 (nI p), K) 0)), V)
      by_cases g : suM (saM (C lw) (E lw)) n q (sfF F 0 m0 (nI p), K) 0 ≤ m
      · rw [if_pos g, if_pos g, if_pos g]
      · rw [if_neg g, if_neg g, if_neg g]
    | false =>
      simp only [eq_self, if_true, Bool.false_eq_true, if_false]
      exact ih (p + 1) f b m z (by omega) (by omega) h3 h4
theorem stdMr_loop (hf : 50000 ≤ fu) {y : Sg} (h : InvP y n lw tc ts F K C E) {q m0 : Nat} (hq : q ≤ 40) (hm0 : m0 < n) {v2 : Int32} : ∀ k p f b m z, p + k = 10 → k < f → EqX y z → ∃ Z, pM_stands_52 fu f (nI m0) (nI q) v2 (F 0 m0) b m (nI p) z = some (an2 v2 (beM (saO n F K m0) (sdM (saM (C lw) (E lw)) n q m0 F K) k p b m), Z) ∧ EqX y Z := by
  intro k
  induction k with
  | zero =>
    intro p f b m z h1 h2 h3
    obtain ⟨f, rfl⟩ := fuS h2
    rw [pM_stands_52, if_pos (show (10 : Int32) ≤ nI p from nI_le (a := 10) (by omega) (by omega))]
    refine ⟨z, ?_, h3⟩
    show _ = some (if v2 = 0 then b else m, _)
    split <;> rfl
  | succ k ih =>
    intro p f b m z h1 h2 h3
    obtain ⟨f, rfl⟩ := fuS h2
    have hn := h.1.2.2.1.1
    have rz := h.1.2.1.x h3
    have h80 : ∀ t, pM_stands_80 fu (pM_stands_52 fu f) (nI m0) (nI q) v2 (F 0 m0) b m (nI p) t z = if t = 0 then pM_stands_52 fu f (nI m0) (nI q) v2 (F 0 m0) b m (nI (p + 1)) z else pM_stands_80 fu (pM_stands_52 fu f) (nI m0) (nI q) v2 (F 0 m0) b m (nI p) t z := fun t => by
      by_cases q0 : t = 0
      · rw [if_pos q0]
        unfold pM_stands_80 pM_stands_146
        rw [if_pos q0, pv_letm, nI_1]
      · rw [if_neg q0]
    have step : ∃ Z, pM_stands_80 fu (pM_stands_52 fu f) (nI m0) (nI q) v2 (F 0 m0) b m (nI p) 1 z = some (an2 v2 (if sdM (saM (C lw) (E lw)) n q m0 F K p ≤ m then beM (saO n F K m0) (sdM (saM (C lw) (E lw)) n q m0 F K) k (p + 1) b m else beM (saO n F K m0) (sdM (saM (C lw) (E lw)) n q m0 F K) k (p + 1) (nI p) (sdM (saM (C lw) (E lw)) n q m0 F K p)), Z) ∧ EqX y Z := by
      have e2 : ∀ c j, ¬ (94 ≤ c ∧ c ≤ 97) → ¬ (c = 81 ∧ j = 3 * m0) → (u2 z 81 (3 * m0) (nI p)) c j = y c j := fun c j c1 c2 => by rw [pv_u2, if_neg c2]; exact h3 c j c1
      have r2 : rM (u2 z 81 (3 * m0) (nI p)) n lw (sfF F 0 m0 (nI p)) K := h.1.2.1.f (c0 := 81) (j0 := 3 * m0) (by omega) e2 (by rw [pv_u2, if_pos ⟨rfl, rfl⟩])
      obtain ⟨Z, z1, z2⟩ := cnMr (fu := fu) (q := q) (by omega) (sfF F 0 m0 (nI p), K) ((h.bs (fu := fu) (by omega)).f ⟨p, by unfold bnW; rw [if_pos rfl]; omega, rfl⟩) r2 (h.lM.at (fun c j hc => e2 c j (by omega) (by omega)))
      have e3 : EqX y (u2 Z 81 (3 * m0) (F 0 m0)) := fun c j hc => by
        by_cases e : c = 81 ∧ j = 3 * m0
        · rw [pv_u2, if_pos e, e.1, e.2]; exact (h.1.2.1.2.2.1 m0 hm0).symm
        · rw [pv_u2, if_neg e, z2 c j hc]; exact e2 c j hc e
      unfold pM_stands_80 pM_stands_128 pM_stands_144 pM_stands_146
      rw [if_neg (by decide), l_3, pk_mul, pv_inb (by omega) (by omega), pv_chk, pv_letm, pv_sa (by omega), z1, pv_bnd, pv_chk, pv_letm, pv_sa (by omega)]
      simp only [pv_letm, nI_1]
      show ∃ Z, _ = some (an2 _ (if suM (saM (C lw) (E lw)) n q (sfF F 0 m0 (nI p), K) 0 ≤ m then _ else beM (saO n F K m0) (sdM (saM (C lw) (E lw)) n q m0 F K) k (p + 1) (nI p) (suM (saM (C lw) (E lw)) n q (sfF F 0 m0 (nI p), K) 0)), Z) ∧ _
      by_cases g : suM (saM (C lw) (E lw)) n q (sfF F 0 m0 (nI p), K) 0 ≤ m
      · rw [if_pos g, if_pos g, if_pos g]
        exact ih (p + 1) f b m _ (by omega) (by omega) e3
      · rw [if_neg g, if_neg g, if_neg g]
        exact ih (p + 1) f _ _ _ (by omega) (by omega) e3
    rw [pM_stands_52, if_neg (show ¬ (10 : Int32) ≤ nI p from nI_ge (b := 10) (by omega) (by omega)), frMr (fu := fu) rz hn (by omega) (by omega), pv_bnd, beM]
    unfold pM_stands_75
    by_cases own : nI p = F 0 m0
    · rw [if_pos own, show saO n F K m0 p = true from by unfold saO; rw [decide_eq_true own]; rfl, if_pos rfl]
      exact step
    · rw [if_neg own]
      have eo : saO n F K m0 p = frB n F K p := by unfold saO; rw [decide_eq_false own]; rfl
      rw [eo]
      cases frB n F K p with
      | true =>
        simp only [eq_self, if_true, show ((1 : Int32) = 0) = False from by decide, if_false]
        exact step
      | false =>
        simp only [eq_self, if_true, Bool.false_eq_true, if_false]
        rw [h80, if_pos rfl]
        exact ih (p + 1) f b m z (by omega) (by omega) h3
theorem st_stands {fu : Nat} (hf : 50000 ≤ fu) (z : Sg) (a1 a2 a3 : Int32) (h : Inv z) : ∃ (r : Int32) (z1 z2 : Sg), pS_stands fu a1 a2 a3 z = some (r, z1) ∧ pM_stands fu a1 a2 a3 z1 = some (r, z2) ∧ Inv z2 := by
  obtain ⟨n, lw, tc, ts, F, K, C, E, h⟩ := h
  have hI : Inv z := ⟨n, lw, tc, ts, F, K, C, E, h⟩
  have hn := h.1.2.2.1.1
  rcases has_cases hn h.1.1.1 h.1.2.1.1 a1 with ⟨d1, d2⟩ | ⟨m, hm, rfl, d1, d2⟩
  · exact ⟨-5, z, z, by unfold pS_stands; rw [d1, pv_bnd, if_pos rfl], by unfold pM_stands; rw [d2, pv_bnd, if_pos rfl], hI⟩
  · rcases wi_cases (M := 40) (k := 40) rfl (by omega) a2 with ⟨c1, c2⟩ | ⟨q, hq, rfl, c1, c2⟩
    · exact ⟨-7, z, z, by unfold pS_stands; rw [d1, pv_bnd, if_neg (by decide), c1, pv_bnd, if_pos rfl], by unfold pM_stands; rw [d2, pv_bnd, if_neg (by decide), c2, pv_bnd, if_pos rfl], hI⟩
    · rcases wi_cases (M := 1) (k := 1) rfl (by omega) a3 with ⟨e1, e2⟩ | ⟨v, hv, rfl, e1, e2⟩
      · exact ⟨-7, z, z, by unfold pS_stands; rw [d1, pv_bnd, if_neg (by decide), c1, pv_bnd, if_neg (by decide), e1, pv_bnd, if_pos rfl], by unfold pM_stands; rw [d2, pv_bnd, if_neg (by decide), c2, pv_bnd, if_neg (by decide), e2, pv_bnd, if_pos rfl], hI⟩
      · refine ask2 h (an2 (nI v) (beM (saO n F K m) (sdM (saM (C lw) (E lw)) n q m F K) 10 0 (-1) (-1))) ?_ (fun y hy _ => ?_)
        · obtain ⟨Y, y1, y2, y3, y4⟩ := clrC (fu := fu) z
          obtain ⟨Z, z1, z2⟩ := stdC_loop (fu := fu) hf h hq hm (v2 := nI v) 10 0 fu (-1) (-1) Y (by omega) (by omega) y2 ⟨y3, y4⟩
          refine ⟨Z, ?_, z2⟩
          unfold pS_stands
          rw [d1, pv_bnd, if_neg (by decide), c1, pv_bnd, if_neg (by decide), e1, pv_bnd, if_neg (by decide), y1, pv_bndv]
          exact z1
        · obtain ⟨Z, z1, z2⟩ := stdMr_loop (fu := fu) hf hy hq hm (v2 := nI v) 10 0 fu (-1) (-1) y (by omega) (by omega) EqX.rf
          refine ⟨Z, ?_, z2.r⟩
          unfold pM_stands
          rw [one_y hn hy.1.2.1.1 hm, pv_bnd, if_neg (by decide), c2, pv_bnd, if_neg (by decide), e2, pv_bnd, if_neg (by decide), l_3, pk_mul, pv_inb (by omega) (by omega), pv_chk, pv_letm, pv_ga (by omega), hy.1.2.1.2.2.1 m hm]
          exact z1
end BEST
