/-! when, often -/
def spM (F : Nat → Nat → Int32) : Nat → Nat → Bool
  | 0, _ => false
  | k + 1, m => if F 2 m < 99 then spM F k (m + 1) else true
def hpM (n v : Nat) (s : FK) : Bool := if v = 0 then decide (onV (isM n s.1 s.2) = nI n) else if v = 1 then !decide (csM n s.1 s.2 = 0) else spM s.1 n 0
def whM (L : LT) (n v : Nat) : Nat → Nat → FK → Int32
  | 0, _, _ => -1
  | k + 1, i, s => if hpM n v s then nI i else whM L n v k (i + 1) (s1M L n s)
section WHEN
variable {fu n lw tc ts : Nat} {z : Sg} {F : Nat → Nat → Int32} {K : Nat → Int32} {C E : Nat → Nat → Nat}
theorem spC_loop {z : Sg} {r : Nat} (h : rC z r n lw F K) (hn : n ≤ 6) : ∀ k m f, m + k = n → k < f → pR_anySpent_2 fu r f (nI m) z = some (if spM F k m then 1 else 0, z) := by
  intro k
  induction k with
  | zero =>
    intro m f h1 h2
    obtain ⟨f, rfl⟩ := fuS h2
    rw [pR_anySpent_2, h.1, if_pos (nI_le (by omega) (by omega))]
    rfl
  | succ k ih =>
    intro m f h1 h2
    obtain ⟨f, rfl⟩ := fuS h2
    rw [pR_anySpent_2, h.1, if_neg (nI_ge (by omega) (by omega)), pv_inb (by omega) (by omega), pv_chk, pv_ga (by omega), h.2.2.2.2.1 m (by omega), pv_letm, nI_1, ih (m + 1) f (by omega) (by omega), spM]
    by_cases q : F 2 m < 99
    · rw [if_pos q, if_pos q]
    · rw [if_neg q, if_neg q]; rfl
theorem spMr_loop {z : Sg} (h : rM z n lw F K) (hn : n ≤ 6) (hF : ∀ m, m < n → bI 100 (F 2 m)) : ∀ k m f, m + k = n → k < f → pM_isNow_46 fu f (nI m) z = some (if spM F k m then 1 else 0, z) := by
  intro k
  induction k with
  | zero =>
    intro m f h1 h2
    obtain ⟨f, rfl⟩ := fuS h2
    rw [pM_isNow_46, h.1, if_pos (nI_le (by omega) (by omega))]
    rfl
  | succ k ih =>
    intro m f h1 h2
    obtain ⟨f, rfl⟩ := fuS h2
    obtain ⟨t, ht, et⟩ := hF m (by omega)
    rw [pM_isNow_46, h.1, if_neg (nI_ge (by omega) (by omega)), l_3, pk_mul, l_2, nI_add, pv_inb (by omega) (by omega), pv_chk, pv_ga (by omega), h.2.2.2.2.1 m (by omega), pv_letm, nI_1, ih (m + 1) f (by omega) (by omega), spM, et, l_99]
    by_cases q : t < 99
    · rw [if_neg (by rw [pv_eq (by omega) (by omega)]; omega), if_pos (nI_lt q (by omega))]
    · rw [if_pos (by rw [show t = 99 by omega]), if_neg (nI_nlt (by omega) (by omega))]; rfl
theorem hpM_0 (n : Nat) (s : FK) : hpM n 0 s = decide (onV (isM n s.1 s.2) = nI n) := rfl
theorem hpM_1 (n : Nat) (s : FK) : hpM n 1 s = !decide (csM n s.1 s.2 = 0) := rfl
theorem hpM_2 (n : Nat) (s : FK) : hpM n 2 s = spM s.1 n 0 := rfl
theorem hpC {v : Nat} (hv : v < 3) {CC EE : Nat → Nat} (hf : 1000 ≤ fu) {z : Sg} (s : FK) (hb : bs fu n lw s.1 s.2 CC EE) (h : rC z 20 n lw s.1 s.2) (hl : lC z (42 + 4 * lw) CC EE) : ∃ Z, pS_happens fu (nI v) z = some (if hpM n v s then 1 else 0, Z) ∧ EqL 20 z Z := by
  have hn := hb.1
  rcases (show v = 0 ∨ v = 1 ∨ v = 2 by omega) with rfl | rfl | rfl
  · refine ⟨z, ?_, EqL.rf⟩
    unfold pS_happens
    rw [if_pos (by decide), isnC h hn (by omega), pv_bnd, bc_eq, pv_bnd, bc_on (isM_b hn s.1 s.2), h.1, hpM_0]
    by_cases q : onV (isM n s.1 s.2) = nI n <;> simp [q]
  · obtain ⟨Z, z1, z2⟩ := csC (fu := fu) (Or.inr (Or.inl rfl)) hb h hl
    refine ⟨Z, ?_, z2⟩
    unfold pS_happens
    rw [if_neg (by decide), if_pos (by decide), z1, pv_bnd, hpM_1]
    by_cases q : csM n s.1 s.2 = 0 <;> simp [q]
  · refine ⟨z, ?_, EqL.rf⟩
    have e := spC_loop (fu := fu) h hn n 0 fu (by omega) (by omega)
    unfold pS_happens
    rw [if_neg (by decide), if_neg (by decide), hpM_2]
    unfold pR_anySpent
    rw [show pR_anySpent_2 fu 20 fu 0 z = _ from e, pv_bnd]
    cases spM s.1 n 0 <;> rfl
theorem hpMr {v : Nat} (hv : v < 3) {CC EE : Nat → Nat} (hf : 1000 ≤ fu) {z : Sg} (s : FK) (hb : bs fu n lw s.1 s.2 CC EE) (h : rM z n lw s.1 s.2) : pM_isNow fu (nI v) z = some (if hpM n v s then 1 else 0, z) := by
  have hn := hb.1
  rcases (show v = 0 ∨ v = 1 ∨ v = 2 by omega) with rfl | rfl | rfl
  · unfold pM_isNow
    rw [if_neg (by decide), if_pos (by decide), isMr h hn (by omega), pv_bnd, on_eq (by omega), pv_bnd, h.1, hpM_0]
    by_cases q : onV (isM n s.1 s.2) = nI n <;> simp [q]
  · unfold pM_isNow
    rw [if_neg (by decide), if_neg (by decide), csMr h hn (by omega), pv_bnd, hpM_1]
    by_cases q : csM n s.1 s.2 = 0 <;> simp [q]
  · have e := spMr_loop (fu := fu) h hn hb.2.2.2.2.2.2.1 n 0 fu (by omega) (by omega)
    unfold pM_isNow
    rw [if_pos (by decide), hpM_2]
    exact e
theorem whC_loop {v : Nat} (hv : v < 3) {CC EE : Nat → Nat} {y : Sg} : ∀ k i f (s : FK) z, i + k = 61 → k < f → bs fu n lw s.1 s.2 CC EE → rC z 20 n lw s.1 s.2 → lC z (42 + 4 * lw) CC EE → EqQ y z → ∃ Z, pS_when_24 fu f (nI v) (nI i) z = some (whM (saM CC EE) n v k i s, Z) ∧ EqQ y Z := by
  intro k
  induction k with
  | zero =>
    intro i f s z h1 h2 h3 h4 h5 h6
    obtain ⟨f, rfl⟩ := fuS h2
    rw [pS_when_24, if_pos (show (60 : Int32) < nI i from nI_lt (a := 60) (by omega) (by omega))]
    exact ⟨z, rfl, h6⟩
  | succ k ih =>
    intro i f s z h1 h2 h3 h4 h5 h6
    obtain ⟨f, rfl⟩ := fuS h2
    have hl6 := h3.2.1
    obtain ⟨Y, y1, y2⟩ := hpC (fu := fu) hv h3.2.2.2.1 s h3 h4 h5
    have rY := h4.eqS (Or.inr (Or.inl rfl)) y2.s
    have lY := h5.s (Or.inr (Or.inl rfl)) (by omega) y2.s
    obtain ⟨Z, z1, z2, z3, z4⟩ := swC (Or.inr (Or.inl rfl)) h3 rY lY
    rw [pS_when_24, if_neg (show ¬ (60 : Int32) < nI i from nI_nlt (a := 60) (by omega) (by omega)), y1, pv_bnd, whM]
    cases hp : hpM n v s with
    | true =>
      simp only [eq_self, if_true, show ((1 : Int32) = 0) = False from by decide, if_false]
      exact ⟨Y, rfl, h6.tr y2.s.q20⟩
    | false =>
      simp only [eq_self, if_true, Bool.false_eq_true, if_false]
      rw [z1, pv_bnd, pv_letm, nI_1]
      exact ih (i + 1) f (s1M (saM CC EE) n s) Z (by omega) (by omega) h3.next z2 (lY.w (Or.inr (Or.inl rfl)) (by omega) z4) ((h6.tr y2.s.q20).tr z4.q20)
theorem whMr_loop {v : Nat} (hv : v < 3) {CC EE : Nat → Nat} {y z0 : Sg} (hy : kptM z0 y) : ∀ k i f (s : FK) z, i + k = 61 → k + 1 < f → bs fu n lw s.1 s.2 CC EE → rM z n lw s.1 s.2 → lM z lw CC EE → EqN y z → ∃ Z, pM_when_20 fu f (nI v) (-1) (nI i) z = some (whM (saM CC EE) n v k i s, Z) ∧ EqX z0 Z := by
  have h56 : ∀ (v : Int32) (z : Sg), 100 ≤ fu → EqN y z → ∃ Z, pM_when_56 fu v z = some (v, Z) ∧ EqX z0 Z := fun v z hf e => by
    obtain ⟨Z, z1, z2⟩ := layMr (fu := fu) hf hy e
    unfold pM_when_56
    rw [z1, pv_bndv]
    exact ⟨Z, rfl, z2⟩
  intro k
  induction k with
  | zero =>
    intro i f s z h1 h2 h3 h4 h5 h6
    obtain ⟨f, rfl⟩ := fuS (show 0 < f by omega)
    rw [pM_when_20, if_pos (show (60 : Int32) < nI i from nI_lt (a := 60) (by omega) (by omega))]
    exact h56 _ z (by have := h3.2.2.2.1; omega) h6
  | succ k ih =>
    intro i f s z h1 h2 h3 h4 h5 h6
    obtain ⟨f, rfl⟩ := fuS (show 0 < f by omega)
    obtain ⟨Z, z1, z2, z4⟩ := swMr h3 h4 h5
    rw [pM_when_20, if_neg (show ¬ (60 : Int32) < nI i from nI_nlt (a := 60) (by omega) (by omega)), if_pos rfl, hpMr (fu := fu) hv h3.2.2.2.1 s h3 h4, pv_bnd, whM]
    unfold pM_when_44
    simp only [z1, pv_bnd, pv_letm, nI_1]
    cases hp : hpM n v s with
    | true =>
      simp only [eq_self, if_true, show ((1 : Int32) = 0) = False from by decide, if_false]
      obtain ⟨f, rfl⟩ := fuS (show 0 < f by omega)
      obtain ⟨W, w1, w2⟩ := h56 (nI i) Z (by have := h3.2.2.2.1; omega) (h6.tr z4)
      refine ⟨W, ?_, w2⟩
      rw [pM_when_20, if_neg (fun w => (pv_neg1 (by omega)).mp w), w1]
      split <;> rfl
    | false =>
      simp only [eq_self, if_true, Bool.false_eq_true, if_false]
      exact ih (i + 1) f (s1M (saM CC EE) n s) Z (by omega) (by omega) h3.next z2 (h5.n z4) (h6.tr z4)
theorem st_when {fu : Nat} (hf : 50000 ≤ fu) (z : Sg) (a1 : Int32) (h : Inv z) : ∃ (r : Int32) (z1 z2 : Sg), pS_when fu a1 z = some (r, z1) ∧ pM_when fu a1 z1 = some (r, z2) ∧ Inv z2 := by
  obtain ⟨n, lw, tc, ts, F, K, C, E, h⟩ := h
  have hb := h.bs (fu := fu) (by omega)
  rcases wi_cases (M := 2) (k := 2) rfl (by omega) a1 with ⟨c1, c2⟩ | ⟨v, hv, rfl, c1, c2⟩
  · exact ⟨-2, z, z, by unfold pS_when; rw [c1, pv_bnd, if_pos rfl], by unfold pM_when; rw [c2, pv_bnd, if_pos rfl], n, lw, tc, ts, F, K, C, E, h⟩
  · refine ask2 h (whM (saM (C lw) (E lw)) n v 61 0 (F, K)) ?_ (fun y hy _ => ?_)
    · obtain ⟨Y, t1, t2, t3, t4⟩ := ip_think (fu := fu) hf h
      obtain ⟨Z, z1, z2⟩ := whC_loop (fu := fu) (v := v) (by omega) (y := z) 61 0 fu (F, K) Y (by omega) (by omega) hb t2 t4 t3
      refine ⟨Z, ?_, z2⟩
      unfold pS_when
      rw [c1, pv_bnd, if_neg (by decide), t1, pv_bndv]
      exact z1
    · obtain ⟨w, w1, w2⟩ := keepMr (fu := fu) (by omega) y
      obtain ⟨Z, z1, z2⟩ := whMr_loop (fu := fu) (v := v) (by omega) w2 61 0 fu (F, K) w (by omega) (by omega) hb (hy.1.2.1.kpt w2) (hy.lM.kpt w2) EqN.rf
      refine ⟨Z, ?_, z2.r⟩
      unfold pM_when
      rw [c2, pv_bnd, if_neg (by decide), w1, pv_bndv]
      exact z1
def ofM (L : LT) (n m v : Nat) : Nat → FK → Int32 → Int32
  | 0, _, a => a
  | k + 1, s, a => ofM L n m v k (s1M L n s) (if (if v = 0 then decide ((s1M L n s).1 1 m = (s1M L n s).2 1) else clM n (s1M L n s).1 (s1M L n s).2 m) then a + 1 else a)
theorem ofC_loop {v m q : Nat} (hv : v < 2) (hm : m < n) (hq : q ≤ 60) {CC EE : Nat → Nat} {y : Sg} : ∀ k i f a (s : FK) z, i + k = q → k < f → bs fu n lw s.1 s.2 CC EE → rC z 20 n lw s.1 s.2 → lC z (42 + 4 * lw) CC EE → EqQ y z → ∃ Z, pS_often_51 fu f (nI m) (nI q) (nI v) a (nI i) z = some (ofM (saM CC EE) n m v k s a, Z) ∧ EqQ y Z := by
  intro k
  induction k with
  | zero =>
    intro i f a s z h1 h2 h3 h4 h5 h6
    obtain ⟨f, rfl⟩ := fuS h2
    rw [pS_often_51, if_pos (nI_le (by omega) (by omega))]
    exact ⟨z, rfl, h6⟩
  | succ k ih =>
    intro i f a s z h1 h2 h3 h4 h5 h6
    obtain ⟨f, rfl⟩ := fuS h2
    have hl6 := h3.2.1
    have hn := h3.1
    have hfu := h3.2.2.2.1
    obtain ⟨Z, z1, z2, z3, z4⟩ := swC (Or.inr (Or.inl rfl)) h3 h4 h5
    have lZ := h5.w (Or.inr (Or.inl rfl)) (by omega) z4
    obtain ⟨W, w1, w2, w3⟩ := lookC (fu := fu) (Or.inr (Or.inl rfl)) z2 hn (by omega) hm
    have hcl := clC (fu := fu) (C := CC) (E := EE) ⟨Or.inr (Or.inl rfl), w3, hn, hm, hl6, h3.2.2.1, lZ.s (Or.inr (Or.inl rfl)) (by omega) w2.s, hfu, h3.next.2.2.2.2⟩
    have his := isC_one (fu := fu) w3.1 hn hm
    have go := fun a' => ih (i + 1) f a' (s1M (saM CC EE) n s) W (by omega) (by omega) h3.next w3.1 (lZ.s (Or.inr (Or.inl rfl)) (by omega) w2.s) ((h6.tr z4.q20).tr w2.s.q20)
    rw [pS_often_51, if_neg (nI_ge (by omega) (by omega)), z1, pv_bnd, w1, pv_bndv, his, pv_bnd, hcl, pv_bnd, ofM]
    unfold pS_often_101 pS_often_104
    rw [pv_letm, pv_letm, pv_letm, nI_1]
    obtain ⟨V, v1, v2⟩ := go (if (if v = 0 then decide ((s1M (saM CC EE) n s).1 1 m = (s1M (saM CC EE) n s).2 1) else clM n (s1M (saM CC EE) n s).1 (s1M (saM CC EE) n s).2 m) then a + 1 else a)
    refine ⟨V, ?_, v2⟩
    rw [← v1]
    rcases (show v = 0 ∨ v = 1 by omega) with rfl | rfl
    · by_cases q : (s1M (saM CC EE) n s).1 1 m = (s1M (saM CC EE) n s).2 1
      · have q' : stF (saM CC EE) n s.1 s.2 1 m = stK s.2 1 := q
        simp [q, q', s1M, nI]
      · have q' : ¬ stF (saM CC EE) n s.1 s.2 1 m = stK s.2 1 := q
        simp [q, q', s1M, nI]
    · rw [if_neg (by decide)]
      have hx : clM n (stF (saM CC EE) n s.1 s.2) (stK s.2) m = clM n (s1M (saM CC EE) n s).1 (s1M (saM CC EE) n s).2 m := rfl
      rw [hx]
      cases clM n (s1M (saM CC EE) n s).1 (s1M (saM CC EE) n s).2 m <;> simp
theorem ofMr_loop {v m q : Nat} (hv : v < 2) (hm : m < n) (hq : q ≤ 60) {CC EE : Nat → Nat} {y z0 : Sg} (hy : kptM z0 y) : ∀ k i f a (s : FK) z, i + k = q → k < f → bs fu n lw s.1 s.2 CC EE → rM z n lw s.1 s.2 → lM z lw CC EE → EqN y z → ∃ Z, pM_often_43 fu f (nI m) (nI q) (nI v) a (nI i) z = some (ofM (saM CC EE) n m v k s a, Z) ∧ EqX z0 Z := by
  intro k
  induction k with
  | zero =>
    intro i f a s z h1 h2 h3 h4 h5 h6
    obtain ⟨f, rfl⟩ := fuS h2
    obtain ⟨Z, z1, z2⟩ := layMr (fu := fu) (by have := h3.2.2.2.1; omega) hy h6
    rw [pM_often_43, if_pos (nI_le (by omega) (by omega)), z1, pv_bndv]
    exact ⟨Z, rfl, z2⟩
  | succ k ih =>
    intro i f a s z h1 h2 h3 h4 h5 h6
    obtain ⟨f, rfl⟩ := fuS h2
    have hn := h3.1
    have hfu := h3.2.2.2.1
    obtain ⟨Z, z1, z2, z4⟩ := swMr h3 h4 h5
    have hcl := clMr (fu := fu) z2 hn (by omega) hm
    have go := fun a' => ih (i + 1) f a' (s1M (saM CC EE) n s) Z (by omega) (by omega) h3.next z2 (h5.n z4) (h6.tr z4)
    rw [pM_often_43, if_neg (nI_ge (by omega) (by omega)), z1, pv_bnd, l_3, pk_mul, nI_1, pv_inb (by omega) (by omega), pv_chk, pv_ga (by omega), z2.2.2.2.1 m hm, z2.2.2.2.2.2.2.2.2.1, hcl, pv_bnd, ofM]
    unfold pM_often_90 pM_often_104
    simp only [pv_letm, nI_1, Int32.add_zero]
    obtain ⟨V, v1, v2⟩ := go (if (if v = 0 then decide ((s1M (saM CC EE) n s).1 1 m = (s1M (saM CC EE) n s).2 1) else clM n (s1M (saM CC EE) n s).1 (s1M (saM CC EE) n s).2 m) then a + 1 else a)
    refine ⟨V, ?_, v2⟩
    rw [← v1]
    rcases (show v = 0 ∨ v = 1 by omega) with rfl | rfl
    · by_cases q : (s1M (saM CC EE) n s).1 1 m = (s1M (saM CC EE) n s).2 1
      · have q' : stF (saM CC EE) n s.1 s.2 1 m = stK s.2 1 := q
        simp [q, q', s1M, nI]
      · have q' : ¬ stF (saM CC EE) n s.1 s.2 1 m = stK s.2 1 := q
        simp [q, q', s1M, nI]
    · rw [if_neg (by decide)]
      have hx : clM n (stF (saM CC EE) n s.1 s.2) (stK s.2) m = clM n (s1M (saM CC EE) n s).1 (s1M (saM CC EE) n s).2 m := rfl
      rw [hx]
      cases clM n (s1M (saM CC EE) n s).1 (s1M (saM CC EE) n s).2 m <;> simp
theorem st_often {fu : Nat} (hf : 50000 ≤ fu) (z : Sg) (a1 a2 a3 : Int32) (h : Inv z) : ∃ (r : Int32) (z1 z2 : Sg), pS_often fu a1 a2 a3 z = some (r, z1) ∧ pM_often fu a1 a2 a3 z1 = some (r, z2) ∧ Inv z2 := by
  obtain ⟨n, lw, tc, ts, F, K, C, E, h⟩ := h
  have hI : Inv z := ⟨n, lw, tc, ts, F, K, C, E, h⟩
  have hn := h.1.2.2.1.1
  have hb := h.bs (fu := fu) (by omega)
  rcases has_cases hn h.1.1.1 h.1.2.1.1 a1 with ⟨d1, d2⟩ | ⟨m, hm, rfl, d1, d2⟩
  · exact ⟨-5, z, z, by unfold pS_often; rw [d1, pv_bnd, if_pos rfl], by unfold pM_often; rw [d2, pv_bnd, if_pos rfl], hI⟩
  · rcases wi_cases (M := 60) (k := 60) rfl (by omega) a2 with ⟨c1, c2⟩ | ⟨q, hq, rfl, c1, c2⟩
    · exact ⟨-7, z, z, by unfold pS_often; rw [d1, pv_bnd, if_neg (by decide), c1, pv_bnd, if_pos rfl], by unfold pM_often; rw [d2, pv_bnd, if_neg (by decide), c2, pv_bnd, if_pos rfl], hI⟩
    · rcases wi_cases (M := 1) (k := 1) rfl (by omega) a3 with ⟨e1, e2⟩ | ⟨v, hv, rfl, e1, e2⟩
      · exact ⟨-7, z, z, by unfold pS_often; rw [d1, pv_bnd, if_neg (by decide), c1, pv_bnd, if_neg (by decide), e1, pv_bnd, if_pos rfl], by unfold pM_often; rw [d2, pv_bnd, if_neg (by decide), c2, pv_bnd, if_neg (by decide), e2, pv_bnd, if_pos rfl], hI⟩
      · refine ask2 h (ofM (saM (C lw) (E lw)) n m v q (F, K) 0) ?_ (fun y hy _ => ?_)
        · obtain ⟨Y, t1, t2, t3, t4⟩ := ip_think (fu := fu) hf h
          obtain ⟨Z, z1, z2⟩ := ofC_loop (fu := fu) (v := v) (by omega) hm hq (y := z) q 0 fu 0 (F, K) Y (by omega) (by omega) hb t2 t4 t3
          refine ⟨Z, ?_, z2⟩
          unfold pS_often
          rw [d1, pv_bnd, if_neg (by decide), c1, pv_bnd, if_neg (by decide), e1, pv_bnd, if_neg (by decide), t1, pv_bndv]
          exact z1
        · obtain ⟨w, w1, w2⟩ := keepMr (fu := fu) (by omega) y
          obtain ⟨Z, z1, z2⟩ := ofMr_loop (fu := fu) (v := v) (by omega) hm hq w2 q 0 fu 0 (F, K) w (by omega) (by omega) hb (hy.1.2.1.kpt w2) (hy.lM.kpt w2) EqN.rf
          refine ⟨Z, ?_, z2.r⟩
          unfold pM_often
          rw [one_y hn hy.1.2.1.1 hm, pv_bnd, if_neg (by decide), c2, pv_bnd, if_neg (by decide), e2, pv_bnd, if_neg (by decide), w1, pv_bndv]
          exact z1
end WHEN
