theorem ctM_b (L : LT) (n : Nat) (F : Nat → Nat → Int32) (K : Nat → Int32) : ∀ k m x, ∃ y, x ≤ y ∧ y ≤ x + k ∧ ctM L n F K k m (nI x) = nI y := by
  intro k
  induction k with
  | zero => intro m x; exact ⟨x, by omega, by omega, rfl⟩
  | succ k ih =>
    intro m x
    unfold ctM
    by_cases h : F 1 m + faM L n F K m < 12
    · rw [if_pos h]
      obtain ⟨y, h1, h2, h3⟩ := ih (m + 1) x
      exact ⟨y, h1, by omega, h3⟩
    · rw [if_neg h, nI_1]
      obtain ⟨y, h1, h2, h3⟩ := ih (m + 1) (x + 1)
      exact ⟨y, by omega, by omega, h3⟩
theorem cuM_b (L : LT) {n : Nat} (hn : n ≤ 6) (F : Nat → Nat → Int32) (K : Nat → Int32) : ∃ y, y ≤ 6 ∧ cuM L n F K = nI y := by
  obtain ⟨y, h1, h2, h3⟩ := ctM_b L n F K n 0 0
  exact ⟨y, by omega, h3⟩
theorem suM_b (L : LT) {n : Nat} (hn : n ≤ 6) : ∀ k (s : FK) x, ∃ y, x ≤ y ∧ y ≤ x + 6 * k ∧ suM L n k s (nI x) = nI y := by
  intro k
  induction k with
  | zero => intro s x; exact ⟨x, by omega, by omega, rfl⟩
  | succ k ih =>
    intro s x
    obtain ⟨c, c1, c2⟩ := cuM_b L hn s.1 s.2
    unfold suM
    rw [c2, nI_add]
    obtain ⟨y, h1, h2, h3⟩ := ih (s1M L n s) (x + c)
    exact ⟨y, by omega, by omega, h3⟩
theorem rM.u4 {z : Sg} {n lw : Nat} {F : Nat → Nat → Int32} {K : Nat → Int32} {v : Int32} (h : rM z n lw F K) : rM (u2 z 82 4 v) n lw F K := by
  obtain ⟨a1, a2, a3, a4, a5, a6, a7, a8, a9, a10, a11⟩ := h
  refine ⟨?_, ?_, fun m h => ?_, fun m h => ?_, fun m h => ?_, fun m h => ?_, fun m h => ?_, ?_, ?_, ?_, ?_⟩ <;> rw [pv_u2, if_neg (by omega)] <;> first | assumption | exact a3 m h | exact a4 m h | exact a5 m h | exact a6 m h | exact a7 m h
theorem iG.f {z : Sg} {n tc : Nat} {F F2 : Nat → Nat → Int32} (h : iG z n tc F) (e : ∀ m, m < n → F2 3 m = F 3 m ∧ F2 4 m = F 4 m) : iG z n tc F2 := by
  obtain ⟨g1, g2⟩ := h
  refine ⟨g1, ?_⟩
  rcases g2 with g2 | ⟨g2, n', lw', F', K', q1, q2, q3, q4, q5, q6, q7⟩
  · exact Or.inl g2
  · exact Or.inr ⟨g2, n', lw', F', K', q1, q2, q3, q4, q5, fun i hi => by rw [(e i (by omega)).1, (e i (by omega)).2]; exact q6 i hi, q7⟩
theorem st_stroke {fu : Nat} (hf : 50000 ≤ fu) (z : Sg) (h : Inv z) : ∃ (r : Int32) (z1 z2 : Sg), pS_stroke fu z = some (r, z1) ∧ pM_stroke fu z1 = some (r, z2) ∧ Inv z2 := by
  obtain ⟨n, lw, tc, ts, F, K, C, E, h⟩ := h
  have hI : Inv z := ⟨n, lw, tc, ts, F, K, C, E, h⟩
  have hn := h.1.2.2.1.1
  have hb := h.bs (fu := fu) (by omega)
  obtain ⟨a, ha, ea⟩ := h.1.2.2.1.2.2.1
  have k1 : z 10 3 = nI a := h.1.1.2.2.2.2.2.2.2.2.2.2.trans ea
  have k2 : z 82 3 = nI a := h.1.2.1.2.2.2.2.2.2.2.2.2.2.trans ea
  by_cases h9 : a < 999
  · obtain ⟨Z, x1, x2, x3, x4⟩ := swC (Or.inl rfl) hb h.1.1 h.lC
    have eZ : ∀ c j, ¬ ((c = 9 ∧ j = 6) ∨ (17 ≤ c ∧ c ≤ 19) ∨ ST c ∨ c = 10 ∨ c = 13 ∨ c = 14) → Z c j = z c j := fun c j hc => x4 c j (fun q => hc (by unfold SW SC ST at *; omega))
    have m1 : rM Z n lw F K := h.1.2.1.at (fun c j hc => eZ c j (by unfold ST; omega))
    obtain ⟨Y, y1, y2, y3⟩ := swMr hb m1 (h.lM.at (fun c j hc => eZ c j (by unfold ST; omega)))
    obtain ⟨cu, hcu, ecu⟩ := cuM_b (saM (C lw) (E lw)) hn F K
    obtain ⟨ct, hct, ect⟩ := h.1.2.2.2.1
    have y82 : Y 82 4 = nI ct := by rw [y3 82 4 (by omega) (by omega) (by omega) (by omega) (by omega), eZ 82 4 (by unfold ST; omega), h.1.2.2.2.2, ect]
    have z4 : Z 10 4 = (if nI ct + nI cu < 9999 then nI ct + nI cu else 9999) := by
      have := x3
      rw [show z (9 + 1) 4 = nI ct from ect, ecu] at this
      exact this
    have vv : (if 0 ≤ nI ct + nI cu then (if nI ct + nI cu ≤ 9999 then nI ct + nI cu else 9999) else 0) = Z 10 4 ∧ bI 10000 (Z 10 4) := by
      rw [z4, nI_add, l_9999, l_0, if_pos (nI_le (by omega) (by omega))]
      by_cases q : ct + cu < 9999
      · rw [if_pos (nI_lt q (by omega)), if_pos (nI_le (by omega) (by omega))]; exact ⟨rfl, ⟨ct + cu, by omega, rfl⟩⟩
      · rw [if_neg (nI_nlt (by omega) (by omega))]
        by_cases q2 : ct + cu ≤ 9999
        · rw [if_pos (nI_le q2 (by omega)), show ct + cu = 9999 by omega]; exact ⟨rfl, ⟨9999, by omega, rfl⟩⟩
        · rw [if_neg (nI_ge (by omega) (by omega))]; exact ⟨rfl, ⟨9999, by omega, rfl⟩⟩
    have eY : ∀ c j, ¬ ((c = 9 ∧ j = 6) ∨ (17 ≤ c ∧ c ≤ 19) ∨ (42 ≤ c ∧ c < 70 ∧ c % 4 = 1) ∨ c = 10 ∨ c = 13 ∨ c = 14 ∨ c = 81 ∨ c = 82 ∨ c = 94 ∨ c = 95 ∨ c = 96) → (u2 Y 82 4 (Z 10 4)) c j = z c j := fun c j hc => by
      rw [pv_u2, if_neg (by omega), y3 c j (by omega) (by omega) (by omega) (by omega) (by omega)]
      exact eZ c j (by unfold ST; omega)
    refine ⟨nI cu, Z, u2 Y 82 4 (Z 10 4), ?_, ?_, n, lw, tc, ts, stF (saM (C lw) (E lw)) n F K, stK K, C, E, ⟨?_, (y2.u4), ⟨hn, st_b h.1.2.2.1.2.1 hn, ?_, h.1.2.2.1.2.2.2⟩, ?_, ?_⟩, h.2.1.at (fun c j hc => eY c j (by omega)), h.2.2.1.at (fun c j hc => eY c j (by omega)), (h.2.2.2.1.at (fun c j hc => eY c j (by omega))).f (fun m hm => ⟨rfl, rfl⟩), h.2.2.2.2.1.at (fun c j hc => eY c j (by omega)), h.2.2.2.2.2.at (fun c j hc => eY c j (by omega))⟩
    · unfold pS_stroke
      rw [k1, if_pos (by rw [l_999, pv_lt (by omega) (by omega)]; exact h9), x1, pv_bnd, ecu]
    · unfold pM_stroke
      rw [show Z 82 3 = nI a from by rw [eZ 82 3 (by unfold ST; omega)]; exact k2, if_neg (by rw [l_999, pv_eq (by omega) (by omega)]; omega), y1, pv_bnd, ecu, y82, cl_within, pv_bnd, vv.1, pv_letm]
    · exact x2.at (fun c j hc => by rw [pv_u2, if_neg (by omega)]; exact y3 c j (by omega) (by omega) (by omega) (by omega) (by omega))
    · exact ⟨a + 1, by omega, by show K 3 + 1 = _; rw [ea, nI_1]⟩
    · have : (u2 Y 82 4 (Z 10 4)) 10 4 = Z 10 4 := by rw [pv_u2, if_neg (by omega)]; exact y3 10 4 (by omega) (by omega) (by omega) (by omega) (by omega)
      rw [this]; exact vv.2
    · have : (u2 Y 82 4 (Z 10 4)) 10 4 = Z 10 4 := by rw [pv_u2, if_neg (by omega)]; exact y3 10 4 (by omega) (by omega) (by omega) (by omega) (by omega)
      rw [this, pv_u2, if_pos ⟨rfl, rfl⟩]
  · refine ⟨-3, z, z, ?_, ?_, hI⟩
    · unfold pS_stroke
      rw [k1, if_neg (by rw [l_999, pv_lt (by omega) (by omega)]; exact h9)]
    · unfold pM_stroke
      rw [k2, if_pos (by rw [show a = 999 by omega]; rfl)]
/-! a MOWER comes -/
def coG (n : Nat) (F : Nat → Nat → Int32) (K : Nat → Int32) (a b : Int32) : Bool := decide (0 ≤ a.toInt ∧ a.toInt ≤ 59 ∧ 0 ≤ b.toInt ∧ b.toInt ≤ 999 ∧ b.toInt.toNat % 100 ≤ 11) && frB n F K (b.toInt.toNat / 100)
def adF (n : Nat) (F : Nat → Nat → Int32) (x y : Nat) : Nat → Nat → Int32 := fun w m => if m = n then (if w = 0 then nI (y / 100) else if w = 1 then nI (y % 100) else if w = 2 then 0 else if w = 3 then nI (x / 10) else nI (x % 10)) else F w m
def coA (n : Nat) (F : Nat → Nat → Int32) (K : Nat → Int32) (a b : Int32) : Int32 := if coG n F K a b then (if n < 6 then nI n else -4) else -2
def coB (n : Nat) (F : Nat → Nat → Int32) (K : Nat → Int32) (a b : Int32) : Bool := coG n F K a b && decide (n < 6)
def coN (n : Nat) (F : Nat → Nat → Int32) (K : Nat → Int32) (a b : Int32) : Nat := if coB n F K a b then n + 1 else n
def coF (n : Nat) (F : Nat → Nat → Int32) (K : Nat → Int32) (a b : Int32) : Nat → Nat → Int32 := if coB n F K a b then adF n F a.toInt.toNat b.toInt.toNat else F
theorem co_ok {n : Nat} {F : Nat → Nat → Int32} {K : Nat → Int32} (h : okR n F K) (a b : Int32) : okR (coN n F K a b) (coF n F K a b) K := by
  unfold coN coF
  cases hB : coB n F K a b with
  | false => exact h
  | true =>
    rw [if_pos rfl, if_pos rfl]
    have hB2 := hB
    unfold coB coG at hB2
    simp only [Bool.and_eq_true, decide_eq_true_eq] at hB2
    obtain ⟨⟨⟨a1, a2, b1, b2, b3⟩, h4⟩, h5⟩ := hB2
    obtain ⟨k1, ⟨f0, f1, f2, f3, f4, f5, f6, f7⟩, k3, k4⟩ := h
    have hfr := frB_t k1 h4
    refine ⟨by omega, ⟨fun m hm => ?_, fun m hm => ?_, fun m hm => ?_, fun m hm => ?_, fun m hm => ?_, f5, f6, f7⟩, k3, fun i hi j hj => ?_⟩
    · unfold adF
      by_cases e : m = n
      · rw [if_pos e]; exact ⟨_, by omega, rfl⟩
      · rw [if_neg e]; exact f0 m (by omega)
    · unfold adF
      by_cases e : m = n
      · rw [if_pos e]; exact ⟨b.toInt.toNat % 100, by omega, rfl⟩
      · rw [if_neg e]; exact f1 m (by omega)
    · unfold adF
      by_cases e : m = n
      · rw [if_pos e]; exact ⟨0, by omega, rfl⟩
      · rw [if_neg e]; exact f2 m (by omega)
    · unfold adF
      by_cases e : m = n
      · rw [if_pos e]; exact ⟨a.toInt.toNat / 10, by omega, rfl⟩
      · rw [if_neg e]; exact f3 m (by omega)
    · unfold adF
      by_cases e : m = n
      · rw [if_pos e]; exact ⟨a.toInt.toNat % 10, by omega, rfl⟩
      · rw [if_neg e]; exact f4 m (by omega)
    · unfold adF
      by_cases e1 : i = n
      · by_cases e2 : j = n
        · intro _; omega
        · rw [if_pos e1, if_neg e2, if_pos rfl]
          exact fun q => absurd q.symm (hfr.2 j (by omega))
      · by_cases e2 : j = n
        · rw [if_neg e1, if_pos e2, if_pos rfl]
          exact fun q => absurd q (hfr.2 i (by omega))
        · rw [if_neg e1, if_neg e2]
          exact k4 i (by omega) j (by omega)
theorem co_old {n : Nat} {F : Nat → Nat → Int32} {K : Nat → Int32} (a b : Int32) : n ≤ coN n F K a b ∧ ∀ w m, m < n → coF n F K a b w m = F w m := by
  unfold coN coF
  cases hB : coB n F K a b with
  | false => exact ⟨Nat.le_refl _, fun w m _ => rfl⟩
  | true =>
    rw [if_pos rfl, if_pos rfl]
    exact ⟨by omega, fun w m hm => by unfold adF; rw [if_neg (by omega)]⟩
/-- what goes wrong, and what is there else -/
theorem co_cases {n : Nat} {F : Nat → Nat → Int32} {K : Nat → Int32} (a b : Int32) : (coG n F K a b = false ∧ ((∀ fu z, pM_in fu a 0 59 z = some (0, z)) ∨ ((∀ fu z, pM_in fu a 0 59 z = some (1, z)) ∧ (∀ fu z, pM_in fu b 0 999 z = some (0, z)) ∧ (∀ fu z, pM_in fu b 0 911 z = some (0, z))))) ∨ ∃ x y, x ≤ 59 ∧ y ≤ 999 ∧ a = nI x ∧ b = nI y ∧ (∀ fu z, pM_in fu a 0 59 z = some (1, z)) ∧ (∀ fu z, pM_in fu b 0 999 z = some (1, z)) ∧ coG n F K a b = (decide (y % 100 ≤ 11) && frB n F K (y / 100)) := by
  have z0 : (0 : Int32).toInt = 0 := by decide
  rcases in_cases (A := 0) (M := 59) (a := 0) (k := 59) rfl rfl (by omega) (by omega) a with ⟨c1, hx⟩ | ⟨x, _, hx, rfl, _, _, c1⟩
  · refine Or.inl ⟨?_, Or.inl c1⟩
    have h59 : (59 : Int32).toInt = 59 := by decide
    rw [Int32.lt_iff_toInt_lt, Int32.lt_iff_toInt_lt, z0, h59] at hx
    unfold coG
    rw [decide_eq_false (by omega)]
    rfl
  · rcases in_cases (A := 0) (M := 999) (a := 0) (k := 999) rfl rfl (by omega) (by omega) b with ⟨d1, hy⟩ | ⟨y, _, hy, rfl, _, _, d1⟩
    · have h999 : (999 : Int32).toInt = 999 := by decide
      have h911 : (911 : Int32).toInt = 911 := by decide
      have hy2 := hy
      rw [Int32.lt_iff_toInt_lt, Int32.lt_iff_toInt_lt, z0, h999] at hy2
      refine Or.inl ⟨?_, Or.inr ⟨c1, d1, fun fu z => ?_⟩⟩
      · unfold coG
        rw [decide_eq_false (by omega)]
        rfl
      · unfold pM_in
        by_cases q : b < 0
        · rw [if_pos q]
        · rw [if_neg q, if_pos (by rw [Int32.lt_iff_toInt_lt, h911]; rw [Int32.lt_iff_toInt_lt, z0] at q; omega)]
    · refine Or.inr ⟨x, y, hx, hy, rfl, rfl, c1, d1, ?_⟩
      unfold coG
      rw [nI_toInt (show x < 2 ^ 31 by omega), nI_toInt (show y < 2 ^ 31 by omega), Int.toNat_natCast]
      by_cases q : y % 100 ≤ 11
      · rw [decide_eq_true q, decide_eq_true (by omega)]
      · rw [decide_eq_false q, decide_eq_false (by omega)]
theorem coC {fu n lw : Nat} {z : Sg} {F : Nat → Nat → Int32} {K : Nat → Int32} (h : rC z 9 n lw F K) (hn : n ≤ 6) (hf : 10 ≤ fu) (a b : Int32) : ∃ Z, pS_comes fu a b z = some (coA n F K a b, Z) ∧ rC Z 9 (coN n F K a b) lw (coF n F K a b) K ∧ ∀ c j, ¬ ((c = 9 ∧ j = 3) ∨ (12 ≤ c ∧ c ≤ 16)) → Z c j = z c j := by
  have hbad : coG n F K a b = false → coA n F K a b = -2 ∧ coN n F K a b = n ∧ coF n F K a b = F := fun q => by
    unfold coA coN coF coB; rw [q]; exact ⟨rfl, rfl, rfl⟩
  unfold pS_comes
  rcases co_cases (n := n) (F := F) (K := K) a b with ⟨g, c | ⟨c, d, -⟩⟩ | ⟨x, y, hx, hy, rfl, rfl, c, d, g⟩
  · obtain ⟨e1, e2, e3⟩ := hbad g
    refine ⟨z, ?_, by rw [e2, e3]; exact h, fun _ _ _ => rfl⟩
    rw [show pS_within fu a 59 z = some (0, z) from c fu z, pv_bnd, if_pos rfl, e1]
  · obtain ⟨e1, e2, e3⟩ := hbad g
    refine ⟨z, ?_, by rw [e2, e3]; exact h, fun _ _ _ => rfl⟩
    rw [show pS_within fu a 59 z = some (1, z) from c fu z, pv_bnd, if_neg (by decide), show pS_within fu b 999 z = some (0, z) from d fu z, pv_bnd, if_pos rfl, e1]
  · rw [show pS_within fu (nI x) 59 z = some (1, z) from c fu z, pv_bnd, if_neg (by decide), show pS_within fu (nI y) 999 z = some (1, z) from d fu z, pv_bnd, if_neg (by decide), pv_letm, pv_letm, l_100, pk_rem (by omega) (by omega) (by omega), pk_div (by omega) (by omega) (by omega)]
    have hsw : pS_within fu (nI (y % 100)) 11 z = some (if y % 100 ≤ 11 then 1 else 0, z) := by
      unfold pS_within
      rw [if_neg (nI_pos (by omega))]
      by_cases q : y % 100 ≤ 11
      · rw [if_neg (show ¬ (11 : Int32) < nI (y % 100) from by rw [l_11, pv_lt (by omega) (by omega)]; omega), if_pos q]
      · rw [if_pos (show (11 : Int32) < nI (y % 100) from by rw [l_11, pv_lt (by omega) (by omega)]; omega), if_neg q]
    rw [hsw, pv_bnd, frC h hn hf (p := y / 100) (by omega), pv_bnd]
    by_cases q : y % 100 ≤ 11
    · rw [if_pos q, if_neg (by decide)]
      rw [decide_eq_true q, Bool.true_and] at g
      cases hB : frB n F K (y / 100) with
      | false =>
        rw [hB] at g
        obtain ⟨e1, e2, e3⟩ := hbad g
        refine ⟨z, ?_, by rw [e2, e3]; exact h, fun _ _ _ => rfl⟩
        rw [if_pos (by decide), e1]
      | true =>
        rw [hB] at g
        rw [if_pos rfl, if_neg (by decide), h.1]
        by_cases h6 : n < 6
        · have eB : coB n F K (nI x) (nI y) = true := by unfold coB; rw [g, decide_eq_true h6]; rfl
          have eA : coA n F K (nI x) (nI y) = nI n := by unfold coA; rw [g, if_pos rfl, if_pos h6]
          have eN : coN n F K (nI x) (nI y) = n + 1 := by unfold coN; rw [eB, if_pos rfl]
          have eF : coF n F K (nI x) (nI y) = adF n F x y := by unfold coF; rw [eB, if_pos rfl, nI_toInt (show x < 2 ^ 31 by omega), nI_toInt (show y < 2 ^ 31 by omega), Int.toNat_natCast, Int.toNat_natCast]
          rw [if_pos (by rw [l_6, pv_lt (by omega) (by omega)]; exact h6), eA, eN, eF]
          unfold pR_add
          rw [pv_letm, h.1, pv_inb (by omega) (by omega), pv_chk, pv_letm, pv_chk, pv_letm, pv_chk, pv_letm, pv_chk, pv_letm, pv_chk, pv_letm, pv_letm, pv_sa (by omega), pv_sa (by omega), pv_sa (by omega), pv_sa (by omega), pv_sa (by omega), l_10, pk_rem (by omega) (by omega) (by omega), pk_div (by omega) (by omega) (by omega), pv_bnd]
          obtain ⟨a1, a2, a3, a4, a5, a6, a7, a8, a9, a10, a11⟩ := h
          refine ⟨_, rfl, ⟨?_, ?_, fun m hm => ?_, fun m hm => ?_, fun m hm => ?_, fun m hm => ?_, fun m hm => ?_, ?_, ?_, ?_, ?_⟩, fun c j hc => ?_⟩
          · rw [pv_u2, if_pos ⟨rfl, rfl⟩]; simp [pv_u2, a1, nI_1]
          · simp [pv_u2, a2]
          · unfold adF
            by_cases e : m = n
            · simp [pv_u2, e]
            · simp [pv_u2, e]; exact a3 m (by omega)
          · unfold adF
            by_cases e : m = n
            · simp [pv_u2, e]
            · simp [pv_u2, e]; exact a4 m (by omega)
          · unfold adF
            by_cases e : m = n
            · simp [pv_u2, e]
            · simp [pv_u2, e]; exact a5 m (by omega)
          · unfold adF
            by_cases e : m = n
            · simp [pv_u2, e]
            · simp [pv_u2, e]; exact a6 m (by omega)
          · unfold adF
            by_cases e : m = n
            · simp [pv_u2, e]
            · simp [pv_u2, e]; exact a7 m (by omega)
          · simp [pv_u2]; exact a8
          · simp [pv_u2]; exact a9
          · simp [pv_u2]; exact a10
          · simp [pv_u2]; exact a11
          · rw [pv_u2, if_neg (by omega), pv_u2, if_neg (by omega), pv_u2, if_neg (by omega), pv_u2, if_neg (by omega), pv_u2, if_neg (by omega), pv_u2, if_neg (by omega)]
        · have eB : coB n F K (nI x) (nI y) = false := by unfold coB; rw [decide_eq_false h6, Bool.and_false]
          have eA : coA n F K (nI x) (nI y) = -4 := by unfold coA; rw [g, if_pos rfl, if_neg h6]
          refine ⟨z, ?_, ?_, fun _ _ _ => rfl⟩
          · rw [if_neg (by rw [l_6, pv_lt (by omega) (by omega)]; exact h6), eA]
          · unfold coN coF; rw [eB]; exact h
    · rw [decide_eq_false q, Bool.false_and] at g
      obtain ⟨e1, e2, e3⟩ := hbad g
      refine ⟨z, ?_, by rw [e2, e3]; exact h, fun _ _ _ => rfl⟩
      rw [if_neg q, if_pos rfl, e1]
theorem coMr {fu n lw : Nat} {z : Sg} {F : Nat → Nat → Int32} {K : Nat → Int32} (h : rM z n lw F K) (hn : n ≤ 6) (hf : 10 ≤ fu) (a b : Int32) : ∃ Z, pM_mower fu a b z = some (coA n F K a b, Z) ∧ rM Z (coN n F K a b) lw (coF n F K a b) K ∧ ∀ c j, ¬ ((c = 78 ∧ j = 0) ∨ (79 ≤ c ∧ c ≤ 81)) → Z c j = z c j := by
  have hbad : coG n F K a b = false → coA n F K a b = -2 ∧ coN n F K a b = n ∧ coF n F K a b = F := fun q => by
    unfold coA coN coF coB; rw [q]; exact ⟨rfl, rfl, rfl⟩
  have h34 : ∀ y, pM_mower_34 fu a b y = some (-2, y) := fun y => by
    unfold pM_mower_34 pM_mower_35
    rw [if_pos rfl]
  unfold pM_mower
  rcases co_cases (n := n) (F := F) (K := K) a b with ⟨g, c | ⟨c, -, d⟩⟩ | ⟨x, y, hx, hy, rfl, rfl, c, d, g⟩
  · obtain ⟨e1, e2, e3⟩ := hbad g
    refine ⟨z, ?_, by rw [e2, e3]; exact h, fun _ _ _ => rfl⟩
    rw [c, pv_bnd, if_pos rfl, h34, e1]
  · obtain ⟨e1, e2, e3⟩ := hbad g
    refine ⟨z, ?_, by rw [e2, e3]; exact h, fun _ _ _ => rfl⟩
    rw [c, pv_bnd, if_neg (by decide), d, pv_bnd, if_pos rfl, h34, e1]
  · rw [c, pv_bnd, if_neg (by decide), l_100, pk_rem (by omega) (by omega) (by omega)]
    by_cases q : y % 100 ≤ 11
    · have d9 : pM_in fu (nI y) 0 911 z = some (1, z) := by
        unfold pM_in
        rw [if_neg (nI_pos (by omega)), if_neg (show ¬ (911 : Int32) < nI y from nI_nlt (a := 911) (b := y) (by omega) (by omega))]
      rw [d9, pv_bnd, if_neg (by decide), if_neg (by rw [l_12, pv_le (by omega) (by omega)]; omega)]
      rw [decide_eq_true q, Bool.true_and] at g
      unfold pM_mower_35
      rw [if_neg (by decide), l_100, pk_rem (by omega) (by omega) (by omega), pk_div (by omega) (by omega) (by omega), frMr h hn hf (p := y / 100) (by omega), pv_bnd]
      cases hB : frB n F K (y / 100) with
      | false =>
        rw [hB] at g
        obtain ⟨e1, e2, e3⟩ := hbad g
        refine ⟨z, ?_, by rw [e2, e3]; exact h, fun _ _ _ => rfl⟩
        rw [if_pos (by decide), e1]
      | true =>
        rw [hB] at g
        rw [if_pos rfl, if_neg (by decide), h.1]
        by_cases h6 : n < 6
        · have eB : coB n F K (nI x) (nI y) = true := by unfold coB; rw [g, decide_eq_true h6]; rfl
          have eA : coA n F K (nI x) (nI y) = nI n := by unfold coA; rw [g, if_pos rfl, if_pos h6]
          have eN : coN n F K (nI x) (nI y) = n + 1 := by unfold coN; rw [eB, if_pos rfl]
          have eF : coF n F K (nI x) (nI y) = adF n F x y := by unfold coF; rw [eB, if_pos rfl, nI_toInt (show x < 2 ^ 31 by omega), nI_toInt (show y < 2 ^ 31 by omega), Int.toNat_natCast, Int.toNat_natCast]
          have n78 : ∀ (w : Sg) c j v, c ≠ 78 → (u2 w c j v) 78 0 = w 78 0 := fun w c j v hc => by rw [pv_u2, if_neg (by omega)]
          have s78 : ∀ (w : Sg) v, (u2 w 78 0 v) 78 0 = v := fun w v => by rw [pv_u2, if_pos ⟨rfl, rfl⟩]
          rw [if_neg (by rw [l_6, pv_eq (by omega) (by omega)]; omega), eA, eN, eF, l_10, pk_rem (by omega) (by omega) (by omega), pk_div (by omega) (by omega) (by omega)]
          simp (disch := omega) only [pv_letm, pv_chk, pv_sa, pv_inb, n78, s78, h.1, l_3, l_2, pk_mul, nI_1, nI_add, nI_pred]
          obtain ⟨a1, a2, a3, a4, a5, a6, a7, a8, a9, a10, a11⟩ := h
          refine ⟨_, rfl, ⟨?_, ?_, fun m hm => ?_, fun m hm => ?_, fun m hm => ?_, fun m hm => ?_, fun m hm => ?_, ?_, ?_, ?_, ?_⟩, fun c j hc => ?_⟩
          · rw [pv_u2, if_pos ⟨rfl, rfl⟩]
          · simp [pv_u2, a2]
          · unfold adF
            by_cases e : m = n
            · subst e
              rw [pv_u2, if_neg (by omega), pv_u2, if_neg (by omega), pv_u2, if_neg (by omega), pv_u2, if_pos ⟨rfl, by omega⟩]; simp
            · rw [pv_u2, if_neg (by omega), pv_u2, if_neg (by omega), pv_u2, if_neg (by omega), pv_u2, if_neg (by omega), pv_u2, if_neg (by omega), pv_u2, if_neg (by omega), if_neg e]; exact a3 m (by omega)
          · unfold adF
            by_cases e : m = n
            · subst e
              rw [pv_u2, if_neg (by omega), pv_u2, if_neg (by omega), pv_u2, if_pos ⟨rfl, by omega⟩]; simp
            · rw [pv_u2, if_neg (by omega), pv_u2, if_neg (by omega), pv_u2, if_neg (by omega), pv_u2, if_neg (by omega), pv_u2, if_neg (by omega), pv_u2, if_neg (by omega), if_neg e]; exact a4 m (by omega)
          · unfold adF
            by_cases e : m = n
            · subst e
              rw [pv_u2, if_neg (by omega), pv_u2, if_pos ⟨rfl, by omega⟩]; simp
            · rw [pv_u2, if_neg (by omega), pv_u2, if_neg (by omega), pv_u2, if_neg (by omega), pv_u2, if_neg (by omega), pv_u2, if_neg (by omega), pv_u2, if_neg (by omega), if_neg e]; exact a5 m (by omega)
          · unfold adF
            by_cases e : m = n
            · simp [pv_u2, e]
            · simp [pv_u2, e]; exact a6 m (by omega)
          · unfold adF
            by_cases e : m = n
            · simp [pv_u2, e]
            · simp [pv_u2, e]; exact a7 m (by omega)
          · simp [pv_u2]; exact a8
          · simp [pv_u2]; exact a9
          · simp [pv_u2]; exact a10
          · simp [pv_u2]; exact a11
          · rw [pv_u2, if_neg (by omega), pv_u2, if_neg (by omega), pv_u2, if_neg (by omega), pv_u2, if_neg (by omega), pv_u2, if_neg (by omega), pv_u2, if_neg (by omega)]
        · have eB : coB n F K (nI x) (nI y) = false := by unfold coB; rw [decide_eq_false h6, Bool.and_false]
          have eA : coA n F K (nI x) (nI y) = -4 := by unfold coA; rw [g, if_pos rfl, if_neg h6]
          refine ⟨z, ?_, ?_, fun _ _ _ => rfl⟩
          · rw [if_pos (by rw [show n = 6 by omega]; rfl), eA]
          · unfold coN coF; rw [eB]; exact h
    · rw [decide_eq_false q, Bool.false_and] at g
      obtain ⟨e1, e2, e3⟩ := hbad g
      refine ⟨z, ?_, by rw [e2, e3]; exact h, fun _ _ _ => rfl⟩
      unfold pM_in
      by_cases q2 : nI 911 < nI y
      · rw [if_neg (nI_pos (by omega)), if_pos (show (911 : Int32) < nI y from q2), pv_bnd, if_pos rfl, h34, e1]
      · rw [if_neg (nI_pos (by omega)), if_neg (show ¬ (911 : Int32) < nI y from q2), pv_bnd, if_neg (by decide), if_pos (show (12 : Int32) ≤ nI (y % 100) from by rw [l_12, pv_le (by omega) (by omega)]; omega), h34, e1]
/-- what has come stands for both: the world behind it -/
theorem InvP.came {z Z : Sg} {n n2 lw tc ts : Nat} {F F2 : Nat → Nat → Int32} {K : Nat → Int32} {C E : Nat → Nat → Nat} (h : InvP z n lw tc ts F K C E) (h1 : rC Z 9 n2 lw F2 K) (h2 : rM Z n2 lw F2 K) (h3 : okR n2 F2 K) (h4 : n ≤ n2) (h5 : ∀ w m, m < n → F2 w m = F w m) (e : ∀ c j, ¬ ((c = 9 ∧ j = 3) ∨ (12 ≤ c ∧ c ≤ 16) ∨ (c = 78 ∧ j = 0) ∨ (79 ≤ c ∧ c ≤ 81)) → Z c j = z c j) : Inv Z := by
  refine ⟨n2, lw, tc, ts, F2, K, C, E, ⟨h1, h2, h3, by rw [e _ _ (by omega)]; exact h.1.2.2.2.1, by rw [e _ _ (by omega), e _ _ (by omega)]; exact h.1.2.2.2.2⟩, h.2.1.at (fun c j hc => e c j (by omega)), h.2.2.1.at (fun c j hc => e c j (by omega)), ?_, h.2.2.2.2.1.at (fun c j hc => e c j (by omega)), h.2.2.2.2.2.at (fun c j hc => e c j (by omega))⟩
  have g := h.2.2.2.1.at (Z := Z) (fun c j hc => e c j (by omega))
  obtain ⟨g1, g2⟩ := g
  refine ⟨g1, ?_⟩
  rcases g2 with g2 | ⟨g2, n', lw', F', K', q1, q2, q3, q4, q5, q6, q7⟩
  · exact Or.inl g2
  · exact Or.inr ⟨g2, n', lw', F', K', by omega, q2, q3, q4, q5, fun i hi => by rw [h5 3 i (by omega), h5 4 i (by omega)]; exact q6 i hi, q7⟩
theorem st_mower {fu : Nat} (hf : 50000 ≤ fu) (z : Sg) (a1 a2 : Int32) (h : Inv z) : ∃ (r : Int32) (z1 z2 : Sg), pS_mower fu a1 a2 z = some (r, z1) ∧ pM_mower fu a1 a2 z1 = some (r, z2) ∧ Inv z2 := by
  obtain ⟨n, lw, tc, ts, F, K, C, E, h⟩ := h
  have hn := h.1.2.2.1.1
  obtain ⟨Z, x1, x2, x3⟩ := coC (fu := fu) h.1.1 hn (by omega) a1 a2
  have m1 : rM Z n lw F K := h.1.2.1.at (fun c j hc => x3 c j (by omega))
  obtain ⟨Y, y1, y2, y3⟩ := coMr (fu := fu) m1 hn (by omega) a1 a2
  refine ⟨_, Z, Y, by unfold pS_mower; rw [x1, pv_bnd], y1, h.came (x2.at (fun c j hc => y3 c j (by omega))) y2 (co_ok h.1.2.2.1 a1 a2) (co_old a1 a2).1 (co_old a1 a2).2 (fun c j hc => by rw [y3 c j (by omega)]; exact x3 c j (by omega))⟩
