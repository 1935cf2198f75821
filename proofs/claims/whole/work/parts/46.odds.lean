/-! lowest terms -/
def ltM (o u p : Nat) : Int64 := if p = 0 then lN (o / Nat.gcd u o) else lN (u / Nat.gcd u o)
theorem gcC_end {fu : Nat} {v0 v1 v2 : Int32} {z : Sg} {o u p g : Nat} (h0 : v0 = nI o) (h1 : v1 = nI u) (h2 : v2 = nI p) (hp : p < 2) (ho : o < 2147483648) (hu : u < 2147483648) (hg : 0 < g) (hg2 : g < 2147483648) : pS_lowestTerm_39 fu v0 v1 v2 (nI g) z = some (if p = 0 then lN (o / g) else lN (u / g), z) := by
  have hq : ∀ x, x < 2147483648 → x / g < 2147483648 := fun x hx => Nat.lt_of_le_of_lt (Nat.div_le_self _ _) hx
  unfold pS_lowestTerm_39
  subst h0 h1 h2
  rw [if_neg (nI_ne0 hg hg2), show (!decide (nI g = 0)) = true from by rw [decide_eq_false (nI_ne0 hg hg2)]; rfl, pv_chk, pv_chk, pk_div ho hg hg2, pk_div hu hg hg2, nI_l (hq o ho), nI_l (hq u hu)]
  rcases (show p = 0 ∨ p = 1 by omega) with rfl | rfl
  · rw [if_pos (by decide), if_pos rfl]
  · rw [if_neg (by decide), if_neg (by decide)]
theorem gcC_loop {fu : Nat} {v0 v1 v2 : Int32} {z : Sg} : ∀ k a b t f, b < 2 ^ k → t + 2 * k ≤ 62 → 2 * k + 3 < f → a < 2147483648 → b < 2147483648 → pS_lowestTerm_8 fu f v0 v1 v2 (nI a) (nI b) (nI t) z = pS_lowestTerm_39 fu v0 v1 v2 (nI (Nat.gcd a b)) z := by
  have stop : ∀ a t f, t ≤ 63 → 0 < f → pS_lowestTerm_8 fu f v0 v1 v2 (nI a) (nI 0) (nI t) z = pS_lowestTerm_39 fu v0 v1 v2 (nI a) z := fun a t f ht hf => by
    obtain ⟨f, rfl⟩ := fuS hf
    rw [pS_lowestTerm_8, if_neg (show ¬ (64 : Int32) ≤ nI t from nI_ge (b := 64) (by omega) (by omega)), if_pos (by decide)]
  have turn : ∀ a b t f, 0 < b → t ≤ 63 → 0 < f → a < 2147483648 → b < 2147483648 → pS_lowestTerm_8 fu f v0 v1 v2 (nI a) (nI b) (nI t) z = pS_lowestTerm_8 fu (f - 1) v0 v1 v2 (nI b) (nI (a % b)) (nI (t + 1)) z := fun a b t f hb ht hf ha hb2 => by
    obtain ⟨f, rfl⟩ := fuS hf
    rw [pS_lowestTerm_8, if_neg (show ¬ (64 : Int32) ≤ nI t from nI_ge (b := 64) (by omega) (by omega)), if_neg (nI_ne0 hb hb2), show (!decide (nI b = 0)) = true from by rw [decide_eq_false (nI_ne0 hb hb2)]; rfl, pv_chk, pv_letm, pv_letm, pk_rem ha hb hb2, nI_1, Nat.add_sub_cancel]
  intro k
  induction k with
  | zero =>
    intro a b t f hb ht hf ha _
    have : b = 0 := by omega
    subst this
    rw [stop a t f (by omega) (by omega), Nat.gcd_zero_right]
  | succ k ih =>
    intro a b t f hb ht hf ha hb2
    by_cases hb0 : b = 0
    · subst hb0
      rw [stop a t f (by omega) (by omega), Nat.gcd_zero_right]
    · have hr : a % b < b := Nat.mod_lt _ (by omega)
      rw [turn a b t f (by omega) (by omega) (by omega) ha hb2, Nat.gcd_comm a b, Nat.gcd_rec b a, Nat.gcd_comm]
      by_cases hr0 : a % b = 0
      · rw [hr0, stop b (t + 1) (f - 1) (by omega) (by omega), Nat.gcd_zero_right]
      · have hr2 : b % (a % b) < a % b := Nat.mod_lt _ (by omega)
        have hpow : 2 ^ (k + 1) = 2 ^ k + 2 ^ k := by rw [Nat.pow_succ]; omega
        have hhalf : b % (a % b) < 2 ^ k := by
          by_cases q : a % b < 2 ^ k
          · omega
          · have h1 : b = (a % b) * (b / (a % b)) + b % (a % b) := (Nat.div_add_mod _ _).symm
            have h2 : 1 ≤ b / (a % b) := Nat.div_pos (by omega) (by omega)
            have h3 : a % b ≤ (a % b) * (b / (a % b)) := Nat.le_mul_of_pos_right _ h2
            omega
        rw [turn b (a % b) (t + 1) (f - 1) (by omega) (by omega) (by omega) hb2 (by omega), ih (a % b) (b % (a % b)) (t + 1 + 1) (f - 1 - 1) hhalf (by omega) (by omega) (by omega) (by omega), Nat.gcd_comm b (a % b), Nat.gcd_rec (a % b) b, Nat.gcd_comm]
theorem gcC {fu o u p : Nat} {z : Sg} (hf : 1000 ≤ fu) (ho : o < 500) (hu : 0 < u) (hu2 : u < 500) (hp : p < 2) : pS_lowestTerm fu (nI o) (nI u) (nI p) z = some (ltM o u p, z) := by
  have hg : 0 < Nat.gcd u o := Nat.gcd_pos_of_pos_left _ hu
  have hg2 : Nat.gcd u o ≤ u := Nat.gcd_le_left _ hu
  unfold pS_lowestTerm
  rw [show (0 : Int32) = nI 0 from rfl, gcC_loop 9 u o 0 fu (by omega) (by omega) (by omega) (by omega) (by omega), gcC_end rfl rfl rfl hp (by omega) (by omega) hg (by omega)]
  rfl
theorem gcMr_loop {fu : Nat} {v0 v2 : Int64} {o u p : Nat} {z : Sg} (h0 : v0 = lN o) (h2 : v2 = lN u) (hp : p < 2) (ho : o < 500) (hu : u < 500) : ∀ b a f, b < f → a < 500 → b < 500 → 0 < a → pM_lowest_16 fu f v0 v2 (nI p) (lN a) (lN b) z = some (if p = 0 then lN (o / Nat.gcd a b) else lN (u / Nat.gcd a b), z) := by
  intro b
  induction b using Nat.strongRecOn with
  | ind b ih =>
    intro a f h3 h4 h5 h6
    obtain ⟨f, rfl⟩ := fuS h3
    by_cases hb0 : b = 0
    · subst hb0
      have n0 : ¬ lN a = 0 := fun q => by
        rw [show (0 : Int64) = lN 0 from rfl, lN_eq (by omega) (by omega)] at q
        omega
      rw [pM_lowest_16, if_pos (by rw [show (0 : Int64) = lN 0 from rfl]; exact lg_cmp_self _), show (!decide (lN a = 0)) = true from by rw [decide_eq_false n0]; rfl, pv_chk, pv_chk, h0, h2, pk_lDiv (by omega) h6 (by omega), pk_lDiv (by omega) h6 (by omega), Nat.gcd_zero_right]
      rcases (show p = 0 ∨ p = 1 by omega) with rfl | rfl
      · rw [if_pos (by decide), if_pos rfl]
      · rw [if_neg (by decide), if_neg (by decide)]
    · have n0 : ¬ lN b = 0 := fun q => by
        rw [show (0 : Int64) = lN 0 from rfl, lN_eq (by omega) (by omega)] at q
        omega
      have hgt : lN b > 0 := by
        rw [show (0 : Int64) = lN 0 from rfl]
        exact (lN_lt (by omega) (by omega)).mpr (by omega)
      have hc : ¬ lg_cmp (lN b) 0 = 0 := by
        unfold lg_cmp
        rw [if_pos hgt]
        decide
      have hr : a % b < b := Nat.mod_lt _ (by omega)
      rw [pM_lowest_16, if_neg hc, show (!decide (lN b = 0)) = true from by rw [decide_eq_false n0]; rfl, pv_chk, pv_letm, pv_letm, pv_letm, pk_lRem (by omega) (by omega) (by omega), ih (a % b) hr b f (by omega) (by omega) (by omega) (by omega), Nat.gcd_comm a b, Nat.gcd_rec b a, Nat.gcd_comm]
theorem gcMr {fu o u p : Nat} {z : Sg} (hf : 1000 ≤ fu) (ho : o < 500) (hu : 0 < u) (hu2 : u < 500) (hp : p < 2) : pM_lowest fu (lN o) (lN u) (nI p) z = some (ltM o u p, z) := by
  unfold pM_lowest
  by_cases ho0 : o = 0
  · subst ho0
    rw [if_pos (by rw [show (0 : Int64) = lN 0 from rfl]; exact lg_cmp_self _), nI_l (by omega)]
    unfold ltM
    rw [Nat.gcd_zero_right]
    rcases (show p = 0 ∨ p = 1 by omega) with rfl | rfl
    · rw [if_pos rfl, Nat.zero_div]
    · rw [if_neg (by decide), Nat.div_self hu]
  · have hgt : lN o > 0 := by
      rw [show (0 : Int64) = lN 0 from rfl]
      exact (lN_lt (by omega) (by omega)).mpr (by omega)
    have hc : ¬ lg_cmp (lN o) 0 = 0 := by
      unfold lg_cmp
      rw [if_pos hgt]
      decide
    rw [if_neg hc, pv_letm, pv_letm, gcMr_loop rfl rfl hp ho hu2 u o fu (by omega) ho hu2 (by omega)]
    unfold ltM
    rw [Nat.gcd_comm]
section ODDS
variable {fu n lw tc ts : Nat} {F : Nat → Nat → Int32} {K : Nat → Int32} {C E : Nat → Nat → Nat}
theorem st_mean {fu : Nat} (hf : 50000 ≤ fu) (z : Sg) (a1 a2 : Int32) (h : Inv z) : ∃ (r : Int64) (z1 z2 : Sg), pS_mean fu a1 a2 z = some (r, z1) ∧ pM_mean fu a1 a2 z1 = some (r, z2) ∧ Inv z2 := by
  obtain ⟨n, lw, tc, ts, F, K, C, E, h⟩ := h
  have hI : Inv z := ⟨n, lw, tc, ts, F, K, C, E, h⟩
  have hn := h.1.2.2.1.1
  have hb := h.bs (fu := fu) (by omega)
  have h61 : ∀ v : Int32, (v < 1 ∨ 60 < v) → ∀ X : Option (Int64 × Sg), (if v < 1 then some (-4611686018427387904, z) else if 60 < v then some (-4611686018427387904, z) else X) = some (-4611686018427387904, z) := fun v hv X => by
    by_cases q : v < 1
    · rw [if_pos q]
    · rw [if_neg q, if_pos (by rcases hv with hv | hv; exact absurd hv q; exact hv)]
  rcases in_cases (A := 1) (M := 60) (a := 1) (k := 60) rfl rfl (by omega) (by omega) a1 with ⟨c1, hx⟩ | ⟨q, hq1, hq2, rfl, hx1, hx2, c1⟩
  · exact ⟨-4611686018427387904, z, z, by unfold pS_mean; exact h61 a1 hx _, by unfold pM_mean; rw [c1, pv_bnd, if_pos rfl], hI⟩
  · rcases wi_cases (M := 1) (k := 1) rfl (by omega) a2 with ⟨e1, e2⟩ | ⟨p, hp, rfl, e1, e2⟩
    · exact ⟨-4611686018427387904, z, z, by unfold pS_mean; rw [if_neg hx1, if_neg hx2, e1, pv_bnd, if_pos rfl], by unfold pM_mean; rw [c1, pv_bnd, if_neg (by decide), e2, pv_bnd, if_pos rfl], hI⟩
    · by_cases hn0 : n = 0
      · have z9 : z 9 3 = 0 := by rw [h.1.1.1, hn0]; rfl
        have z78 : z 78 0 = 0 := by rw [h.1.2.1.1, hn0]; rfl
        exact ⟨-4611686018427387904, z, z, by unfold pS_mean; rw [if_neg hx1, if_neg hx2, e1, pv_bnd, if_neg (by decide), if_pos z9], by unfold pM_mean; rw [c1, pv_bnd, if_neg (by decide), e2, pv_bnd, if_neg (by decide), if_pos z78], hI⟩
      · have z9 : ¬ z 9 3 = 0 := by rw [h.1.1.1]; exact nI_ne0 (by omega) (by omega)
        obtain ⟨o, -, ho, eo⟩ := suM_b (saM (C lw) (E lw)) hn q (F, K) 0
        have eo' : suM (saM (C lw) (E lw)) n q (F, K) 0 = nI o := eo
        have hqn : q * n ≤ 60 * 6 := Nat.mul_le_mul hq2 hn
        have hqn0 : 0 < q * n := Nat.mul_pos (by omega) (by omega)
        refine ask2 h (ltM o (q * n) p) ?_ (fun y hy _ => ?_)
        · obtain ⟨Y, t1, t2, t3, t4⟩ := ip_think (fu := fu) hf h
          obtain ⟨Z, x1, x2, x3⟩ := cutC (fu := fu) (Or.inr (Or.inl rfl)) (q := q) (by omega) (F, K) hb t2 t4
          have eZ : Z 9 3 = nI n := by rw [x3.q20 9 3 (by unfold QC ST; omega), t3 9 3 (by unfold QC ST; omega)]; exact h.1.1.1
          refine ⟨Z, ?_, t3.tr x3.q20⟩
          unfold pS_mean
          rw [if_neg hx1, if_neg hx2, e1, pv_bnd, if_neg (by decide), if_neg z9, t1, pv_bndv, x1, pv_bnd, eo', eZ, pk_mul, gcC (by omega) (by omega) hqn0 (by omega) (by omega), pv_bnd]
        · obtain ⟨Z, x1, x2⟩ := cnMr (fu := fu) (q := q) (by omega) (F, K) hb hy.1.2.1 hy.lM
          have y78 : ¬ y 78 0 = 0 := by rw [hy.1.2.1.1]; exact nI_ne0 (by omega) (by omega)
          have eZ : Z 78 0 = nI n := by rw [x2 78 0 (by omega)]; exact hy.1.2.1.1
          refine ⟨Z, ?_, x2.r⟩
          unfold pM_mean
          rw [c1, pv_bnd, if_neg (by decide), e2, pv_bnd, if_neg (by decide), if_neg y78, x1, pv_bnd, eo', eZ, pk_mul, nI_l (by omega), nI_l (by omega), gcMr (by omega) (by omega) hqn0 (by omega) (by omega), pv_bnd]
/-! gusts by lots -/
def nlM (x : Nat) : Nat := x * 48271 % 2147483647
theorem nl_lt (x : Nat) : nlM x < 2147483647 := Nat.mod_lt _ (by omega)
theorem nl_eq {x : Nat} (hx : x < 2147483648) : (lN x * 48271) - (lN x * 48271) / 2147483647 * 2147483647 = lN (nlM x) := by
  rw [show (48271 : Int64) = lN 48271 from rfl, show (2147483647 : Int64) = lN 2147483647 from rfl, lN_mul, pk_lRem (by omega) (by omega) (by omega)]
  rfl
theorem m6_eq {x : Nat} (hx : x < 2147483648) : (lN x - lN x / 6 * 6).toInt32 = nI (x % 6) := by
  rw [show (6 : Int64) = lN 6 from rfl, pk_lRem (by omega) (by omega) (by omega), lN_i]
def gvM (v : Int32) (x : Nat) : Int32 := ((v.toInt64 + lN x) - (v.toInt64 + lN x) / 12 * 12).toInt32
theorem gv_b {v : Int32} {x : Nat} (hv : bI 12 v) (hx : x < 2147483648) : bI 12 (gvM v x) := by
  obtain ⟨a, ha, rfl⟩ := hv
  unfold gvM
  rw [nI_l (by omega), lN_add, show (12 : Int64) = lN 12 from rfl, pk_lRem (by omega) (by omega) (by omega), lN_i]
  exact ⟨_, by omega, rfl⟩
def gsM (n : Nat) (F : Nat → Nat → Int32) (m x : Nat) : Nat → Nat → Int32 := if m < n then sfF F 1 m (gvM (F 1 m) x) else F
def guM (L : LT) (n : Nat) : Nat → Nat → FK → Int32 → Int32 × FK
  | 0, _, s, a => (a, s)
  | k + 1, x, s, a => guM L n k (nlM (nlM x)) (s1M L n (gsM n s.1 (nlM x % 6) (nlM (nlM x)), s.2)) (a + cuM L n (gsM n s.1 (nlM x % 6) (nlM (nlM x))) s.2)
theorem gs_b {CC EE : Nat → Nat} {s : FK} {m x : Nat} (hb : bs fu n lw s.1 s.2 CC EE) (hx : x < 2147483648) : bs fu n lw (gsM n s.1 m x) s.2 CC EE := by
  unfold gsM
  by_cases q : m < n
  · rw [if_pos q]; exact hb.f (gv_b (hb.2.2.2.2.2.1 m q) hx)
  · rw [if_neg q]; exact hb
theorem guC_loop {CC EE : Nat → Nat} : ∀ k i f x a (s : FK) z, i + k = 10 → k < f → x < 2147483648 → bs fu n lw s.1 s.2 CC EE → rC z 20 n lw s.1 s.2 → lC z (42 + 4 * lw) CC EE → ∃ Z, pR_cutByGusts_11 fu 20 f (lN x) a (nI i) z = some ((guM (saM CC EE) n k x s a).1, Z) ∧ rC Z 20 n lw (guM (saM CC EE) n k x s a).2.1 (guM (saM CC EE) n k x s a).2.2 ∧ EqQ z Z := by
  intro k
  induction k with
  | zero =>
    intro i f x a s z h1 h2 hx h3 h4 h5
    obtain ⟨f, rfl⟩ := fuS h2
    rw [pR_cutByGusts_11, if_pos (show (10 : Int32) ≤ nI i from nI_le (a := 10) (by omega) (by omega))]
    exact ⟨z, rfl, h4, EqQ.rf⟩
  | succ k ih =>
    intro i f x a s z h1 h2 hx h3 h4 h5
    obtain ⟨f, rfl⟩ := fuS h2
    have hl6 := h3.2.1
    have hn := h3.1
    have hx1 := nl_lt x
    have hx2 := nl_lt (nlM x)
    have hb1 := gs_b (m := nlM x % 6) h3 (x := nlM (nlM x)) (by omega)
    have fin : ∀ W, rC W 20 n lw (gsM n s.1 (nlM x % 6) (nlM (nlM x))) s.2 → EqQ z W → ∃ Z, pR_cutByGusts_71 fu 20 (pR_cutByGusts_11 fu 20 f) (lN (nlM (nlM x))) a (nI i) W = some ((guM (saM CC EE) n (k + 1) x s a).1, Z) ∧ rC Z 20 n lw (guM (saM CC EE) n (k + 1) x s a).2.1 (guM (saM CC EE) n (k + 1) x s a).2.2 ∧ EqQ z Z := fun W hW eW => by
      obtain ⟨Y, y1, y2, y3, y4⟩ := swC (Or.inr (Or.inl rfl)) hb1 hW (lc_q hl6 h5 eW)
      unfold pR_cutByGusts_71
      rw [y1, pv_bnd, pv_letm, pv_letm, nI_1]
      obtain ⟨Z, z1, z2, z3⟩ := ih (i + 1) f (nlM (nlM x)) (a + cuM (saM CC EE) n (gsM n s.1 (nlM x % 6) (nlM (nlM x))) s.2) (s1M (saM CC EE) n (gsM n s.1 (nlM x % 6) (nlM (nlM x)), s.2)) Y (by omega) (by omega) (by omega) hb1.next y2 (lc_q hl6 h5 (eW.tr y4.q20))
      exact ⟨Z, z1, z2, (eW.tr y4.q20).tr z3⟩
    rw [pR_cutByGusts_11, if_neg (show ¬ (10 : Int32) ≤ nI i from nI_ge (b := 10) (by omega) (by omega))]
    unfold pR_nextLot
    rw [nl_eq hx, pv_bnd, pv_letm, pv_letm, m6_eq (by omega), nl_eq (by omega), pv_bnd, pv_letm, h4.1]
    by_cases q : nlM x % 6 < n
    · rw [if_neg (nI_ge q (by omega)), pv_inb (by omega) (by omega), pv_chk, pv_chk, pv_letm, pv_sa (by omega), pv_ga (by omega), h4.2.2.2.1 _ q]
      refine fin _ ?_ (eq_u EqQ.rf (by unfold QC; omega))
      unfold gsM
      rw [if_pos q]
      exact h4.f (w := 1) (by omega)
    · rw [if_pos (nI_le (by omega) (by omega))]
      refine fin z ?_ EqQ.rf
      unfold gsM
      rw [if_neg q]
      exact h4
theorem guMr_loop {CC EE : Nat → Nat} {y z0 : Sg} (hy : kptM z0 y) : ∀ k i f x a (s : FK) z, i + k = 10 → k < f → x < 2147483648 → bs fu n lw s.1 s.2 CC EE → rM z n lw s.1 s.2 → lM z lw CC EE → EqN y z → ∃ Z, pM_gusts_15 fu f (lN x) a (nI i) z = some ((guM (saM CC EE) n k x s a).1, Z) ∧ Z 78 33 = isM n (guM (saM CC EE) n k x s a).2.1 (guM (saM CC EE) n k x s a).2.2 ∧ ∀ c j, ¬ (94 ≤ c ∧ c ≤ 97) → ¬ (c = 78 ∧ j = 33) → Z c j = z0 c j := by
  intro k
  induction k with
  | zero =>
    intro i f x a s z h1 h2 hx h3 h4 h5 h6
    obtain ⟨f, rfl⟩ := fuS h2
    have hn := h3.1
    have hfu := h3.2.2.2.1
    obtain ⟨Z, z1, z2, z3, z4⟩ := layMr1 (fu := fu) (y := u2 z 78 33 (isM n s.1 s.2)) (by omega) 18 0 fu (u2 z 78 33 (isM n s.1 s.2)) (by omega) (by omega) (fun _ _ _ => rfl) (fun j hj => absurd hj (by omega))
    rw [pM_gusts_15, if_pos (show (10 : Int32) ≤ nI i from nI_le (a := 10) (by omega) (by omega)), isMr h4 hn (by omega), pv_bnd, pv_letm]
    unfold pM_lays
    rw [show pM_lays_2 fu fu 0 (u2 z 78 33 (isM n s.1 s.2)) = _ from z1, pv_bndv]
    refine ⟨Z, rfl, ?_, fun c j c1 c2 => ?_⟩
    · rw [z2 78 33 (by omega) (by omega), pv_u2, if_pos ⟨rfl, rfl⟩]; rfl
    · have eu : ∀ c j, ¬ (c = 78 ∧ j = 33) → (u2 z 78 33 (isM n s.1 s.2)) c j = z c j := fun c j hc => by rw [pv_u2, if_neg hc]
      by_cases e1 : c = 81 ∧ j < 18
      · obtain ⟨rfl, hj⟩ := e1
        rw [z3 j hj, eu 97 j (by omega), h6 97 j (by omega) (by omega) (by omega) (by omega) (by omega)]; exact hy.2.1 j hj
      · by_cases e2 : c = 82 ∧ j < 5
        · obtain ⟨rfl, hj⟩ := e2
          rw [z4 j hj, eu 97 _ (by omega), h6 97 _ (by omega) (by omega) (by omega) (by omega) (by omega)]; exact hy.2.2 j hj
        · rw [z2 c j (by omega) (by omega), eu c j c2, h6 c j (by omega) (by omega) (by omega) (by omega) (by omega)]; exact hy.1 c j (by omega)
  | succ k ih =>
    intro i f x a s z h1 h2 hx h3 h4 h5 h6
    obtain ⟨f, rfl⟩ := fuS h2
    have hn := h3.1
    have hx1 := nl_lt x
    have hx2 := nl_lt (nlM x)
    have hb1 := gs_b (m := nlM x % 6) h3 (x := nlM (nlM x)) (by omega)
    have fin : ∀ W, rM W n lw (gsM n s.1 (nlM x % 6) (nlM (nlM x))) s.2 → lM W lw CC EE → EqN y W → ∃ Z, pM_gusts_94 fu (pM_gusts_15 fu f) (lN (nlM (nlM x))) a (nI i) W = some ((guM (saM CC EE) n (k + 1) x s a).1, Z) ∧ Z 78 33 = isM n (guM (saM CC EE) n (k + 1) x s a).2.1 (guM (saM CC EE) n (k + 1) x s a).2.2 ∧ ∀ c j, ¬ (94 ≤ c ∧ c ≤ 97) → ¬ (c = 78 ∧ j = 33) → Z c j = z0 c j := fun W hW lW eW => by
      obtain ⟨Y, y1, y2, y4⟩ := swMr hb1 hW lW
      unfold pM_gusts_94
      rw [y1, pv_bnd, pv_letm, pv_letm, nI_1]
      exact ih (i + 1) f (nlM (nlM x)) (a + cuM (saM CC EE) n (gsM n s.1 (nlM x % 6) (nlM (nlM x))) s.2) (s1M (saM CC EE) n (gsM n s.1 (nlM x % 6) (nlM (nlM x)), s.2)) Y (by omega) (by omega) (by omega) hb1.next y2 (lW.n y4) (eW.tr y4)
    rw [pM_gusts_15, if_neg (show ¬ (10 : Int32) ≤ nI i from nI_ge (b := 10) (by omega) (by omega)), nl_eq hx, pv_letm, m6_eq (by omega), cl_within, pv_bnd, nl_eq (by omega), pv_letm, show (if (0 : Int32) ≤ nI (nlM x % 6) then (if nI (nlM x % 6) ≤ 5 then nI (nlM x % 6) else 5) else 0) = nI (nlM x % 6) from by rw [if_pos (nI_pos' (by omega)), if_pos (show nI (nlM x % 6) ≤ 5 from nI_le (b := 5) (by omega) (by omega))], h4.1]
    by_cases q : nlM x % 6 < n
    · rw [if_neg (nI_ge q (by omega)), l_3, pk_mul, nI_1, pv_inb (by omega) (by omega), pv_chk, pv_chk, pv_letm, pv_sa (by omega), pv_ga (by omega), h4.2.2.2.1 _ q]
      refine fin _ ?_ (h5.at (fun c j hc => by rw [pv_u2, if_neg (by omega)])) (fun c j c1 c2 c3 c4 c5 => by rw [pv_u2, if_neg (by omega)]; exact h6 c j c1 c2 c3 c4 c5)
      unfold gsM
      rw [if_pos q]
      exact h4.f (w := 1) (c0 := 81) (j0 := 3 * (nlM x % 6) + 1) (by omega) (fun c j _ c2 => by rw [pv_u2, if_neg c2]) (by rw [pv_u2, if_pos ⟨rfl, rfl⟩]; rfl)
    · rw [if_pos (nI_le (by omega) (by omega))]
      refine fin z ?_ h5 h6
      unfold gsM
      rw [if_neg q]
      exact h4
theorem seed_eq {x : Nat} (hx : x < 2147483647) : (nI x).toInt64 + 1 = lN (x + 1) := by
  rw [nI_l (by omega), lN_1]
theorem guC (hf : 50000 ≤ fu) {y z : Sg} (h : InvP y n lw tc ts F K C E) (e : EqQ y z) {x : Nat} (hx : x < 1000000) : ∃ Y, pR_become fu 20 9 z = some Y ∧ ∃ Z, pR_cutByGusts fu 20 (nI x) Y = some ((guM (saM (C lw) (E lw)) n 10 (x + 1) (F, K) 0).1, Z) ∧ rC Z 20 n lw (guM (saM (C lw) (E lw)) n 10 (x + 1) (F, K) 0).2.1 (guM (saM (C lw) (E lw)) n 10 (x + 1) (F, K) 0).2.2 ∧ EqQ y Z := by
  have hz := h.i e.i
  obtain ⟨Y, t1, t2, t3, t4⟩ := ip_think (fu := fu) hf hz
  obtain ⟨Z, z1, z2, z3⟩ := guC_loop (fu := fu) 10 0 fu (x + 1) 0 (F, K) Y (by omega) (by omega) (by omega) (hz.bs (by omega)) t2 t4
  refine ⟨Y, t1, Z, ?_, z2, (e.tr t3).tr z3⟩
  unfold pR_cutByGusts
  rw [seed_eq (by omega), pv_letm]
  exact z1
theorem guMr (hf : 50000 ≤ fu) {y z : Sg} (h : InvP y n lw tc ts F K C E) (e : EqR y z) {x : Nat} (hx : x < 1000000) : ∃ Z, pM_gusts fu (nI x) z = some ((guM (saM (C lw) (E lw)) n 10 (x + 1) (F, K) 0).1, Z) ∧ Z 78 33 = isM n (guM (saM (C lw) (E lw)) n 10 (x + 1) (F, K) 0).2.1 (guM (saM (C lw) (E lw)) n 10 (x + 1) (F, K) 0).2.2 ∧ EqR y Z := by
  have hz := h.i e.i
  obtain ⟨w, w1, w2⟩ := keepMr (fu := fu) (by omega) z
  obtain ⟨Z, z1, z2, z3⟩ := guMr_loop (fu := fu) w2 10 0 fu (x + 1) 0 (F, K) w (by omega) (by omega) (by omega) (hz.bs (by omega)) (hz.1.2.1.kpt w2) (hz.lM.kpt w2) EqN.rf
  refine ⟨Z, ?_, z2, e.tr (fun c j hc => z3 c j (fun q => hc (by unfold QM; omega)) (fun q => hc (by unfold QM; omega)))⟩
  unfold pM_gusts
  rw [seed_eq (by omega), pv_letm, w1, pv_bndv]
  exact z1
theorem st_drawn {fu : Nat} (hf : 50000 ≤ fu) (z : Sg) (a1 a2 : Int32) (h : Inv z) : ∃ (r : Int32) (z1 z2 : Sg), pS_drawn fu a1 a2 z = some (r, z1) ∧ pM_drawn fu a1 a2 z1 = some (r, z2) ∧ Inv z2 := by
  obtain ⟨n, lw, tc, ts, F, K, C, E, h⟩ := h
  have hI : Inv z := ⟨n, lw, tc, ts, F, K, C, E, h⟩
  have hn := h.1.2.2.1.1
  rcases wi_cases (M := 99999) (k := 99999) rfl (by omega) a1 with ⟨c1, c2⟩ | ⟨x, hx, rfl, c1, c2⟩
  · exact ⟨-2, z, z, by unfold pS_drawn; rw [c1, pv_bnd, if_pos rfl], by unfold pM_drawn; rw [c2, pv_bnd, if_pos rfl], hI⟩
  · rcases wi_cases (M := 1) (k := 1) rfl (by omega) a2 with ⟨e1, e2⟩ | ⟨v, hv, rfl, e1, e2⟩
    · exact ⟨-2, z, z, by unfold pS_drawn; rw [c1, pv_bnd, if_neg (by decide), e1, pv_bnd, if_pos rfl], by unfold pM_drawn; rw [c2, pv_bnd, if_neg (by decide), e2, pv_bnd, if_pos rfl], hI⟩
    · refine ask2 h (if nI v = 0 then (guM (saM (C lw) (E lw)) n 10 (x + 1) (F, K) 0).1 else isM n (guM (saM (C lw) (E lw)) n 10 (x + 1) (F, K) 0).2.1 (guM (saM (C lw) (E lw)) n 10 (x + 1) (F, K) 0).2.2) ?_ (fun y hy _ => ?_)
      · obtain ⟨Y, t1, Z, z1, z2, z3⟩ := guC (fu := fu) hf h EqQ.rf (x := x) (by omega)
        refine ⟨Z, ?_, z3⟩
        unfold pS_drawn
        rw [c1, pv_bnd, if_neg (by decide), e1, pv_bnd, if_neg (by decide), t1, pv_bndv, z1, pv_bnd, isnC z2 hn (by omega), pv_bnd]
        by_cases q : nI v = 0
        · rw [if_pos q, if_pos q]
        · rw [if_neg q, if_neg q]
      · obtain ⟨Z, z1, z2, z3⟩ := guMr (fu := fu) hf hy EqR.rf (x := x) (by omega)
        refine ⟨Z, ?_, z3⟩
        unfold pM_drawn
        rw [c2, pv_bnd, if_neg (by decide), e2, pv_bnd, if_neg (by decide), z1, pv_bnd, z2]
        by_cases q : nI v = 0
        · rw [if_pos q, if_pos q]
        · rw [if_neg q, if_neg q]
def odM (L : LT) (n : Nat) (s : FK) (x least : Nat) : Nat → Nat → Nat → Nat
  | 0, _, c => c
  | k + 1, i, c => odM L n s x least k (i + 1) (if (guM L n 10 (x + i + 1) s 0).1 < nI least then c else c + 1)
theorem odM_b (L : LT) (n : Nat) (s : FK) (x least : Nat) : ∀ k i c, odM L n s x least k i c ≤ c + k := by
  intro k
  induction k with
  | zero => intro i c; exact Nat.le_refl _
  | succ k ih =>
    intro i c
    unfold odM
    split
    · have := ih (i + 1) c; omega
    · have := ih (i + 1) (c + 1); omega
theorem odC_loop (hf : 50000 ≤ fu) {y : Sg} (h : InvP y n lw tc ts F K C E) {x N least p : Nat} (hx : x ≤ 99999) (hN0 : 0 < N) (hN : N ≤ 40) (hp : p < 2) : ∀ k i f c z, i + k = N → k < f → c ≤ i → EqQ y z → ∃ Z, pS_odds_52 fu f (nI x) (nI N) (nI least) (nI p) (nI c) (nI i) z = some (ltM (odM (saM (C lw) (E lw)) n (F, K) x least k i c) N p, Z) ∧ EqQ y Z := by
  intro k
  induction k with
  | zero =>
    intro i f c z h1 h2 hc h3
    obtain ⟨f, rfl⟩ := fuS h2
    rw [pS_odds_52, if_pos (nI_le (by omega) (by omega)), gcC (by omega) (by omega) hN0 (by omega) hp, pv_bnd]
    exact ⟨z, rfl, h3⟩
  | succ k ih =>
    intro i f c z h1 h2 hc h3
    obtain ⟨f, rfl⟩ := fuS h2
    obtain ⟨Y, t1, Z, z1, z2, z3⟩ := guC (fu := fu) hf h h3 (x := x + i) (by omega)
    rw [pS_odds_52, if_neg (nI_ge (by omega) (by omega)), t1, pv_bndv, nI_add, z1, pv_bnd, odM]
    unfold pS_odds_87
    rw [pv_letm, pv_letm, pv_letm, nI_1, nI_1]
    by_cases q : (guM (saM (C lw) (E lw)) n 10 (x + i + 1) (F, K) 0).1 < nI least
    · rw [if_pos q, if_pos q]
      exact ih (i + 1) f c Z (by omega) (by omega) (by omega) z3
    · rw [if_neg q, if_neg q]
      exact ih (i + 1) f (c + 1) Z (by omega) (by omega) (by omega) z3
theorem odMr_loop (hf : 50000 ≤ fu) {y : Sg} (h : InvP y n lw tc ts F K C E) {x N least p : Nat} (hx : x ≤ 99999) (hN0 : 0 < N) (hN : N ≤ 40) (hp : p < 2) : ∀ k i f c z, i + k = N → k < f → c ≤ i → EqR y z → ∃ Z, pM_odds_51 fu f (nI x) (nI N) (nI least) (nI p) (lN c) (nI i) z = some (ltM (odM (saM (C lw) (E lw)) n (F, K) x least k i c) N p, Z) ∧ EqR y Z := by
  intro k
  induction k with
  | zero =>
    intro i f c z h1 h2 hc h3
    obtain ⟨f, rfl⟩ := fuS h2
    rw [pM_odds_51, if_pos (nI_le (by omega) (by omega)), nI_l (by omega), gcMr (by omega) (by omega) hN0 (by omega) hp, pv_bnd]
    exact ⟨z, rfl, h3⟩
  | succ k ih =>
    intro i f c z h1 h2 hc h3
    obtain ⟨f, rfl⟩ := fuS h2
    obtain ⟨Z, z1, z2, z3⟩ := guMr (fu := fu) hf h h3 (x := x + i) (by omega)
    rw [pM_odds_51, if_neg (nI_ge (by omega) (by omega)), nI_add, z1, pv_bnd, odM]
    unfold pM_odds_76
    rw [pv_letm, pv_letm, pv_letm, pv_letm, nI_1, show lN c + 0 = lN c from Int64.add_zero _, lN_1]
    by_cases q : (guM (saM (C lw) (E lw)) n 10 (x + i + 1) (F, K) 0).1 < nI least
    · rw [if_pos q, if_pos q]
      exact ih (i + 1) f c Z (by omega) (by omega) (by omega) z3
    · rw [if_neg q, if_neg q]
      exact ih (i + 1) f (c + 1) Z (by omega) (by omega) (by omega) z3
theorem st_odds {fu : Nat} (hf : 50000 ≤ fu) (z : Sg) (a1 a2 a3 a4 : Int32) (h : Inv z) : ∃ (r : Int64) (z1 z2 : Sg), pS_odds fu a1 a2 a3 a4 z = some (r, z1) ∧ pM_odds fu a1 a2 a3 a4 z1 = some (r, z2) ∧ Inv z2 := by
  obtain ⟨n, lw, tc, ts, F, K, C, E, h⟩ := h
  have hI : Inv z := ⟨n, lw, tc, ts, F, K, C, E, h⟩
  have hn := h.1.2.2.1.1
  have h61 : ∀ v : Int32, (v < 1 ∨ 40 < v) → ∀ X : Option (Int64 × Sg), (if v < 1 then some (-4611686018427387904, z) else if v ≤ 40 then X else some (-4611686018427387904, z)) = some (-4611686018427387904, z) := fun v hv X => by
    by_cases q : v < 1
    · rw [if_pos q]
    · rw [if_neg q, if_neg (fun w => by
        rcases hv with hv | hv
        · exact q hv
        · rw [Int32.lt_iff_toInt_lt] at hv; rw [Int32.le_iff_toInt_le] at w; omega)]
  rcases wi_cases (M := 99999) (k := 99999) rfl (by omega) a1 with ⟨c1, c2⟩ | ⟨x, hx, rfl, c1, c2⟩
  · exact ⟨-4611686018427387904, z, z, by unfold pS_odds; rw [c1, pv_bnd, if_pos rfl], by unfold pM_odds; rw [c2, pv_bnd, if_pos rfl], hI⟩
  · rcases in_cases (A := 1) (M := 40) (a := 1) (k := 40) rfl rfl (by omega) (by omega) a2 with ⟨d1, hd⟩ | ⟨N, hN1, hN2, rfl, hd1, hd2, d1⟩
    · exact ⟨-4611686018427387904, z, z, by unfold pS_odds; rw [c1, pv_bnd, if_neg (by decide)]; exact h61 a2 hd _, by unfold pM_odds; rw [c2, pv_bnd, if_neg (by decide), d1, pv_bnd, if_pos rfl], hI⟩
    · have hle : nI N ≤ 40 := nI_le (b := 40) hN2 (by omega)
      rcases wi_cases (M := 99) (k := 99) rfl (by omega) a3 with ⟨e1, e2⟩ | ⟨least, hl, rfl, e1, e2⟩
      · exact ⟨-4611686018427387904, z, z, by unfold pS_odds; rw [c1, pv_bnd, if_neg (by decide), if_neg hd1, if_pos hle, e1, pv_bnd, if_pos rfl], by unfold pM_odds; rw [c2, pv_bnd, if_neg (by decide), d1, pv_bnd, if_neg (by decide), e2, pv_bnd, if_pos rfl], hI⟩
      · rcases wi_cases (M := 1) (k := 1) rfl (by omega) a4 with ⟨g1, g2⟩ | ⟨p, hp, rfl, g1, g2⟩
        · exact ⟨-4611686018427387904, z, z, by unfold pS_odds; rw [c1, pv_bnd, if_neg (by decide), if_neg hd1, if_pos hle, e1, pv_bnd, if_neg (by decide), g1, pv_bnd, if_pos rfl], by unfold pM_odds; rw [c2, pv_bnd, if_neg (by decide), d1, pv_bnd, if_neg (by decide), e2, pv_bnd, if_neg (by decide), g2, pv_bnd, if_pos rfl], hI⟩
        · refine ask2 h (ltM (odM (saM (C lw) (E lw)) n (F, K) x least N 0 0) N p) ?_ (fun y hy _ => ?_)
          · obtain ⟨Z, z1, z2⟩ := odC_loop (fu := fu) hf h (x := x) (N := N) (least := least) (p := p) hx (by omega) hN2 (by omega) N 0 fu 0 z (by omega) (by omega) (by omega) EqQ.rf
            refine ⟨Z, ?_, z2⟩
            unfold pS_odds
            rw [c1, pv_bnd, if_neg (by decide), if_neg hd1, if_pos hle, e1, pv_bnd, if_neg (by decide), g1, pv_bnd, if_neg (by decide)]
            exact z1
          · obtain ⟨Z, z1, z2⟩ := odMr_loop (fu := fu) hf hy (x := x) (N := N) (least := least) (p := p) hx (by omega) hN2 (by omega) N 0 fu 0 y (by omega) (by omega) (by omega) EqR.rf
            refine ⟨Z, ?_, z2⟩
            unfold pM_odds
            rw [c2, pv_bnd, if_neg (by decide), d1, pv_bnd, if_neg (by decide), e2, pv_bnd, if_neg (by decide), g2, pv_bnd, if_neg (by decide), pv_letm]
            exact z1
end ODDS
