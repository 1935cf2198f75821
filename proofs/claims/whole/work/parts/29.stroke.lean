/-! a stroke, told once for both -/
def mo12 (x : Int32) : Int32 := x - x / 12 * 12
def tc99 (x : Int32) : Int32 := if 0 ≤ x then (if x ≤ 99 then x else 99) else 0
def faM (L : LT) (n : Nat) (F : Nat → Nat → Int32) (K : Nat → Int32) (m : Nat) : Int32 := if F 2 m < 99 then hfM L n F K m else 0
def stF (L : LT) (n : Nat) (F : Nat → Nat → Int32) (K : Nat → Int32) : Nat → Nat → Int32 := fun w m => if w = 1 then mo12 (F 1 m + faM L n F K m) else if w = 2 then tc99 (F 2 m + htM L n F K m) else F w m
def stK (K : Nat → Int32) : Nat → Int32 := fun i => if i = 1 then mo12 (K 1 + K 2) else if i = 3 then K 3 + 1 else K i
def ctM (L : LT) (n : Nat) (F : Nat → Nat → Int32) (K : Nat → Int32) : Nat → Nat → Int32 → Int32
  | 0, _, a => a
  | k + 1, m, a => ctM L n F K k (m + 1) (if F 1 m + faM L n F K m < 12 then a else a + 1)
/-- how much is cut by the stroke -/
def cuM (L : LT) (n : Nat) (F : Nat → Nat → Int32) (K : Nat → Int32) : Int32 := ctM L n F K n 0 0
section BND
variable {n m : Nat} {F : Nat → Nat → Int32} {K : Nat → Int32} {C E : Nat → Nat}
theorem hf_b (h8 : bF n F K) (hn : n ≤ 6) (h3 : m < n) : bI 12 (hfM (saM C E) n F K m) := by
  obtain ⟨o, ho, eo⟩ := h8.2.2.2.2.1 m h3
  obtain ⟨a, ha, ea⟩ := sa_b (C := C) (E := E) (p := 0) (by omega) (nxM n F K m)
  have b0 : bI 100 (saM C E 0 (nxM n F K m)) := ⟨a, by omega, ea⟩
  have b1 : bI 100 (saM C E 0 (nxM n F K m) + 1) := ⟨a + 1, by omega, by rw [ea, nI_1]⟩
  have b3 : bI 100 (saM C E 0 (nxM n F K m) + F 4 m / 3) := ⟨a + o / 3, by omega, by rw [ea, eo, l_3, pk_div (by omega) (by omega) (by omega), nI_add]⟩
  have b4 : bI 100 ((saM C E 0 (nxM n F K m) + F 4 m / 3) * 2) := ⟨(a + o / 3) * 2, by omega, by rw [ea, eo, l_3, pk_div (by omega) (by omega) (by omega), nI_add, l_2, pk_mul]⟩
  unfold hfM
  split
  · split
    · exact ⟨0, by omega, rfl⟩
    · obtain ⟨x, hx, ex⟩ := ke_b (C := C) (E := E) h8 h3
      obtain ⟨y, hy, ey⟩ := h8.2.1 m h3
      rw [ex, ey]
      obtain ⟨c, hc, e⟩ := fm_b x hx y hy
      exact ⟨c, hc, e⟩
  · split
    · split
      · exact (c11_b (by omega) b0).1
      · exact (c11_b (by omega) b1).1
    · split
      · exact (c11_b (by omega) b3).1
      · split
        · exact (c11_b (by omega) b4).1
        · exact (c11_b (by omega) b0).1
theorem fa_b (h8 : bF n F K) (hn : n ≤ 6) (h3 : m < n) : bI 12 (faM (saM C E) n F K m) := by
  unfold faM
  split
  · exact hf_b h8 hn h3
  · exact ⟨0, by omega, rfl⟩
theorem mo_b {x y : Int32} (hx : bI 12 x) (hy : bI 12 y) : bI 12 (mo12 (x + y)) := by
  obtain ⟨a, ha, rfl⟩ := hx
  obtain ⟨b, hb, rfl⟩ := hy
  unfold mo12
  rw [nI_add, l_12, pk_rem (by omega) (by omega) (by omega)]
  exact ⟨_, by omega, rfl⟩
theorem tc_b (x : Int32) : bI 100 (tc99 x) := by
  unfold tc99
  by_cases h : (0 : Int32) ≤ x
  · rw [if_pos h]
    by_cases h2 : x ≤ 99
    · rw [if_pos h2]
      obtain ⟨j, h3, h4⟩ := nI_of2 (M := 99) (n := 99) (by decide) (fun q => by rw [Int32.lt_iff_toInt_lt] at q; rw [Int32.le_iff_toInt_le] at h; omega) h2
      exact ⟨j, by omega, h4⟩
    · rw [if_neg h2]; exact ⟨99, by omega, rfl⟩
  · rw [if_neg h]; exact ⟨0, by omega, rfl⟩
theorem st_b (h : bF n F K) (hn : n ≤ 6) : bF n (stF (saM C E) n F K) (stK K) :=
  ⟨h.1, fun m hm => mo_b (h.2.1 m hm) (fa_b h hn hm), fun m hm => tc_b _, h.2.2.2.1, h.2.2.2.2.1, h.2.2.2.2.2.1, mo_b h.2.2.2.2.2.2.1 h.2.2.2.2.2.2.2, h.2.2.2.2.2.2.2⟩
end BND
/-- what a stroke of the row r writes -/
def SW (r c j : Nat) : Prop := SC r c j ∨ c = r + 1 ∨ c = r + 4 ∨ c = r + 5
def EqW (r : Nat) (z Z : Sg) : Prop := ∀ c j, ¬ SW r c j → Z c j = z c j
theorem EqW.rf {r : Nat} {z : Sg} : EqW r z z := fun _ _ _ => rfl
theorem EqW.tr {r : Nat} {z Z Y : Sg} (h1 : EqW r z Z) (h2 : EqW r Z Y) : EqW r z Y := fun c j h => (h2 c j h).trans (h1 c j h)
theorem EqS.w {r : Nat} {z Z : Sg} (h : EqS r z Z) : EqW r z Z := fun c j hc => h c j (fun q => hc (Or.inl q))
/-- what both rest on -/
def bs (fu n lw : Nat) (F : Nat → Nat → Int32) (K : Nat → Int32) (C E : Nat → Nat) : Prop := n ≤ 6 ∧ lw < 6 ∧ tOK C E ∧ 1000 ≤ fu ∧ bF n F K
section SWC
variable {fu r n lw : Nat} {z : Sg} {F : Nat → Nat → Int32} {K : Nat → Int32} {C E : Nat → Nat}
theorem sw1_loop (hr : isRow r) (hb : bs fu n lw F K C E) (h0 : rC z r n lw F K) (hl : lC z (42 + 4 * lw) C E) : ∀ k m f y, m + k = n → k < f → EqS r z y → (∀ i, i < m → y (r + 9) i = faM (saM C E) n F K i ∧ y (r + 10) i = htM (saM C E) n F K i) → ∃ Y, pR_swingOn_2 fu r f (nI m) y = pR_swingOn_62 fu r fu 0 0 Y ∧ EqS r z Y ∧ ∀ i, i < n → Y (r + 9) i = faM (saM C E) n F K i ∧ Y (r + 10) i = htM (saM C E) n F K i := by
  obtain ⟨hn, hw, ht, hf, h9⟩ := hb
  intro k
  induction k with
  | zero =>
    intro m f y h1 h2 h3 h4
    obtain ⟨f, rfl⟩ := fuS h2
    have hy := h0.eqS hr h3
    rw [pR_swingOn_2, hy.1, if_pos (nI_le (by omega) (by omega))]
    exact ⟨y, rfl, h3, fun i hi => h4 i (by omega)⟩
  | succ k ih =>
    intro m f y h1 h2 h3 h4
    obtain ⟨f, rfl⟩ := fuS h2
    have hy := h0.eqS hr h3
    obtain ⟨y1, a1, a2, a3⟩ := lookC (fu := fu) hr hy hn (by omega) (m := m) (by omega)
    have q1 : qC fu y1 r n lw m F K C E := ⟨hr, a3, hn, by omega, hw, ht, hl.s hr (by omega) (h3.tr a2.s), hf, h9⟩
    have n1 : ∀ c, c = r + 9 ∨ c = r + 10 → ∀ j, y1 c j = y c j := fun c hc j => a2 c j (by omega)
    obtain ⟨t, ht1, ht2⟩ := h9.2.2.1 m (by omega)
    have tail : ∀ (v : Int32) (w : Sg), EqT y1 w → ∃ W, pR_swingOn_41 fu r (pR_swingOn_2 fu r f) (nI m) (nI m) v w = pR_swingOn_2 fu r f (nI (m + 1)) W ∧ EqS r z W ∧ W (r + 9) m = v ∧ W (r + 10) m = htM (saM C E) n F K m ∧ ∀ i, i ≠ m → W (r + 9) i = y (r + 9) i ∧ W (r + 10) i = y (r + 10) i := by
      intro v w hw1
      have nST : ∀ k, k ≤ 10 → ¬ ST (r + k) := fun k hk q => by unfold ST isRow at *; omega
      unfold pR_swingOn_41
      rw [pv_inb (by omega) (by omega), pv_chk, pv_letm, pv_sa (by omega)]
      have q2 : qC fu (u2 w (r + 9) m v) r n lw m F K C E := by
        have e : EqS r y1 (u2 w (r + 9) m v) := hw1.s.u (Or.inr (Or.inl (by omega)))
        refine ⟨hr, ⟨a3.1.eqS hr e, ?_, fun j hj => ?_⟩, hn, by omega, hw, ht, (hl.s hr (by omega) (h3.tr a2.s)).s hr (by omega) e, hf, h9⟩
        · rw [pv_u2, if_neg (by omega), hw1 r 6 (nST 0 (by omega))]; exact a3.2.1
        · rw [pv_u2, if_neg (by omega), hw1 (r + 8) j (nST 8 (by omega))]; exact a3.2.2 j hj
      obtain ⟨x, x1, x2⟩ := htC q2
      rw [x1, pv_bnd, pv_chk, pv_letm, pv_letm, pv_sa (by omega), nI_1]
      refine ⟨_, rfl, ?_, ?_, ?_, fun i hi => ⟨?_, ?_⟩⟩
      · exact (((h3.tr a2.s).tr hw1.s).u (Or.inr (Or.inl (by omega)))).tr x2.s |>.u (Or.inr (Or.inl (by omega)))
      · rw [pv_u2, if_neg (by omega), x2 _ _ (nST 9 (by omega)), pv_u2, if_pos ⟨rfl, rfl⟩]
      · rw [pv_u2, if_pos ⟨rfl, rfl⟩]
      · rw [pv_u2, if_neg (by omega), x2 _ _ (nST 9 (by omega)), pv_u2, if_neg (by omega), hw1 _ _ (nST 9 (by omega)), n1 _ (Or.inl rfl)]
      · rw [pv_u2, if_neg (by omega), x2 _ _ (nST 10 (by omega)), pv_u2, if_neg (by omega), hw1 _ _ (nST 10 (by omega)), n1 _ (Or.inr rfl)]
    have go : ∀ (W : Sg), EqS r z W → W (r + 9) m = faM (saM C E) n F K m → W (r + 10) m = htM (saM C E) n F K m → (∀ i, i ≠ m → W (r + 9) i = y (r + 9) i ∧ W (r + 10) i = y (r + 10) i) → ∃ Y, pR_swingOn_2 fu r f (nI (m + 1)) W = pR_swingOn_62 fu r fu 0 0 Y ∧ EqS r z Y ∧ ∀ i, i < n → Y (r + 9) i = faM (saM C E) n F K i ∧ Y (r + 10) i = htM (saM C E) n F K i := by
      intro W w1 w2 w3 w4
      refine ih (m + 1) f W (by omega) (by omega) w1 (fun i hi => ?_)
      by_cases e : i = m
      · rw [e]; exact ⟨w2, w3⟩
      · rw [(w4 i e).1, (w4 i e).2]; exact h4 i (by omega)
    rw [pR_swingOn_2, hy.1, if_neg (nI_ge (by omega) (by omega)), a1, pv_bndv, pv_inb (by omega) (by omega), pv_chk, pv_ga (by omega), a3.1.2.2.2.2.1 m (by omega)]
    by_cases ht99 : F 2 m < 99
    · rw [if_pos ht99]
      obtain ⟨x, x1, x2⟩ := hfC q1
      rw [x1, pv_bnd]
      obtain ⟨W, w1, w2, w3, w4, w5⟩ := tail (hfM (saM C E) n F K m) x x2
      rw [w1]
      exact go W w2 (by rw [w3]; unfold faM; rw [if_pos ht99]) w4 w5
    · rw [if_neg ht99]
      obtain ⟨W, w1, w2, w3, w4, w5⟩ := tail 0 y1 EqT.rf
      rw [w1]
      exact go W w2 (by rw [w3]; unfold faM; rw [if_neg ht99]) w4 w5
theorem tc_two (x : Int32) : (if 0 < (if x < 99 then x else 99) then (if x < 99 then x else 99) else 0) = tc99 x := cl_two (by decide)
theorem sw2_loop (hr : isRow r) (hb : bs fu n lw F K C E) {y0 : Sg} (h0 : rC y0 r n lw F K) (hq : ∀ i, i < n → y0 (r + 9) i = faM (saM C E) n F K i ∧ y0 (r + 10) i = htM (saM C E) n F K i) : ∀ k m f a y, m + k = n → k < f → (∀ c j, c ≠ r + 4 → c ≠ r + 5 → y c j = y0 c j) → (∀ i, i < m → y (r + 4) i = stF (saM C E) n F K 1 i ∧ y (r + 5) i = stF (saM C E) n F K 2 i) → (∀ i, m ≤ i → y (r + 4) i = y0 (r + 4) i ∧ y (r + 5) i = y0 (r + 5) i) → ∃ Y, pR_swingOn_62 fu r f a (nI m) y = some (ctM (saM C E) n F K k m a, Y) ∧ (∀ c j, c ≠ r + 4 → c ≠ r + 5 → c ≠ r + 1 → Y c j = y0 c j) ∧ (∀ i, i < n → Y (r + 4) i = stF (saM C E) n F K 1 i ∧ Y (r + 5) i = stF (saM C E) n F K 2 i) ∧ Y (r + 1) 0 = K 0 ∧ Y (r + 1) 1 = stK K 1 ∧ Y (r + 1) 2 = K 2 ∧ Y (r + 1) 3 = stK K 3 ∧ Y (r + 1) 4 = (if y0 (r + 1) 4 + ctM (saM C E) n F K k m a < 9999 then y0 (r + 1) 4 + ctM (saM C E) n F K k m a else 9999) := by
  obtain ⟨hn, hw, ht, hf, h9⟩ := hb
  intro k
  induction k with
  | zero =>
    intro m f a y h1 h2 h3 h4 h5
    obtain ⟨f, rfl⟩ := fuS h2
    have e1 : y r 3 = nI n := by rw [h3 r 3 (by omega) (by omega)]; exact h0.1
    have k0 : y (r + 1) 0 = K 0 := by rw [h3 _ _ (by omega) (by omega)]; exact h0.2.2.2.2.2.2.2.1
    have k1 : y (r + 1) 1 = K 1 := by rw [h3 _ _ (by omega) (by omega)]; exact h0.2.2.2.2.2.2.2.2.1
    have k2 : y (r + 1) 2 = K 2 := by rw [h3 _ _ (by omega) (by omega)]; exact h0.2.2.2.2.2.2.2.2.2.1
    have k3 : y (r + 1) 3 = K 3 := by rw [h3 _ _ (by omega) (by omega)]; exact h0.2.2.2.2.2.2.2.2.2.2
    have k4 : y (r + 1) 4 = y0 (r + 1) 4 := h3 _ _ (by omega) (by omega)
    rw [pR_swingOn_62, e1, if_pos (nI_le (by omega) (by omega)), pv_letm, pv_letm, pv_letm]
    refine ⟨_, rfl, fun c j c1 c2 c3 => ?_, fun i hi => ⟨?_, ?_⟩, ?_, ?_, ?_, ?_, ?_⟩
    · rw [pv_u2, if_neg (by omega), pv_u2, if_neg (by omega), pv_u2, if_neg (by omega)]; exact h3 c j c1 c2
    · rw [pv_u2, if_neg (by omega), pv_u2, if_neg (by omega), pv_u2, if_neg (by omega)]; exact (h4 i (by omega)).1
    · rw [pv_u2, if_neg (by omega), pv_u2, if_neg (by omega), pv_u2, if_neg (by omega)]; exact (h4 i (by omega)).2
    · rw [pv_u2, if_neg (by omega), pv_u2, if_neg (by omega), pv_u2, if_neg (by omega)]; exact k0
    · rw [pv_u2, if_neg (by omega), pv_u2, if_neg (by omega), pv_u2, if_pos ⟨rfl, rfl⟩, k1, k2]; rfl
    · rw [pv_u2, if_neg (by omega), pv_u2, if_neg (by omega), pv_u2, if_neg (by omega)]; exact k2
    · rw [pv_u2, if_neg (by omega), pv_u2, if_pos ⟨rfl, rfl⟩, pv_u2, if_neg (by omega), k3]; rfl
    · have q4 : (u2 (u2 y (r + 1) 1 (y (r + 1) 1 + y (r + 1) 2 - (y (r + 1) 1 + y (r + 1) 2) / 12 * 12)) (r + 1) 3 ((u2 y (r + 1) 1 (y (r + 1) 1 + y (r + 1) 2 - (y (r + 1) 1 + y (r + 1) 2) / 12 * 12)) (r + 1) 3 + 1)) (r + 1) 4 = y0 (r + 1) 4 := by
        rw [pv_u2, if_neg (by omega), pv_u2, if_neg (by omega)]; exact k4
      rw [pv_u2, if_pos ⟨rfl, rfl⟩, q4]
      rfl
  | succ k ih =>
    intro m f a y h1 h2 h3 h4 h5
    obtain ⟨f, rfl⟩ := fuS h2
    have e1 : y r 3 = nI n := by rw [h3 r 3 (by omega) (by omega)]; exact h0.1
    have v4 : y (r + 4) m = F 1 m := by rw [(h5 m (by omega)).1]; exact h0.2.2.2.1 m (by omega)
    have v5 : y (r + 5) m = F 2 m := by rw [(h5 m (by omega)).2]; exact h0.2.2.2.2.1 m (by omega)
    have v9 : y (r + 9) m = faM (saM C E) n F K m := by rw [h3 _ _ (by omega) (by omega)]; exact (hq m (by omega)).1
    have v10 : y (r + 10) m = htM (saM C E) n F K m := by rw [h3 _ _ (by omega) (by omega)]; exact (hq m (by omega)).2
    have step : ∀ a', ∃ W, pR_swingOn_95 fu r (pR_swingOn_62 fu r f) a' (nI m) (F 1 m + faM (saM C E) n F K m) y = pR_swingOn_62 fu r f a' (nI (m + 1)) W ∧ (∀ c j, c ≠ r + 4 → c ≠ r + 5 → W c j = y0 c j) ∧ (∀ i, i < m + 1 → W (r + 4) i = stF (saM C E) n F K 1 i ∧ W (r + 5) i = stF (saM C E) n F K 2 i) ∧ (∀ i, m + 1 ≤ i → W (r + 4) i = y0 (r + 4) i ∧ W (r + 5) i = y0 (r + 5) i) := by
      intro a'
      have r1 : ∀ X, (u2 y (r + 4) m X) (r + 5) m = F 2 m := fun X => by rw [pv_u2, if_neg (by omega)]; exact v5
      have r2 : ∀ X, (u2 y (r + 4) m X) (r + 10) m = htM (saM C E) n F K m := fun X => by rw [pv_u2, if_neg (by omega)]; exact v10
      unfold pR_swingOn_95
      rw [pv_inb (by omega) (by omega), pv_chk, pv_letm, pv_chk, pv_chk, pv_chk, pv_letm, pv_letm, pv_sa (by omega), pv_sa (by omega), pv_ga (by omega), pv_ga (by omega), nI_1, r1, r2, tc_two]
      refine ⟨_, rfl, fun c j c1 c2 => ?_, fun i hi => ?_, fun i hi => ?_⟩
      · rw [pv_u2, if_neg (by omega), pv_u2, if_neg (by omega)]; exact h3 c j c1 c2
      · by_cases e : i = m
        · rw [e]
          exact ⟨by rw [pv_u2, if_neg (by omega), pv_u2, if_pos ⟨rfl, rfl⟩]; rfl, by rw [pv_u2, if_pos ⟨rfl, rfl⟩]; rfl⟩
        · exact ⟨by rw [pv_u2, if_neg (by omega), pv_u2, if_neg (by omega)]; exact (h4 i (by omega)).1, by rw [pv_u2, if_neg (by omega), pv_u2, if_neg (by omega)]; exact (h4 i (by omega)).2⟩
      · exact ⟨by rw [pv_u2, if_neg (by omega), pv_u2, if_neg (by omega)]; exact (h5 i (by omega)).1, by rw [pv_u2, if_neg (by omega), pv_u2, if_neg (by omega)]; exact (h5 i (by omega)).2⟩
    rw [pR_swingOn_62, e1, if_neg (nI_ge (by omega) (by omega)), pv_inb (by omega) (by omega), pv_chk, pv_chk, pv_letm, pv_ga (by omega), pv_ga (by omega), v4, v9, ctM]
    by_cases hc : F 1 m + faM (saM C E) n F K m < 12
    · rw [if_pos hc, if_pos hc]
      obtain ⟨W, w1, w2, w3, w4⟩ := step a
      rw [w1]
      exact ih (m + 1) f a W (by omega) (by omega) w2 w3 w4
    · rw [if_neg hc, if_neg hc, pv_letm]
      obtain ⟨W, w1, w2, w3, w4⟩ := step (a + 1)
      rw [w1]
      exact ih (m + 1) f (a + 1) W (by omega) (by omega) w2 w3 w4
/-- A STROKE of the class's row r -/
theorem swC (hr : isRow r) (hb : bs fu n lw F K C E) (h0 : rC z r n lw F K) (hl : lC z (42 + 4 * lw) C E) : ∃ Z, pR_swingOn fu r z = some (cuM (saM C E) n F K, Z) ∧ rC Z r n lw (stF (saM C E) n F K) (stK K) ∧ Z (r + 1) 4 = (if z (r + 1) 4 + cuM (saM C E) n F K < 9999 then z (r + 1) 4 + cuM (saM C E) n F K else 9999) ∧ EqW r z Z := by
  have hf := hb.2.2.2.1
  obtain ⟨Y, a1, a2, a3⟩ := sw1_loop hr hb h0 hl n 0 fu z (by omega) (by have := hb.1; omega) EqS.rf (fun i hi => absurd hi (by omega))
  have hY := h0.eqS hr a2
  obtain ⟨Z, b1, b2, b3, b4, b5, b6, b7, b8⟩ := sw2_loop hr hb hY a3 n 0 fu 0 Y (by omega) (by have := hb.1; omega) (fun _ _ _ _ => rfl) (fun i hi => absurd hi (by omega)) (fun i hi => ⟨rfl, rfl⟩)
  have a4 : Y (r + 1) 4 = z (r + 1) 4 := a2 _ _ (by unfold SC isRow at *; omega)
  refine ⟨Z, ?_, ⟨?_, ?_, fun m hm => ?_, fun m hm => (b3 m hm).1, fun m hm => (b3 m hm).2, fun m hm => ?_, fun m hm => ?_, b4, b5, b6, b7⟩, ?_, fun c j hc => ?_⟩
  · unfold pR_swingOn
    exact a1.trans b1
  · rw [b2 _ _ (by omega) (by omega) (by omega)]; exact hY.1
  · rw [b2 _ _ (by omega) (by omega) (by omega)]; exact hY.2.1
  · rw [b2 _ _ (by omega) (by omega) (by omega)]; exact hY.2.2.1 m hm
  · rw [b2 _ _ (by omega) (by omega) (by omega)]; exact hY.2.2.2.2.2.1 m hm
  · rw [b2 _ _ (by omega) (by omega) (by omega)]; exact hY.2.2.2.2.2.2.1 m hm
  · rw [a4] at b8; exact b8
  · rw [b2 c j (fun q => hc (by unfold SW; omega)) (fun q => hc (by unfold SW; omega)) (fun q => hc (by unfold SW; omega))]
    exact a2 c j (fun q => hc (Or.inl q))
end SWC
section SWM
variable {fu n lw : Nat} {z : Sg} {F : Nat → Nat → Int32} {K : Nat → Int32} {C E : Nat → Nat}
/-- what a stroke of the reference writes -/
def EqN (z Z : Sg) : Prop := ∀ c j, c ≠ 94 → c ≠ 95 → c ≠ 96 → (c ≠ 81 ∨ 18 ≤ j) → (c ≠ 82 ∨ 4 ≤ j) → Z c j = z c j
theorem EqN.rf {z : Sg} : EqN z z := fun _ _ _ _ _ _ _ => rfl
theorem EqN.tr {z Z Y : Sg} (h1 : EqN z Z) (h2 : EqN Z Y) : EqN z Y := fun c j a b d e f => (h2 c j a b d e f).trans (h1 c j a b d e f)
/-- its first loop writes what is ahead as well -/
def EqO (z Z : Sg) : Prop := ∀ c j, c ≠ 94 → c ≠ 95 → c ≠ 96 → Z c j = z c j
theorem EqO.rf {z : Sg} : EqO z z := fun _ _ _ _ _ => rfl
theorem EqO.tr {z Z Y : Sg} (h1 : EqO z Z) (h2 : EqO Z Y) : EqO z Y := fun c j a b d => (h2 c j a b d).trans (h1 c j a b d)
theorem EqM.o {z Z : Sg} (h : EqM z Z) : EqO z Z := fun c j a b _ => h c j (fun q => by unfold SM at q; omega)
theorem rM.eqO {z Z : Sg} (h : rM z n lw F K) (e : EqO z Z) : rM Z n lw F K := by
  obtain ⟨a1, a2, a3, a4, a5, a6, a7, a8, a9, a10, a11⟩ := h
  have hn : ∀ c j, c < 94 → Z c j = z c j := fun c j hc => e c j (by omega) (by omega) (by omega)
  refine ⟨?_, ?_, fun m h => ?_, fun m h => ?_, fun m h => ?_, fun m h => ?_, fun m h => ?_, ?_, ?_, ?_, ?_⟩
  · rw [hn 78 0 (by omega)]; exact a1
  · rw [hn 78 10 (by omega)]; exact a2
  · rw [hn 81 _ (by omega)]; exact a3 m h
  · rw [hn 81 _ (by omega)]; exact a4 m h
  · rw [hn 81 _ (by omega)]; exact a5 m h
  · rw [hn 79 _ (by omega)]; exact a6 m h
  · rw [hn 80 _ (by omega)]; exact a7 m h
  · rw [hn 82 _ (by omega)]; exact a8
  · rw [hn 82 _ (by omega)]; exact a9
  · rw [hn 82 _ (by omega)]; exact a10
  · rw [hn 82 _ (by omega)]; exact a11
theorem lM.eqO {z Z : Sg} {t : Nat} (h : lM z t C E) (e : EqO z Z) : lM Z t C E := by
  obtain ⟨h0, h1, h2, h3, h4⟩ := h
  have q : ∀ c, c < 94 → ∀ j, Z c j = z c j := fun c hc j => e c j (by omega) (by omega) (by omega)
  exact ⟨by rw [q 85 (by omega)]; exact h0, by rw [q 85 (by omega)]; exact h1, by rw [q 85 (by omega)]; exact h2, by rw [q 85 (by omega)]; exact h3, fun i hi => by rw [q 84 (by omega)]; exact h4 i hi⟩
theorem sw1_loopM (hb : bs fu n lw F K C E) (h0 : rM z n lw F K) (hl : lM z lw C E) : ∀ k m f a y, m + k = n → k < f → EqO z y → (∀ i, i < m → y 96 (2 * i) = faM (saM C E) n F K i ∧ y 96 (2 * i + 1) = htM (saM C E) n F K i) → ∃ Y, pM_strokeOf_4 fu f a (nI m) y = pM_strokeOf_67 fu fu a 0 Y ∧ EqO z Y ∧ ∀ i, i < n → Y 96 (2 * i) = faM (saM C E) n F K i ∧ Y 96 (2 * i + 1) = htM (saM C E) n F K i := by
  obtain ⟨hn, hw, ht, hf, h9⟩ := hb
  intro k
  induction k with
  | zero =>
    intro m f a y h1 h2 h3 h4
    obtain ⟨f, rfl⟩ := fuS h2
    have hy := h0.eqO h3
    rw [pM_strokeOf_4, hy.1, if_pos (nI_le (by omega) (by omega))]
    exact ⟨y, rfl, h3, fun i hi => h4 i (by omega)⟩
  | succ k ih =>
    intro m f a y h1 h2 h3 h4
    obtain ⟨f, rfl⟩ := fuS h2
    have hy := h0.eqO h3
    have q1 : qM fu y n lw m F K C E := ⟨hy, hn, by omega, hw, ht, hl.eqO h3, hf, h9⟩
    obtain ⟨t, ht1, ht2⟩ := h9.2.2.1 m (by omega)
    have tail : ∀ (v : Int32) (w : Sg), EqM y w → v = faM (saM C E) n F K m → ∃ Y, pM_strokeOf_43 fu (pM_strokeOf_4 fu f) a (nI m) (nI (2 * m)) v w = pM_strokeOf_67 fu fu a 0 Y ∧ EqO z Y ∧ ∀ i, i < n → Y 96 (2 * i) = faM (saM C E) n F K i ∧ Y 96 (2 * i + 1) = htM (saM C E) n F K i := by
      intro v w hw1 hv
      unfold pM_strokeOf_43
      rw [pv_inb (by omega) (by omega), pv_chk, pv_letm, pv_sa (by omega)]
      have e2 : EqO y (u2 w 96 (2 * m) v) := fun c j c1 c2 c3 => by rw [pv_u2, if_neg (by omega)]; exact hw1.o c j c1 c2 c3
      have q2 : qM fu (u2 w 96 (2 * m) v) n lw m F K C E := ⟨hy.eqO e2, hn, by omega, hw, ht, (hl.eqO h3).eqO e2, hf, h9⟩
      obtain ⟨x, x1, x2⟩ := htMr q2
      have x3 : ∀ j, x 96 j = (u2 w 96 (2 * m) v) 96 j := fun j => x2 96 j (by unfold SM; omega)
      have w3 : ∀ j, w 96 j = y 96 j := fun j => hw1 96 j (by unfold SM; omega)
      rw [x1, pv_bnd, l_2, pk_mul, nI_1, pv_inb (by omega) (by omega), pv_chk, pv_letm, pv_letm, pv_sa (by omega), nI_1]
      refine ih (m + 1) f a _ (by omega) (by omega) (fun c j c1 c2 c3 => ?_) (fun i hi => ?_)
      · rw [pv_u2, if_neg (by omega), x2.o c j c1 c2 c3, e2 c j c1 c2 c3]; exact h3 c j c1 c2 c3
      · by_cases e : i = m
        · rw [e]
          exact ⟨by rw [pv_u2, if_neg (by omega), x3, pv_u2, if_pos ⟨rfl, rfl⟩, hv], by rw [pv_u2, if_pos ⟨rfl, rfl⟩]⟩
        · rw [pv_u2, if_neg (by omega), x3, pv_u2, if_neg (by omega), pv_u2, if_neg (by omega), x3, pv_u2, if_neg (by omega), w3, w3]
          exact h4 i (by omega)
    rw [pM_strokeOf_4, hy.1, if_neg (nI_ge (by omega) (by omega)), l_3, pk_mul, l_2, nI_add, pv_inb (by omega) (by omega), pv_chk, pv_ga (by omega), hy.2.2.2.2.1 m (by omega), pk_mul]
    by_cases ht99 : F 2 m < 99
    · obtain ⟨x, x1, x2⟩ := hfMr q1
      rw [if_neg (fun q => by rw [q] at ht99; exact absurd ht99 (by decide)), x1, pv_bnd]
      exact tail _ x x2 (by unfold faM; rw [if_pos ht99])
    · rw [ht2, l_99, pv_lt (by omega) (by omega)] at ht99
      rw [if_pos (by rw [ht2, show t = 99 by omega]; rfl)]
      exact tail 0 y EqM.rf (by unfold faM; rw [if_neg (by rw [ht2, l_99, pv_lt (by omega) (by omega)]; omega)])
theorem sw2_loopM (hb : bs fu n lw F K C E) {y0 : Sg} (h0 : rM y0 n lw F K) (hq : ∀ i, i < n → y0 96 (2 * i) = faM (saM C E) n F K i ∧ y0 96 (2 * i + 1) = htM (saM C E) n F K i) : ∀ k m f a y, m + k = n → k < f → (∀ c j, c ≠ 81 → y c j = y0 c j) → (∀ i, i < m → y 81 (3 * i + 1) = stF (saM C E) n F K 1 i ∧ y 81 (3 * i + 2) = stF (saM C E) n F K 2 i) → (∀ j, (3 * m ≤ j ∨ j % 3 = 0) → y 81 j = y0 81 j) → ∃ Y, pM_strokeOf_67 fu f a (nI m) y = some (ctM (saM C E) n F K k m a, Y) ∧ (∀ c j, c ≠ 81 → c ≠ 82 → Y c j = y0 c j) ∧ (∀ i, i < n → Y 81 (3 * i + 1) = stF (saM C E) n F K 1 i ∧ Y 81 (3 * i + 2) = stF (saM C E) n F K 2 i) ∧ (∀ j, (3 * n ≤ j ∨ j % 3 = 0) → Y 81 j = y0 81 j) ∧ Y 82 0 = K 0 ∧ Y 82 1 = stK K 1 ∧ Y 82 2 = K 2 ∧ Y 82 3 = stK K 3 ∧ ∀ j, 4 ≤ j → Y 82 j = y0 82 j := by
  obtain ⟨hn, hw, ht, hf, h9⟩ := hb
  intro k
  induction k with
  | zero =>
    intro m f a y h1 h2 h3 h4 h5
    obtain ⟨f, rfl⟩ := fuS h2
    have e1 : y 78 0 = nI n := by rw [h3 78 0 (by omega)]; exact h0.1
    have k0 : y 82 0 = K 0 := by rw [h3 _ _ (by omega)]; exact h0.2.2.2.2.2.2.2.1
    have k1 : y 82 1 = K 1 := by rw [h3 _ _ (by omega)]; exact h0.2.2.2.2.2.2.2.2.1
    have k2 : y 82 2 = K 2 := by rw [h3 _ _ (by omega)]; exact h0.2.2.2.2.2.2.2.2.2.1
    have k3 : y 82 3 = K 3 := by rw [h3 _ _ (by omega)]; exact h0.2.2.2.2.2.2.2.2.2.2
    rw [pM_strokeOf_67, e1, if_pos (nI_le (by omega) (by omega)), pv_letm, pv_letm]
    refine ⟨_, rfl, fun c j c1 c2 => ?_, fun i hi => ⟨?_, ?_⟩, fun j hj => ?_, ?_, ?_, ?_, ?_, fun j hj => ?_⟩
    · rw [pv_u2, if_neg (by omega), pv_u2, if_neg (by omega)]; exact h3 c j c1
    · rw [pv_u2, if_neg (by omega), pv_u2, if_neg (by omega)]; exact (h4 i (by omega)).1
    · rw [pv_u2, if_neg (by omega), pv_u2, if_neg (by omega)]; exact (h4 i (by omega)).2
    · rw [pv_u2, if_neg (by omega), pv_u2, if_neg (by omega)]; exact h5 j (by omega)
    · rw [pv_u2, if_neg (by omega), pv_u2, if_neg (by omega)]; exact k0
    · rw [pv_u2, if_neg (by omega), pv_u2, if_pos ⟨rfl, rfl⟩, k1, k2]; rfl
    · rw [pv_u2, if_neg (by omega), pv_u2, if_neg (by omega)]; exact k2
    · rw [pv_u2, if_pos ⟨rfl, rfl⟩, pv_u2, if_neg (by omega), k3]; rfl
    · rw [pv_u2, if_neg (by omega), pv_u2, if_neg (by omega)]; exact h3 82 j (by omega)
  | succ k ih =>
    intro m f a y h1 h2 h3 h4 h5
    obtain ⟨f, rfl⟩ := fuS h2
    have e1 : y 78 0 = nI n := by rw [h3 78 0 (by omega)]; exact h0.1
    have v4 : y 81 (3 * m + 1) = F 1 m := by rw [h5 _ (by omega)]; exact h0.2.2.2.1 m (by omega)
    have v5 : y 81 (3 * m + 2) = F 2 m := by rw [h5 _ (by omega)]; exact h0.2.2.2.2.1 m (by omega)
    have v9 : y 96 (2 * m) = faM (saM C E) n F K m := by rw [h3 _ _ (by omega)]; exact (hq m (by omega)).1
    have v10 : y 96 (2 * m + 1) = htM (saM C E) n F K m := by rw [h3 _ _ (by omega)]; exact (hq m (by omega)).2
    have step : ∀ t, ∃ W, pM_strokeOf_107 fu (pM_strokeOf_67 fu f) (nI m) (F 1 m + faM (saM C E) n F K m) a t y = pM_strokeOf_67 fu f (a + t) (nI (m + 1)) W ∧ (∀ c j, c ≠ 81 → W c j = y0 c j) ∧ (∀ i, i < m + 1 → W 81 (3 * i + 1) = stF (saM C E) n F K 1 i ∧ W 81 (3 * i + 2) = stF (saM C E) n F K 2 i) ∧ (∀ j, (3 * (m + 1) ≤ j ∨ j % 3 = 0) → W 81 j = y0 81 j) := by
      intro t
      have r1 : ∀ X, (u2 y 81 (3 * m + 1) X) 81 (3 * m + 2) = F 2 m := fun X => by rw [pv_u2, if_neg (by omega)]; exact v5
      have r2 : ∀ X, (u2 y 81 (3 * m + 1) X) 96 (2 * m + 1) = htM (saM C E) n F K m := fun X => by rw [pv_u2, if_neg (by omega)]; exact v10
      unfold pM_strokeOf_107
      rw [pv_letm, l_3, pk_mul, nI_1, pv_inb (by omega) (by omega), pv_chk, pv_letm, pv_sa (by omega), l_2, nI_add, pv_inb (by omega) (by omega), pv_chk, pk_mul, nI_1, pv_inb (by omega) (by omega), pv_chk, pv_ga (by omega), pv_ga (by omega), r1, r2, cl_within, pv_bnd, pv_chk, pv_letm, pv_letm, pv_sa (by omega), nI_1]
      refine ⟨_, rfl, fun c j c1 => ?_, fun i hi => ?_, fun j hj => ?_⟩
      · rw [pv_u2, if_neg (by omega), pv_u2, if_neg (by omega)]; exact h3 c j c1
      · by_cases e : i = m
        · rw [e]
          exact ⟨by rw [pv_u2, if_neg (by omega), pv_u2, if_pos ⟨rfl, rfl⟩]; rfl, by rw [pv_u2, if_pos ⟨rfl, rfl⟩]; rfl⟩
        · exact ⟨by rw [pv_u2, if_neg (by omega), pv_u2, if_neg (by omega)]; exact (h4 i (by omega)).1, by rw [pv_u2, if_neg (by omega), pv_u2, if_neg (by omega)]; exact (h4 i (by omega)).2⟩
      · rw [pv_u2, if_neg (by omega), pv_u2, if_neg (by omega)]; exact h5 j (by omega)
    rw [pM_strokeOf_67, e1, if_neg (nI_ge (by omega) (by omega)), l_3, pk_mul, nI_1, pv_inb (by omega) (by omega), pv_chk, l_2, pk_mul, pv_inb (by omega) (by omega), pv_chk, pv_letm, pv_ga (by omega), pv_ga (by omega), v4, v9, ctM]
    by_cases hc : F 1 m + faM (saM C E) n F K m < 12
    · rw [if_pos hc, if_pos hc]
      obtain ⟨W, w1, w2, w3, w4⟩ := step 0
      rw [w1, Int32.add_zero]
      exact ih (m + 1) f a W (by omega) (by omega) w2 w3 w4
    · rw [if_neg hc, if_neg hc]
      obtain ⟨W, w1, w2, w3, w4⟩ := step 1
      rw [w1]
      exact ih (m + 1) f (a + 1) W (by omega) (by omega) w2 w3 w4
/-- A STROKE of the reference -/
theorem swMr (hb : bs fu n lw F K C E) (h0 : rM z n lw F K) (hl : lM z lw C E) : ∃ Z, pM_strokeOf fu z = some (cuM (saM C E) n F K, Z) ∧ rM Z n lw (stF (saM C E) n F K) (stK K) ∧ EqN z Z := by
  have hf := hb.2.2.2.1
  have hn := hb.1
  obtain ⟨Y, a1, a2, a3⟩ := sw1_loopM hb h0 hl n 0 fu 0 z (by omega) (by omega) EqO.rf (fun i hi => absurd hi (by omega))
  have hY := h0.eqO a2
  obtain ⟨Z, b1, b2, b3, b4, b5, b6, b7, b8, b9⟩ := sw2_loopM hb hY a3 n 0 fu 0 Y (by omega) (by omega) (fun _ _ _ => rfl) (fun i hi => absurd hi (by omega)) (fun j hj => rfl)
  refine ⟨Z, ?_, ⟨?_, ?_, fun m hm => ?_, fun m hm => (b3 m hm).1, fun m hm => (b3 m hm).2, fun m hm => ?_, fun m hm => ?_, b5, b6, b7, b8⟩, fun c j c1 c2 c3 c4 c5 => ?_⟩
  · unfold pM_strokeOf
    exact a1.trans b1
  · rw [b2 _ _ (by omega) (by omega)]; exact hY.1
  · rw [b2 _ _ (by omega) (by omega)]; exact hY.2.1
  · rw [b4 _ (by omega)]; exact hY.2.2.1 m hm
  · rw [b2 _ _ (by omega) (by omega)]; exact hY.2.2.2.2.2.1 m hm
  · rw [b2 _ _ (by omega) (by omega)]; exact hY.2.2.2.2.2.2.1 m hm
  · by_cases q : c = 81
    · rw [q, b4 j (by omega)]; exact a2 81 j (by omega) (by omega) (by omega)
    · by_cases q2 : c = 82
      · rw [q2, b9 j (by omega)]; exact a2 82 j (by omega) (by omega) (by omega)
      · rw [b2 c j q q2]; exact a2 c j c1 c2 c3
end SWM
