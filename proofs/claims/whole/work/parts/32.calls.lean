def ibM (P : Nat → Bool) : Nat → Nat → Int32 → Int32
  | 0, _, a => a
  | k + 1, m, a => ibM P k (m + 1) (if P m then a ||| (1 <<< (nI m &&& 31)) else a)
theorem or_tab : ∀ m, m < 6 → ∀ x, x < 2 ^ m → nI x ||| (1 <<< (nI m &&& 31)) = nI (x + 2 ^ m) := by decide +kernel
theorem ibM_b (P : Nat → Bool) : ∀ k m x, k + m ≤ 6 → x < 2 ^ m → ∃ y, y < 2 ^ (m + k) ∧ ibM P k m (nI x) = nI y := by
  intro k
  induction k with
  | zero => intro m x h1 h2; exact ⟨x, h2, rfl⟩
  | succ k ih =>
    intro m x h1 h2
    unfold ibM
    have h3 : 2 ^ (m + 1) = 2 ^ m + 2 ^ m := by rw [Nat.pow_succ]; omega
    cases hP : P m with
    | false =>
      obtain ⟨y, y1, y2⟩ := ih (m + 1) x (by omega) (by omega)
      exact ⟨y, by rw [show m + (k + 1) = m + 1 + k by omega]; exact y1, by simpa using y2⟩
    | true =>
      obtain ⟨y, y1, y2⟩ := ih (m + 1) (x + 2 ^ m) (by omega) (by omega)
      refine ⟨y, by rw [show m + (k + 1) = m + 1 + k by omega]; exact y1, ?_⟩
      rw [if_pos rfl, or_tab m (by omega) x h2]
      exact y2
def isM (n : Nat) (F : Nat → Nat → Int32) (K : Nat → Int32) : Int32 := ibM (fun m => decide (F 1 m = K 1)) n 0 0
def csM (n : Nat) (F : Nat → Nat → Int32) (K : Nat → Int32) : Int32 := ibM (fun m => clM n F K m) n 0 0
theorem isM_b {n : Nat} (hn : n ≤ 6) (F : Nat → Nat → Int32) (K : Nat → Int32) : bI 64 (isM n F K) := by
  obtain ⟨y, y1, y2⟩ := ibM_b (fun m => decide (F 1 m = K 1)) n 0 0 (by omega) (by omega)
  exact ⟨y, Nat.lt_of_lt_of_le y1 (by have := Nat.pow_le_pow_right (show 0 < 2 by omega) (show 0 + n ≤ 6 by omega); omega), y2⟩
section BITS
variable {fu r n lw : Nat} {z : Sg} {F : Nat → Nat → Int32} {K : Nat → Int32} {C E : Nat → Nat}
theorem isC_one (h : rC z r n lw F K) (hn : n ≤ 6) {m : Nat} (hm : m < n) : pR_inStep fu r (nI m) z = some (if F 1 m = K 1 then 1 else 0, z) := by
  unfold pR_inStep
  rw [pv_inb (by omega) (by omega), pv_chk, pv_ga (by omega), h.2.2.2.1 m hm, h.2.2.2.2.2.2.2.2.1]
  split <;> rfl
theorem isC_loop (h : rC z r n lw F K) (hn : n ≤ 6) : ∀ k m f a, m + k = n → k < f → pR_inStepBits_4 fu r f a (nI m) z = some (ibM (fun m => decide (F 1 m = K 1)) k m a, z) := by
  intro k
  induction k with
  | zero =>
    intro m f a h1 h2
    obtain ⟨f, rfl⟩ := fuS h2
    rw [pR_inStepBits_4, h.1, if_pos (nI_le (by omega) (by omega))]
    rfl
  | succ k ih =>
    intro m f a h1 h2
    obtain ⟨f, rfl⟩ := fuS h2
    rw [pR_inStepBits_4, h.1, if_neg (nI_ge (by omega) (by omega)), isC_one h hn (by omega), pv_bnd]
    unfold pR_inStepBits_26
    rw [pv_letm, pv_letm, pv_letm, nI_1, ih (m + 1) f _ (by omega) (by omega), ih (m + 1) f _ (by omega) (by omega), ibM]
    by_cases e : F 1 m = K 1 <;> simp [e]
theorem isnC (h : rC z r n lw F K) (hn : n ≤ 6) (hf : 10 ≤ fu) : pR_inStepBits fu r z = some (isM n F K, z) := isC_loop h hn n 0 fu 0 (by omega) (by omega)
theorem isMr_loop (h : rM z n lw F K) (hn : n ≤ 6) : ∀ k m f a, m + k = n → k < f → pM_inStep_4 fu f a (nI m) z = some (ibM (fun m => decide (F 1 m = K 1)) k m a, z) := by
  intro k
  induction k with
  | zero =>
    intro m f a h1 h2
    obtain ⟨f, rfl⟩ := fuS h2
    rw [pM_inStep_4, h.1, if_pos (nI_le (by omega) (by omega))]
    rfl
  | succ k ih =>
    intro m f a h1 h2
    obtain ⟨f, rfl⟩ := fuS h2
    rw [pM_inStep_4, h.1, if_neg (nI_ge (by omega) (by omega)), l_3, pk_mul, nI_1, pv_inb (by omega) (by omega), pv_chk, pv_ga (by omega), h.2.2.2.1 m (by omega), h.2.2.2.2.2.2.2.2.1]
    unfold pM_inStep_39
    rw [pv_letm, pv_letm, pv_letm, pv_letm, nI_1, Int32.or_zero, ih (m + 1) f _ (by omega) (by omega), ih (m + 1) f _ (by omega) (by omega), ibM]
    by_cases e : F 1 m = K 1 <;> simp [e]
theorem isMr (h : rM z n lw F K) (hn : n ≤ 6) (hf : 10 ≤ fu) : pM_inStep fu z = some (isM n F K, z) := isMr_loop h hn n 0 fu 0 (by omega) (by omega)
theorem csC_loop (hr : isRow r) (hb : bs fu n lw F K C E) : ∀ k m f a z, m + k = n → k < f → rC z r n lw F K → lC z (42 + 4 * lw) C E → ∃ Z, pR_clashBits_4 fu r f a (nI m) z = some (ibM (fun m => clM n F K m) k m a, Z) ∧ EqL r z Z := by
  obtain ⟨hn, hw, ht, hf, h9⟩ := hb
  intro k
  induction k with
  | zero =>
    intro m f a z h1 h2 h hl
    obtain ⟨f, rfl⟩ := fuS h2
    rw [pR_clashBits_4, h.1, if_pos (nI_le (by omega) (by omega))]
    exact ⟨z, rfl, EqL.rf⟩
  | succ k ih =>
    intro m f a z h1 h2 h hl
    obtain ⟨f, rfl⟩ := fuS h2
    obtain ⟨y, y1, y2, y3⟩ := lookC (fu := fu) hr h hn (by omega) (m := m) (by omega)
    have hc := clC (fu := fu) (C := C) (E := E) ⟨hr, y3, hn, by omega, hw, ht, hl.s hr (by omega) y2.s, hf, h9⟩
    rw [pR_clashBits_4, h.1, if_neg (nI_ge (by omega) (by omega)), y1, pv_bndv, hc, pv_bnd]
    unfold pR_clashBits_30
    rw [pv_letm, pv_letm, pv_letm, nI_1, ibM]
    obtain ⟨Z, z1, z2⟩ := ih (m + 1) f (if clM n F K m = true then a ||| 1 <<< (nI m &&& 31) else a) y (by omega) (by omega) y3.1 (hl.s hr (by omega) y2.s)
    refine ⟨Z, ?_, fun c j hc => (z2 c j hc).trans (y2 c j hc)⟩
    rw [← z1]
    cases clM n F K m <;> rfl
theorem csC (hr : isRow r) (hb : bs fu n lw F K C E) (h : rC z r n lw F K) (hl : lC z (42 + 4 * lw) C E) : ∃ Z, pR_clashBits fu r z = some (csM n F K, Z) ∧ EqL r z Z := csC_loop hr hb n 0 fu 0 z (by omega) (by have := hb.1; have := hb.2.2.2.1; omega) h hl
theorem csMr_loop (h : rM z n lw F K) (hn : n ≤ 6) (hf : 10 ≤ fu) : ∀ k m f a, m + k = n → k < f → pM_clashing_4 fu f a (nI m) z = some (ibM (fun m => clM n F K m) k m a, z) := by
  intro k
  induction k with
  | zero =>
    intro m f a h1 h2
    obtain ⟨f, rfl⟩ := fuS h2
    rw [pM_clashing_4, h.1, if_pos (nI_le (by omega) (by omega))]
    rfl
  | succ k ih =>
    intro m f a h1 h2
    obtain ⟨f, rfl⟩ := fuS h2
    rw [pM_clashing_4, h.1, if_neg (nI_ge (by omega) (by omega)), clMr h hn hf (by omega), pv_bnd]
    unfold pM_clashing_28
    rw [pv_letm, pv_letm, pv_letm, pv_letm, nI_1, Int32.or_zero, ih (m + 1) f _ (by omega) (by omega), ih (m + 1) f _ (by omega) (by omega), ibM]
    cases clM n F K m <;> rfl
theorem csMr (h : rM z n lw F K) (hn : n ≤ 6) (hf : 10 ≤ fu) : pM_clashing fu z = some (csM n F K, z) := csMr_loop h hn hf n 0 fu 0 (by omega) (by omega)
end BITS
/-! how many bits -/
def bc1 (v0 : Int32) : Int32 := v0 - (((v0.toUInt32 >>> ((1 : Int32).toUInt32 &&& Int32.toUInt32 31)).toInt32) &&& 1431655765)
def bc2 (x1 : Int32) : Int32 := (x1 &&& 858993459) + (((x1.toUInt32 >>> ((2 : Int32).toUInt32 &&& Int32.toUInt32 31)).toInt32) &&& 858993459)
def bc3 (x2 : Int32) : Int32 := (x2 + ((x2.toUInt32 >>> ((4 : Int32).toUInt32 &&& Int32.toUInt32 31)).toInt32)) &&& 252645135
def bc4 (x3 : Int32) : Int32 := x3 + ((x3.toUInt32 >>> ((8 : Int32).toUInt32 &&& Int32.toUInt32 31)).toInt32)
def bc5 (x4 : Int32) : Int32 := x4 + ((x4.toUInt32 >>> ((16 : Int32).toUInt32 &&& Int32.toUInt32 31)).toInt32)
def bcV (v0 : Int32) : Int32 := bc5 (bc4 (bc3 (bc2 (bc1 v0)))) &&& 63
def onV (v : Int32) : Int32 := 0 + ((v >>> (nI 0 &&& 31)) &&& 1) + ((v >>> (nI 1 &&& 31)) &&& 1) + ((v >>> (nI 2 &&& 31)) &&& 1) + ((v >>> (nI 3 &&& 31)) &&& 1) + ((v >>> (nI 4 &&& 31)) &&& 1) + ((v >>> (nI 5 &&& 31)) &&& 1)
theorem bc_eq (fu : Nat) (v : Int32) (z : Sg) : pJI_bitCount fu v z = some (bcV v, z) := by
  unfold pJI_bitCount
  rw [pv_letm, pv_letm, pv_letm, pv_letm, pv_letm]
  rfl
theorem on_eq {fu : Nat} (hf : 10 ≤ fu) (v : Int32) (z : Sg) : pM_ones fu v z = some (onV v, z) := by
  obtain ⟨g, rfl⟩ : ∃ g, fu = g + 7 := ⟨fu - 7, by omega⟩
  unfold pM_ones
  rw [pM_ones_4, if_neg (by decide), pv_letm, pv_letm, pM_ones_4, if_neg (by decide), pv_letm, pv_letm, pM_ones_4, if_neg (by decide), pv_letm, pv_letm, pM_ones_4, if_neg (by decide), pv_letm, pv_letm, pM_ones_4, if_neg (by decide), pv_letm, pv_letm, pM_ones_4, if_neg (by decide), pv_letm, pv_letm, pM_ones_4, if_pos (by decide)]
  rfl
theorem bc_tab : ∀ x, x < 64 → bcV (nI x) = onV (nI x) := by decide +kernel
theorem bc_on {v : Int32} (h : bI 64 v) : bcV v = onV v := by
  obtain ⟨x, hx, rfl⟩ := h
  exact bc_tab x hx
theorem st_count {fu : Nat} (hf : 50000 ≤ fu) (z : Sg) (a1 : Int32) (h : Inv z) : ∃ (r : Int32) (z1 z2 : Sg), pS_count fu a1 z = some (r, z1) ∧ pM_count fu a1 z1 = some (r, z2) ∧ Inv z2 := by
  obtain ⟨n, lw, tc, ts, F, K, C, E, h⟩ := h
  have hn := h.1.2.2.1.1
  refine ask2 h (if a1 = 0 then nI n else if a1 = 1 then onV (isM n F K) else if a1 = 2 then nI tc else if a1 = 3 then nI lw else if a1 = 4 then nI ts else -2) ⟨z, ?_, EqQ.rf⟩ (fun y hy _ => ⟨y, ?_, EqR.rf⟩)
  · unfold pS_count
    rw [isnC h.1.1 hn (by omega), pv_bnd, bc_eq, pv_bnd, bc_on (isM_b hn F K), h.1.1.1, h.1.1.2.1, h.2.1.2.2.1, h.2.2.1.2.1]
    (repeat' split) <;> rfl
  · unfold pM_count
    rw [isMr hy.1.2.1 hn (by omega), pv_bnd, on_eq (by omega), pv_bnd, hy.1.2.1.1, hy.1.2.1.2.1, hy.2.1.2.2.2.1, hy.2.2.1.2.2.1]
    (repeat' split) <;> rfl
