/-! the pure side: words of reading, writing, counting -/
theorem pv_u2 (z : Sg) (c j : Nat) (v : Int32) (a b : Nat) : u2 z c j v a b = if a = c ∧ b = j then v else z a b := by
  unfold u2 ur upd
  by_cases h : a = c
  · subst h
    by_cases h2 : b = j <;> simp [h2]
  · simp [h]
theorem pv_chk {α : Type} (k : Option α) : chk true k = k := rfl
theorem pv_letm {α β : Type} (x : α) (k : α → β) : letm x k = k x := rfl
theorem pv_bnd {α β : Type} (x : α) (q : Sg) (k : α → Sg → Option β) : bnd (some (x, q)) k = k x q := rfl
theorem pv_bndv {β : Type} (q : Sg) (k : Sg → Option β) : bndv (some q) k = k q := rfl
theorem pv_ga {z : Sg} {c m : Nat} (h : m < 2147483648) : ga z c (nI m) = z c m := by unfold ga; rw [nI_clamp h]
theorem pv_sa {z : Sg} {c m : Nat} {v : Int32} (h : m < 2147483648) : sa z c (nI m) v = u2 z c m v := by unfold sa; rw [nI_clamp h]
theorem pv_inb {m N : Nat} (h : m < N) (h2 : N < 2147483648) : inb (nI m) N = true := inb_of (nI_in h h2)
theorem pv_le {a b : Nat} (ha : a < 2147483648) (hb : b < 2147483648) : nI a ≤ nI b ↔ a ≤ b := nI_leI ha hb
theorem pv_lt {a b : Nat} (ha : a < 2147483648) (hb : b < 2147483648) : nI a < nI b ↔ a < b := nI_ltI ha hb
theorem pv_eq {a b : Nat} (ha : a < 2147483648) (hb : b < 2147483648) : nI a = nI b ↔ a = b := nI_eq ha hb
theorem pv_clamp {a : Nat} (ha : a < 2147483648) : (nI a).toNatClampNeg = a := nI_clamp ha
theorem pv_neg1 {a : Nat} (ha : a < 2147483648) : nI a = (-1 : Int32) ↔ False := by
  refine ⟨fun h => ?_, fun h => h.elim⟩
  have h1 := congrArg Int32.toInt h
  rw [nI_toInt ha] at h1
  have h2 : ((-1 : Int32)).toInt = -1 := by decide
  omega
theorem pv_neg1' {a : Nat} (ha : a < 2147483648) : nI a = -nI 1 ↔ False := pv_neg1 ha
theorem pv_not0 : ((0 : Int32) = 0) = True := by simp
theorem l_13 : (13 : Int32) = nI 13 := rfl
theorem l_100000 : (100000 : Int32) = nI 100000 := rfl
theorem l_0 : (0 : Int32) = nI 0 := rfl
theorem l_1 : (1 : Int32) = nI 1 := rfl
theorem l_2 : (2 : Int32) = nI 2 := rfl
theorem l_3 : (3 : Int32) = nI 3 := rfl
theorem l_4 : (4 : Int32) = nI 4 := rfl
theorem l_5 : (5 : Int32) = nI 5 := rfl
theorem l_6 : (6 : Int32) = nI 6 := rfl
theorem l_7 : (7 : Int32) = nI 7 := rfl
theorem l_8 : (8 : Int32) = nI 8 := rfl
theorem l_9 : (9 : Int32) = nI 9 := rfl
theorem l_10 : (10 : Int32) = nI 10 := rfl
theorem l_11 : (11 : Int32) = nI 11 := rfl
theorem l_12 : (12 : Int32) = nI 12 := rfl
theorem l_18 : (18 : Int32) = nI 18 := rfl
theorem l_19 : (19 : Int32) = nI 19 := rfl
theorem l_20 : (20 : Int32) = nI 20 := rfl
theorem l_23 : (23 : Int32) = nI 23 := rfl
theorem l_24 : (24 : Int32) = nI 24 := rfl
theorem l_32 : (32 : Int32) = nI 32 := rfl
theorem l_40 : (40 : Int32) = nI 40 := rfl
theorem l_48 : (48 : Int32) = nI 48 := rfl
theorem l_57 : (57 : Int32) = nI 57 := rfl
theorem l_60 : (60 : Int32) = nI 60 := rfl
theorem l_96 : (96 : Int32) = nI 96 := rfl
theorem l_97 : (97 : Int32) = nI 97 := rfl
theorem l_99 : (99 : Int32) = nI 99 := rfl
theorem l_100 : (100 : Int32) = nI 100 := rfl
theorem l_122 : (122 : Int32) = nI 122 := rfl
theorem l_160 : (160 : Int32) = nI 160 := rfl
theorem l_200 : (200 : Int32) = nI 200 := rfl
theorem l_255 : (255 : Int32) = nI 255 := rfl
theorem l_720 : (720 : Int32) = nI 720 := rfl
theorem l_999 : (999 : Int32) = nI 999 := rfl
theorem l_1000 : (1000 : Int32) = nI 1000 := rfl
theorem l_1200 : (1200 : Int32) = nI 1200 := rfl
theorem l_9999 : (9999 : Int32) = nI 9999 := rfl
/-- the scratch of a row's questions -/
def SC (r c j : Nat) : Prop := (c = r ∧ j = 6) ∨ (r + 8 ≤ c ∧ c ≤ r + 10) ∨ (42 ≤ c ∧ c < 70 ∧ c % 4 = 1)
def EqS (r : Nat) (z Z : Sg) : Prop := ∀ c j, ¬ SC r c j → Z c j = z c j
theorem EqS.rf {r : Nat} {z : Sg} : EqS r z z := fun _ _ _ => rfl
theorem EqS.tr {r : Nat} {z Z Y : Sg} (h1 : EqS r z Z) (h2 : EqS r Z Y) : EqS r z Y := fun c j h => (h2 c j h).trans (h1 c j h)
/-- the reference's scratch of its questions -/
def SM (c : Nat) : Prop := c = 94 ∨ c = 95
def EqM (z Z : Sg) : Prop := ∀ c j, ¬ SM c → Z c j = z c j
theorem EqM.rf {z : Sg} : EqM z z := fun _ _ _ => rfl
theorem EqM.tr {z Z Y : Sg} (h1 : EqM z Z) (h2 : EqM Z Y) : EqM z Y := fun c j h => (h2 c j h).trans (h1 c j h)
/-! the mowers' row, told once for both -/
def whoM (F : Nat → Nat → Int32) (p : Int32) : Nat → Nat → Int32
  | 0, _ => -1
  | k + 1, m => if F 0 m = p then nI m else whoM F p k (m + 1)
theorem whoM_cases (F : Nat → Nat → Int32) (p : Int32) : ∀ k m, (whoM F p k m = -1 ∧ ∀ j, m ≤ j → j < m + k → F 0 j ≠ p) ∨ ∃ j, m ≤ j ∧ j < m + k ∧ whoM F p k m = nI j ∧ F 0 j = p := by
  intro k
  induction k with
  | zero => intro m; exact Or.inl ⟨rfl, fun j h1 h2 => absurd h2 (by omega)⟩
  | succ k ih =>
    intro m
    unfold whoM
    by_cases h : F 0 m = p
    · exact Or.inr ⟨m, by omega, by omega, by rw [if_pos h], h⟩
    · rw [if_neg h]
      rcases ih (m + 1) with ⟨h1, h2⟩ | ⟨j, h1, h2, h3, h4⟩
      · refine Or.inl ⟨h1, fun j hj hk => ?_⟩
        by_cases e : j = m
        · rw [e]; exact h
        · exact h2 j (by omega) (by omega)
      · exact Or.inr ⟨j, by omega, by omega, h3, h4⟩
/-- who is at a place, of n -/
theorem who_at {F : Nat → Nat → Int32} {n : Nat} (p : Int32) : (whoM F p n 0 = -1 ∧ ∀ j, j < n → F 0 j ≠ p) ∨ ∃ j, j < n ∧ whoM F p n 0 = nI j ∧ F 0 j = p := by
  rcases whoM_cases F p n 0 with ⟨h1, h2⟩ | ⟨j, h1, h2, h3, h4⟩
  · exact Or.inl ⟨h1, fun j hj => h2 j (by omega) (by omega)⟩
  · exact Or.inr ⟨j, by omega, h3, h4⟩
/-- the class's row r holds n mowers F, marks K, the law lw -/
def rC (z : Sg) (r n lw : Nat) (F : Nat → Nat → Int32) (K : Nat → Int32) : Prop :=
  z r 3 = nI n ∧ z r 4 = nI lw ∧ (∀ m, m < n → z (r + 3) m = F 0 m) ∧ (∀ m, m < n → z (r + 4) m = F 1 m) ∧ (∀ m, m < n → z (r + 5) m = F 2 m) ∧ (∀ m, m < n → z (r + 6) m = F 3 m) ∧ (∀ m, m < n → z (r + 7) m = F 4 m) ∧ z (r + 1) 0 = K 0 ∧ z (r + 1) 1 = K 1 ∧ z (r + 1) 2 = K 2 ∧ z (r + 1) 3 = K 3
/-- the reference holds them -/
def rM (z : Sg) (n lw : Nat) (F : Nat → Nat → Int32) (K : Nat → Int32) : Prop :=
  z 78 0 = nI n ∧ z 78 10 = nI lw ∧ (∀ m, m < n → z 81 (3 * m) = F 0 m) ∧ (∀ m, m < n → z 81 (3 * m + 1) = F 1 m) ∧ (∀ m, m < n → z 81 (3 * m + 2) = F 2 m) ∧ (∀ m, m < n → z 79 m = F 3 m) ∧ (∀ m, m < n → z 80 m = F 4 m) ∧ z 82 0 = K 0 ∧ z 82 1 = K 1 ∧ z 82 2 = K 2 ∧ z 82 3 = K 3
theorem rC.eqS {z Z : Sg} {r n lw : Nat} {F : Nat → Nat → Int32} {K : Nat → Int32} (hr : isRow r) (h : rC z r n lw F K) (e : EqS r z Z) : rC Z r n lw F K := by
  obtain ⟨a1, a2, a3, a4, a5, a6, a7, a8, a9, a10, a11⟩ := h
  have hn : ∀ c j, (c = r ∧ j ≠ 6) ∨ (r < c ∧ c < r + 8) → Z c j = z c j := fun c j hc => e c j (by unfold SC isRow at *; omega)
  refine ⟨?_, ?_, fun m h => ?_, fun m h => ?_, fun m h => ?_, fun m h => ?_, fun m h => ?_, ?_, ?_, ?_, ?_⟩
  · rw [hn r 3 (by omega)]; exact a1
  · rw [hn r 4 (by omega)]; exact a2
  · rw [hn _ m (by omega)]; exact a3 m h
  · rw [hn _ m (by omega)]; exact a4 m h
  · rw [hn _ m (by omega)]; exact a5 m h
  · rw [hn _ m (by omega)]; exact a6 m h
  · rw [hn _ m (by omega)]; exact a7 m h
  · rw [hn _ 0 (by omega)]; exact a8
  · rw [hn _ 1 (by omega)]; exact a9
  · rw [hn _ 2 (by omega)]; exact a10
  · rw [hn _ 3 (by omega)]; exact a11
theorem rM.eqM {z Z : Sg} {n lw : Nat} {F : Nat → Nat → Int32} {K : Nat → Int32} (h : rM z n lw F K) (e : EqM z Z) : rM Z n lw F K := by
  obtain ⟨a1, a2, a3, a4, a5, a6, a7, a8, a9, a10, a11⟩ := h
  have hn : ∀ c j, c < 94 → Z c j = z c j := fun c j hc => e c j (by unfold SM; omega)
  refine ⟨?_, ?_, fun m h => ?_, fun m h => ?_, fun m h => ?_, fun m h => ?_, fun m h => ?_, ?_, ?_, ?_, ?_⟩
  · rw [hn 78 0 (by omega)]; exact a1
  · rw [hn 78 10 (by omega)]; exact a2
  · rw [hn 81 _ (by omega)]; exact a3 m h
  · rw [hn 81 _ (by omega)]; exact a4 m h
  · rw [hn 81 _ (by omega)]; exact a5 m h
  · rw [hn 79 _ (by omega)]; exact a6 m h
  · rw [hn 80 _ (by omega)]; exact a7 m h
  · rw [hn 82 _ (by omega)]; exact a8
  · rw [hn 82 _ (by omega)]; exact a9
  · rw [hn 82 _ (by omega)]; exact a10
  · rw [hn 82 _ (by omega)]; exact a11
theorem fuS {f k : Nat} (h : k < f) : ∃ g, f = g + 1 := ⟨f - 1, by omega⟩
section WHO
variable {fu r n lw : Nat} {z : Sg} {F : Nat → Nat → Int32} {K : Nat → Int32}
theorem whoC_loop (h : rC z r n lw F K) (hn : n ≤ 6) (p : Int32) : ∀ k m f, m + k = n → k < f → pR_whoAt_2 fu r f p (nI m) z = some (whoM F p k m, z) := by
  obtain ⟨a1, a2, a3, a4, a5, a6, a7, a8, a9, a10, a11⟩ := h
  intro k
  induction k with
  | zero =>
    intro m f h1 h2
    obtain ⟨f, rfl⟩ := fuS h2
    simp (disch := omega) only [pR_whoAt_2, a1, l_0, l_13, l_100000, l_1, l_2, l_3, l_4, l_5, l_6, l_7, l_8, l_9, l_10, l_11, l_12, l_18, l_19, l_20, l_23, l_24, l_32, l_40, l_48, l_57, l_60, l_96, l_97, l_99, l_100, l_122, l_160, l_200, l_255, l_720, l_999, l_1000, l_1200, l_9999, nI_add, pk_mul, pv_le, pv_lt, pv_eq, pv_ga, pv_sa, pv_inb, pv_clamp, pv_neg1, pv_neg1', pv_chk, pv_letm, pv_bnd, pv_bndv]
    rw [if_pos (by omega)]
    rfl
  | succ k ih =>
    intro m f h1 h2
    obtain ⟨f, rfl⟩ := fuS h2
    simp (disch := omega) only [pR_whoAt_2, a1, l_0, l_13, l_100000, l_1, l_2, l_3, l_4, l_5, l_6, l_7, l_8, l_9, l_10, l_11, l_12, l_18, l_19, l_20, l_23, l_24, l_32, l_40, l_48, l_57, l_60, l_96, l_97, l_99, l_100, l_122, l_160, l_200, l_255, l_720, l_999, l_1000, l_1200, l_9999, nI_add, pk_mul, pv_le, pv_lt, pv_eq, pv_ga, pv_sa, pv_inb, pv_clamp, pv_neg1, pv_neg1', pv_chk, pv_letm, pv_bnd, pv_bndv, a3]
    rw [if_neg (by omega), ih (m + 1) f (by omega) (by omega), whoM]
    by_cases e : F 0 m = p <;> simp [e]
theorem whoC (h : rC z r n lw F K) (hn : n ≤ 6) (hf : 10 ≤ fu) (p : Int32) : pR_whoAt fu r p z = some (whoM F p n 0, z) := whoC_loop h hn p n 0 fu (by omega) (by omega)
theorem whoMr_loop (h : rM z n lw F K) (hn : n ≤ 6) (p : Int32) : ∀ k m f, m + k = n → k < f → pM_whoAt_2 fu f p (nI m) z = some (whoM F p k m, z) := by
  obtain ⟨a1, a2, a3, a4, a5, a6, a7, a8, a9, a10, a11⟩ := h
  intro k
  induction k with
  | zero =>
    intro m f h1 h2
    obtain ⟨f, rfl⟩ := fuS h2
    simp (disch := omega) only [pM_whoAt_2, a1, l_0, l_13, l_100000, l_1, l_2, l_3, l_4, l_5, l_6, l_7, l_8, l_9, l_10, l_11, l_12, l_18, l_19, l_20, l_23, l_24, l_32, l_40, l_48, l_57, l_60, l_96, l_97, l_99, l_100, l_122, l_160, l_200, l_255, l_720, l_999, l_1000, l_1200, l_9999, nI_add, pk_mul, pv_le, pv_lt, pv_eq, pv_ga, pv_sa, pv_inb, pv_clamp, pv_neg1, pv_neg1', pv_chk, pv_letm, pv_bnd, pv_bndv]
    rw [if_pos (by omega)]
    rfl
  | succ k ih =>
    intro m f h1 h2
    obtain ⟨f, rfl⟩ := fuS h2
    simp (disch := omega) only [pM_whoAt_2, a1, l_0, l_13, l_100000, l_1, l_2, l_3, l_4, l_5, l_6, l_7, l_8, l_9, l_10, l_11, l_12, l_18, l_19, l_20, l_23, l_24, l_32, l_40, l_48, l_57, l_60, l_96, l_97, l_99, l_100, l_122, l_160, l_200, l_255, l_720, l_999, l_1000, l_1200, l_9999, nI_add, pk_mul, pv_le, pv_lt, pv_eq, pv_ga, pv_sa, pv_inb, pv_clamp, pv_neg1, pv_neg1', pv_chk, pv_letm, pv_bnd, pv_bndv, a3]
    rw [if_neg (by omega), ih (m + 1) f (by omega) (by omega), whoM]
    by_cases e : F 0 m = p <;> simp [e]
theorem whoMr (h : rM z n lw F K) (hn : n ≤ 6) (hf : 10 ≤ fu) (p : Int32) : pM_whoAt fu p z = some (whoM F p n 0, z) := whoMr_loop h hn p n 0 fu (by omega) (by omega)
end WHO
