/-! what holds between the class's cells and the reference's, between any two calls -/
def okR (n : Nat) (F : Nat → Nat → Int32) (K : Nat → Int32) : Prop := n ≤ 6 ∧ bF n F K ∧ bI 1000 (K 3) ∧ ∀ i, i < n → ∀ j, j < n → F 0 i = F 0 j → i = j
def rG (z : Sg) (n lw : Nat) (F : Nat → Nat → Int32) (K : Nat → Int32) : Prop :=
  (∀ m, m < n → z 86 (3 * m) = F 0 m) ∧ (∀ m, m < n → z 86 (3 * m + 1) = F 1 m) ∧ (∀ m, m < n → z 86 (3 * m + 2) = F 2 m) ∧ z 86 18 = K 0 ∧ z 86 19 = K 1 ∧ z 86 20 = K 2 ∧ z 86 21 = K 3 ∧ z 87 0 = nI n ∧ z 87 1 = nI lw
def iR (z : Sg) (n lw : Nat) (F : Nat → Nat → Int32) (K : Nat → Int32) : Prop := rC z 9 n lw F K ∧ rM z n lw F K ∧ okR n F K ∧ bI 10000 (z 10 4) ∧ z 82 4 = z 10 4
def iT (z : Sg) (lw tc : Nat) (C E : Nat → Nat → Nat) : Prop := lw < tc ∧ tc ≤ 6 ∧ z 0 8 = nI tc ∧ z 78 9 = nI tc ∧ ∀ t, t < tc → tOK (C t) (E t) ∧ lC z (42 + 4 * t) (C t) (E t) ∧ lM z t (C t) (E t)
def iB (z : Sg) (ts : Nat) : Prop := ts ≤ 160 ∧ z 3 1 = nI ts ∧ z 78 6 = nI ts ∧ ∀ j, j < ts → z 83 j = z 4 j ∧ bI 256 (z 4 j)
def iG (z : Sg) (n tc : Nat) (F : Nat → Nat → Int32) : Prop := z 78 11 = z 0 9 ∧ (z 0 9 = 0 ∨ (z 0 9 = 1 ∧ ∃ n' lw' F' K', n' ≤ n ∧ lw' < tc ∧ okR n' F' K' ∧ rC z 31 n' lw' F' K' ∧ rG z n' lw' F' K' ∧ (∀ m, m < n' → F' 3 m = F 3 m ∧ F' 4 m = F 4 m) ∧ bI 10000 (z 32 4) ∧ z 86 22 = z 32 4))
def iH1 (z : Sg) (s k : Nat) : Prop := k ≤ 40 ∧ z (70 + 2 * s) 2 = nI k ∧ z 89 s = nI k ∧ z 88 s = z (70 + 2 * s) 1 ∧ (z 88 s = -1 ∨ bI 3 (z 88 s)) ∧ ∀ j, j < 40 → z 90 (40 * s + j) = z (71 + 2 * s) j
def iH (z : Sg) : Prop := ∀ s, s < 4 → ∃ k, iH1 z s k
def wtb : List Int32 := [115, 119, 105, 110, 103, 115, 32, 32, 116, 105, 114, 101, 115, 32, 32, 32, 107, 101, 101, 112, 115, 32, 32, 32, 98, 101, 97, 116, 32, 32, 32, 32, 115, 119, 105, 110, 103, 32, 32, 32, 108, 101, 102, 116, 32, 32, 32, 32, 114, 105, 103, 104, 116, 32, 32, 32, 116, 105, 114, 101, 100, 32, 32, 32, 109, 111, 114, 101, 32, 32, 32, 32, 111, 114, 32, 32, 32, 32, 32, 32, 97, 110, 100, 32, 32, 32, 32, 32, 110, 111, 116, 32, 32, 32, 32, 32]
def iW (z : Sg) : Prop := ∀ j, j < 96 → z 92 j = wtb.getD j 0
def InvP (z : Sg) (n lw tc ts : Nat) (F : Nat → Nat → Int32) (K : Nat → Int32) (C E : Nat → Nat → Nat) : Prop := iR z n lw F K ∧ iT z lw tc C E ∧ iB z ts ∧ iG z n tc F ∧ iH z ∧ iW z
def Inv (z : Sg) : Prop := ∃ n lw tc ts F K C E, InvP z n lw tc ts F K C E
/-- what the class writes when it is asked -/
def QC (c j : Nat) : Prop := (c = 9 ∧ j = 6) ∨ (17 ≤ c ∧ c ≤ 30) ∨ (5 ≤ c ∧ c ≤ 8) ∨ ST c
/-- what the reference writes when it is asked -/
def QM (c j : Nat) : Prop := (c = 78 ∧ ((18 ≤ j ∧ j ≤ 21) ∨ (24 ≤ j ∧ j ≤ 26) ∨ 32 ≤ j)) ∨ (93 ≤ c ∧ c ≤ 98)
def EqQ (z Z : Sg) : Prop := ∀ c j, ¬ QC c j → Z c j = z c j
def EqR (z Z : Sg) : Prop := ∀ c j, ¬ QM c j → Z c j = z c j
def EqI (z Z : Sg) : Prop := ∀ c j, ¬ QC c j → ¬ QM c j → Z c j = z c j
theorem EqQ.rf {z : Sg} : EqQ z z := fun _ _ _ => rfl
theorem EqQ.tr {z Z Y : Sg} (h1 : EqQ z Z) (h2 : EqQ Z Y) : EqQ z Y := fun c j h => (h2 c j h).trans (h1 c j h)
theorem EqR.rf {z : Sg} : EqR z z := fun _ _ _ => rfl
theorem EqR.tr {z Z Y : Sg} (h1 : EqR z Z) (h2 : EqR Z Y) : EqR z Y := fun c j h => (h2 c j h).trans (h1 c j h)
theorem EqQ.i {z Z : Sg} (h : EqQ z Z) : EqI z Z := fun c j a _ => h c j a
theorem EqR.i {z Z : Sg} (h : EqR z Z) : EqI z Z := fun c j _ b => h c j b
theorem EqX.r {z Z : Sg} (h : EqX z Z) : EqR z Z := fun c j hc => h c j (fun q => hc (by unfold QM; omega))
theorem EqM.r {z Z : Sg} (h : EqM z Z) : EqR z Z := h.x.r
theorem EqT.q {z Z : Sg} (h : EqT z Z) : EqQ z Z := fun c j hc => h c j (fun q => hc (Or.inr (Or.inr (Or.inr q))))
theorem EqS.q9 {z Z : Sg} (h : EqS 9 z Z) : EqQ z Z := fun c j hc => h c j (fun q => hc (by unfold SC QC ST at *; omega))
theorem EqW.q20 {z Z : Sg} (h : EqW 20 z Z) : EqQ z Z := fun c j hc => h c j (fun q => hc (by unfold SW SC QC ST at *; omega))
theorem EqS.q20 {z Z : Sg} (h : EqS 20 z Z) : EqQ z Z := h.w.q20
theorem EqB.q20 {z Z : Sg} (h : EqB 20 z Z) : EqQ z Z := fun c j hc => h c j (fun q => hc (by unfold QC; omega))
theorem rC.at {z Z : Sg} {r n lw : Nat} {F : Nat → Nat → Int32} {K : Nat → Int32} (h : rC z r n lw F K) (e : ∀ c j, (c = r ∧ (j = 3 ∨ j = 4)) ∨ c = r + 1 ∨ (r + 3 ≤ c ∧ c ≤ r + 7) → Z c j = z c j) : rC Z r n lw F K := by
  obtain ⟨a1, a2, a3, a4, a5, a6, a7, a8, a9, a10, a11⟩ := h
  refine ⟨?_, ?_, fun m h => ?_, fun m h => ?_, fun m h => ?_, fun m h => ?_, fun m h => ?_, ?_, ?_, ?_, ?_⟩ <;> rw [e _ _ (by omega)] <;> first | assumption | exact a3 m h | exact a4 m h | exact a5 m h | exact a6 m h | exact a7 m h
theorem rM.at {z Z : Sg} {n lw : Nat} {F : Nat → Nat → Int32} {K : Nat → Int32} (h : rM z n lw F K) (e : ∀ c j, (c = 78 ∧ (j = 0 ∨ j = 10)) ∨ (79 ≤ c ∧ c ≤ 82) → Z c j = z c j) : rM Z n lw F K := by
  obtain ⟨a1, a2, a3, a4, a5, a6, a7, a8, a9, a10, a11⟩ := h
  refine ⟨?_, ?_, fun m h => ?_, fun m h => ?_, fun m h => ?_, fun m h => ?_, fun m h => ?_, ?_, ?_, ?_, ?_⟩ <;> rw [e _ _ (by omega)] <;> first | assumption | exact a3 m h | exact a4 m h | exact a5 m h | exact a6 m h | exact a7 m h
theorem rG.at {z Z : Sg} {n lw : Nat} {F : Nat → Nat → Int32} {K : Nat → Int32} (h : rG z n lw F K) (e : ∀ c j, c = 86 ∨ c = 87 → Z c j = z c j) : rG Z n lw F K := by
  obtain ⟨a1, a2, a3, a4, a5, a6, a7, a8, a9⟩ := h
  refine ⟨fun m h => ?_, fun m h => ?_, fun m h => ?_, ?_, ?_, ?_, ?_, ?_, ?_⟩ <;> rw [e _ _ (by omega)] <;> first | assumption | exact a1 m h | exact a2 m h | exact a3 m h
theorem lC.at {z Z : Sg} {b : Nat} {C E : Nat → Nat} (h : lC z b C E) (e : ∀ c j, c = b + 1 ∨ c = b + 2 → Z c j = z c j) : lC Z b C E := by
  obtain ⟨h1, h2, h3, h4⟩ := h
  exact ⟨by rw [e _ _ (by omega)]; exact h1, by rw [e _ _ (by omega)]; exact h2, by rw [e _ _ (by omega)]; exact h3, fun i hi => by rw [e _ _ (by omega)]; exact h4 i hi⟩
theorem lM.at {z Z : Sg} {t : Nat} {C E : Nat → Nat} (h : lM z t C E) (e : ∀ c j, c = 84 ∨ c = 85 → Z c j = z c j) : lM Z t C E := by
  obtain ⟨h0, h1, h2, h3, h4⟩ := h
  exact ⟨by rw [e _ _ (by omega)]; exact h0, by rw [e _ _ (by omega)]; exact h1, by rw [e _ _ (by omega)]; exact h2, by rw [e _ _ (by omega)]; exact h3, fun i hi => by rw [e _ _ (by omega)]; exact h4 i hi⟩
section KEEP
variable {z Z : Sg} {n lw tc ts : Nat} {F : Nat → Nat → Int32} {K : Nat → Int32} {C E : Nat → Nat → Nat}
theorem iR.at (h : iR z n lw F K) (e : ∀ c j, (c = 9 ∧ (j = 3 ∨ j = 4)) ∨ c = 10 ∨ (12 ≤ c ∧ c ≤ 16) ∨ (c = 78 ∧ (j = 0 ∨ j = 10)) ∨ (79 ≤ c ∧ c ≤ 82) → Z c j = z c j) : iR Z n lw F K :=
  ⟨h.1.at (fun c j hc => e c j (by omega)), h.2.1.at (fun c j hc => e c j (by omega)), h.2.2.1, by rw [e _ _ (by omega)]; exact h.2.2.2.1, by rw [e _ _ (by omega), e _ _ (by omega)]; exact h.2.2.2.2⟩
theorem iT.at (h : iT z lw tc C E) (e : ∀ c j, (c = 0 ∧ j = 8) ∨ (c = 78 ∧ j = 9) ∨ (43 ≤ c ∧ c < 66 ∧ (c % 4 = 3 ∨ c % 4 = 0)) ∨ c = 84 ∨ c = 85 → Z c j = z c j) : iT Z lw tc C E :=
  ⟨h.1, h.2.1, by rw [e _ _ (by omega)]; exact h.2.2.1, by rw [e _ _ (by omega)]; exact h.2.2.2.1, fun t ht => ⟨(h.2.2.2.2 t ht).1, (h.2.2.2.2 t ht).2.1.at (fun c j hc => e c j (by have := h.2.1; omega)), (h.2.2.2.2 t ht).2.2.at (fun c j hc => e c j (by omega))⟩⟩
theorem iB.at (h : iB z ts) (e : ∀ c j, (c = 3 ∧ j = 1) ∨ (c = 78 ∧ j = 6) ∨ c = 4 ∨ c = 83 → Z c j = z c j) : iB Z ts :=
  ⟨h.1, by rw [e _ _ (by omega)]; exact h.2.1, by rw [e _ _ (by omega)]; exact h.2.2.1, fun j hj => by rw [e _ _ (by omega), e _ _ (by omega)]; exact h.2.2.2 j hj⟩
theorem iG.at (h : iG z n tc F) (e : ∀ c j, (c = 0 ∧ j = 9) ∨ (c = 78 ∧ j = 11) ∨ (c = 31 ∧ (j = 3 ∨ j = 4)) ∨ (32 ≤ c ∧ c ≤ 38) ∨ c = 86 ∨ c = 87 → Z c j = z c j) : iG Z n tc F := by
  obtain ⟨h1, h2⟩ := h
  refine ⟨by rw [e _ _ (by omega), e _ _ (by omega)]; exact h1, ?_⟩
  rw [e 0 9 (by omega), e 32 4 (by omega), e 86 22 (by omega)]
  rcases h2 with h2 | ⟨h2, n', lw', F', K', a1, a2, a3, a4, a5, a6, a7, a8⟩
  · exact Or.inl h2
  · exact Or.inr ⟨h2, n', lw', F', K', a1, a2, a3, a4.at (fun c j hc => e c j (by omega)), a5.at (fun c j hc => e c j (by omega)), a6, a7, a8⟩
theorem iH1.at {s k : Nat} (hs : s < 4) (h : iH1 z s k) (e : ∀ c j, c = 70 + 2 * s ∨ c = 71 + 2 * s ∨ ((c = 88 ∨ c = 89) ∧ j = s) ∨ (c = 90 ∧ 40 * s ≤ j ∧ j < 40 * s + 40) → Z c j = z c j) : iH1 Z s k := by
  obtain ⟨a1, a2, a3, a4, a5, a6⟩ := h
  have e88 := e 88 s (by omega)
  refine ⟨a1, by rw [e _ _ (by omega)]; exact a2, by rw [e _ _ (by omega)]; exact a3, by rw [e88, e _ _ (by omega)]; exact a4, by rw [e88]; exact a5, fun j hj => by rw [e _ _ (by omega), e _ _ (by omega)]; exact a6 j hj⟩
theorem iH.at (h : iH z) (e : ∀ c j, (70 ≤ c ∧ c ≤ 77) ∨ (88 ≤ c ∧ c ≤ 90) → Z c j = z c j) : iH Z := fun s hs => by
  obtain ⟨k, hk⟩ := h s hs
  exact ⟨k, hk.at hs (fun c j hc => e c j (by omega))⟩
theorem iW.at (h : iW z) (e : ∀ c j, c = 92 → Z c j = z c j) : iW Z := fun j hj => by rw [e _ _ rfl]; exact h j hj
theorem InvP.i (h : InvP z n lw tc ts F K C E) (e : EqI z Z) : InvP Z n lw tc ts F K C E := by
  have e' : ∀ c j, ¬ ((c = 9 ∧ j = 6) ∨ (17 ≤ c ∧ c ≤ 30) ∨ (5 ≤ c ∧ c ≤ 8) ∨ (42 ≤ c ∧ c < 70 ∧ c % 4 = 1) ∨ (c = 78 ∧ ((18 ≤ j ∧ j ≤ 21) ∨ (24 ≤ j ∧ j ≤ 26) ∨ 32 ≤ j)) ∨ (93 ≤ c ∧ c ≤ 98)) → Z c j = z c j := fun c j hc => e c j (fun q => hc (by unfold QC ST at q; omega)) (fun q => hc (by unfold QM at q; omega))
  obtain ⟨h1, h2, h3, h4, h5, h6⟩ := h
  exact ⟨h1.at (fun c j hc => e' c j (by omega)), h2.at (fun c j hc => e' c j (by omega)), h3.at (fun c j hc => e' c j (by omega)), h4.at (fun c j hc => e' c j (by omega)), h5.at (fun c j hc => e' c j (by omega)), h6.at (fun c j hc => e' c j (by omega))⟩
theorem InvP.bs {fu : Nat} (hf : 1000 ≤ fu) (h : InvP z n lw tc ts F K C E) : bs fu n lw F K (C lw) (E lw) := ⟨h.1.2.2.1.1, by have := h.2.1.1; have := h.2.1.2.1; omega, (h.2.1.2.2.2.2 lw h.2.1.1).1, hf, h.1.2.2.1.2.1⟩
theorem InvP.lC (h : InvP z n lw tc ts F K C E) : lC z (42 + 4 * lw) (C lw) (E lw) := (h.2.1.2.2.2.2 lw h.2.1.1).2.1
theorem InvP.lM (h : InvP z n lw tc ts F K C E) : lM z lw (C lw) (E lw) := (h.2.1.2.2.2.2 lw h.2.1.1).2.2
/-- a pair of questions: both answer, alike, and keep all that counts -/
theorem ask2 {α : Type} {pS pM : Sg → Option (α × Sg)} (h : InvP z n lw tc ts F K C E) (v : α) (hS : ∃ Z, pS z = some (v, Z) ∧ EqQ z Z) (hM : ∀ y, InvP y n lw tc ts F K C E → EqI z y → ∃ Z, pM y = some (v, Z) ∧ EqR y Z) : ∃ r z1 z2, pS z = some (r, z1) ∧ pM z1 = some (r, z2) ∧ Inv z2 := by
  obtain ⟨z1, e1, q1⟩ := hS
  have h1 := h.i q1.i
  obtain ⟨z2, e2, q2⟩ := hM z1 h1 q1.i
  exact ⟨v, z1, z2, e1, e2, n, lw, tc, ts, F, K, C, E, h1.i q2.i⟩
end KEEP
/-! a number within bounds, or not: both say so -/
theorem wi_cases {M : Int32} {k : Nat} (hM : M = nI k) (hk : k < 2147483648) (v : Int32) : ((∀ fu z, pS_within fu v M z = some (0, z)) ∧ ∀ fu z, pM_in fu v 0 M z = some (0, z)) ∨ ∃ j, j ≤ k ∧ v = nI j ∧ (∀ fu z, pS_within fu v M z = some (1, z)) ∧ ∀ fu z, pM_in fu v 0 M z = some (1, z) := by
  subst hM
  unfold pS_within pM_in
  by_cases h1 : v < 0
  · exact Or.inl ⟨fun fu z => by rw [if_pos h1], fun fu z => by rw [if_pos h1]⟩
  · obtain ⟨j, hj, rfl⟩ := nI_of h1
    by_cases h2 : nI k < nI j
    · exact Or.inl ⟨fun fu z => by rw [if_neg h1, if_pos h2], fun fu z => by rw [if_neg h1, if_pos h2]⟩
    · refine Or.inr ⟨j, ?_, rfl, fun fu z => by rw [if_neg h1, if_neg h2], fun fu z => by rw [if_neg h1, if_neg h2]⟩
      rw [pv_lt hk (by omega)] at h2
      omega
/-- the same of bounds low to high -/
theorem in_cases {A M : Int32} {a k : Nat} (hA : A = nI a) (hM : M = nI k) (hk : k < 2147483648) (ha : a < 2147483648) (v : Int32) : (∀ fu z, pM_in fu v A M z = some (0, z)) ∧ (v < A ∨ M < v) ∨ ∃ j, a ≤ j ∧ j ≤ k ∧ v = nI j ∧ ¬ v < A ∧ ¬ M < v ∧ ∀ fu z, pM_in fu v A M z = some (1, z) := by
  subst hA hM
  unfold pM_in
  by_cases h1 : v < nI a
  · exact Or.inl ⟨fun fu z => by rw [if_pos h1], Or.inl h1⟩
  · have h0 : ¬ v < 0 := fun q => h1 (by
      rw [Int32.lt_iff_toInt_lt] at q ⊢
      rw [nI_toInt ha]
      have : (0 : Int32).toInt = 0 := by decide
      omega)
    obtain ⟨j, hj, rfl⟩ := nI_of h0
    by_cases h2 : nI k < nI j
    · exact Or.inl ⟨fun fu z => by rw [if_neg h1, if_pos h2], Or.inr h2⟩
    · refine Or.inr ⟨j, ?_, ?_, rfl, h1, h2, fun fu z => by rw [if_neg h1, if_neg h2]⟩
      · rw [pv_lt hj ha] at h1; omega
      · rw [pv_lt hk hj] at h2; omega
theorem has_cases {zc zm : Sg} {r n : Nat} (hn : n ≤ 6) (hc : zc r 3 = nI n) (hm : zm 78 0 = nI n) (v : Int32) : ((∀ fu, pR_has fu r v zc = some (0, zc)) ∧ ∀ fu, pM_isOne fu v zm = some (0, zm)) ∨ ∃ j, j < n ∧ v = nI j ∧ (∀ fu, pR_has fu r v zc = some (1, zc)) ∧ ∀ fu, pM_isOne fu v zm = some (1, zm) := by
  unfold pR_has pM_isOne pM_in
  by_cases h1 : v < 0
  · exact Or.inl ⟨fun fu => by rw [if_pos h1], fun fu => by rw [if_pos h1, pv_bnd]; rfl⟩
  · obtain ⟨j, hj, rfl⟩ := nI_of h1
    by_cases h2 : n ≤ j
    · refine Or.inl ⟨fun fu => by rw [if_neg h1, hc, if_pos (nI_le h2 hj)], fun fu => ?_⟩
      rw [if_neg h1, hm, if_pos (by
        rw [Int32.lt_iff_toInt_lt, nI_toInt hj]
        rcases (show n = 0 ∨ n = 1 ∨ n = 2 ∨ n = 3 ∨ n = 4 ∨ n = 5 ∨ n = 6 by omega) with rfl | rfl | rfl | rfl | rfl | rfl | rfl
        · have : (nI 0 - 1).toInt = -1 := by decide
          omega
        · have : (nI 1 - 1).toInt = 0 := by decide
          omega
        · have : (nI 2 - 1).toInt = 1 := by decide
          omega
        · have : (nI 3 - 1).toInt = 2 := by decide
          omega
        · have : (nI 4 - 1).toInt = 3 := by decide
          omega
        · have : (nI 5 - 1).toInt = 4 := by decide
          omega
        · have : (nI 6 - 1).toInt = 5 := by decide
          omega), pv_bnd]
      rfl
    · refine Or.inr ⟨j, by omega, rfl, fun fu => by rw [if_neg h1, hc, if_neg (nI_ge (by omega) (by omega))], fun fu => ?_⟩
      obtain ⟨n, rfl⟩ : ∃ q, n = q + 1 := ⟨n - 1, by omega⟩
      rw [if_neg h1, hm, nI_pred, if_neg (by rw [pv_lt (by omega) (by omega)]; omega), pv_bnd]
      rfl
