/-! what a row's questions answer, told once for both -/
def seenM (n : Nat) (F : Nat → Nat → Int32) (K : Nat → Int32) (m : Nat) (p : Int32) : Int32 :=
  if p = K 0 then K 1 else if whoM F p n 0 = -1 then F 1 m else F 1 (whoM F p n 0).toNatClampNeg
def nxM (n : Nat) (F : Nat → Nat → Int32) (K : Nat → Int32) (m : Nat) : Nat → Int32 := fun j => if j = 0 then K 1 else if j = 1 then F 1 m else if j = 2 then seenM n F K m (F 0 m - 1) else if j = 3 then seenM n F K m (F 0 m + 1) else if j = 4 then F 2 m else F 4 m
def apM (a b : Int32) : Bool := decide (a - b = 6) || decide (b - a = 6)
def clM (n : Nat) (F : Nat → Nat → Int32) (K : Nat → Int32) (m : Nat) : Bool := apM (F 1 m) (seenM n F K m (F 0 m - 1)) || apM (F 1 m) (seenM n F K m (F 0 m + 1))
abbrev LT : Type := Nat → (Nat → Int32) → Int32
def keM (L : LT) (n : Nat) (F : Nat → Nat → Int32) (K : Nat → Int32) (m : Nat) : Int32 := if F 3 m = 1 then K 1 else if F 3 m = 3 then (K 1 + 6) - (K 1 + 6) / 12 * 12 else if F 3 m = 4 then F 4 m else L 2 (nxM n F K m)
def c11 (v : Int32) : Int32 := if 11 < v then 11 else v
def fmM (v : Int32) : Int32 := (v + 12) - (v + 12) / 12 * 12
def hfM (L : LT) (n : Nat) (F : Nat → Nat → Int32) (K : Nat → Int32) (m : Nat) : Int32 := if F 3 m = 5 then (if K 3 - K 3 / 5 * 5 = 0 then 0 else fmM (keM L n F K m - F 1 m)) else if F 3 m = 1 ∨ F 3 m = 3 then c11 (if keM L n F K m = F 1 m then L 0 (nxM n F K m) else L 0 (nxM n F K m) + 1) else if F 3 m = 2 then c11 (L 0 (nxM n F K m) + F 4 m / 3) else if F 3 m = 4 then c11 ((L 0 (nxM n F K m) + F 4 m / 3) * 2) else c11 (L 0 (nxM n F K m))
def htM (L : LT) (n : Nat) (F : Nat → Nat → Int32) (K : Nat → Int32) (m : Nat) : Int32 := if F 3 m = 5 then -1 else if F 3 m = 2 ∨ F 3 m = 4 then 2 * (if clM n F K m then L 1 (nxM n F K m) + 5 else L 1 (nxM n F K m)) else if F 3 m = 3 then (if clM n F K m then L 1 (nxM n F K m) + 5 else L 1 (nxM n F K m)) - F 4 m else (if clM n F K m then L 1 (nxM n F K m) + 5 else L 1 (nxM n F K m))
def bI (k : Nat) (x : Int32) : Prop := ∃ a, a < k ∧ x = nI a
/-- what all rows keep to -/
def bF (n : Nat) (F : Nat → Nat → Int32) (K : Nat → Int32) : Prop := (∀ m, m < n → bI 10 (F 0 m)) ∧ (∀ m, m < n → bI 12 (F 1 m)) ∧ (∀ m, m < n → bI 100 (F 2 m)) ∧ (∀ m, m < n → bI 6 (F 3 m)) ∧ (∀ m, m < n → bI 10 (F 4 m)) ∧ bI 10 (K 0) ∧ bI 12 (K 1) ∧ bI 12 (K 2)
theorem seen_b {n : Nat} {F : Nat → Nat → Int32} {K : Nat → Int32} (h : bF n F K) {m : Nat} (hm : m < n) (hn : n ≤ 6) (p : Int32) : bI 12 (seenM n F K m p) := by
  obtain ⟨h0, h1, h2, h3, h4, h5, h6, h7⟩ := h
  unfold seenM
  split
  · exact h6
  · rcases who_at (F := F) (n := n) p with ⟨e, -⟩ | ⟨j, hj, e, -⟩
    · rw [if_pos e]; exact h1 m hm
    · rw [e, if_neg (fun q => (pv_neg1 (by omega)).mp q), pv_clamp (by omega)]; exact h1 j hj
theorem cl3_b {p : Nat} (hp : p ≠ 1) (v : Int32) : bI 12 (cl3 p v) := by
  unfold cl3 lo3 hi3
  rw [if_neg hp, if_neg hp]
  by_cases h : (0 : Int32) ≤ v
  · rw [if_pos h]
    by_cases h2 : v ≤ 11
    · rw [if_pos h2]
      obtain ⟨j, h3, h4⟩ := nI_of2 (M := 11) (n := 11) (by decide) (fun q => by rw [Int32.lt_iff_toInt_lt] at q; rw [Int32.le_iff_toInt_le] at h; omega) h2
      exact ⟨j, by omega, h4⟩
    · rw [if_neg h2]; exact ⟨11, by omega, rfl⟩
  · rw [if_neg h]; exact ⟨0, by omega, rfl⟩
theorem cl_tab : ∀ a, a < 12 → ∀ b, b < 12 → (((if 0 ≤ (nI a - nI b) then (nI a - nI b) else 0 - (nI a - nI b)) = 6) ↔ apM (nI a) (nI b) = true) := by decide +kernel
theorem fm_tab : ∀ a, a < 12 → ∀ b, b < 12 → (if 0 ≤ (nI a - nI b) ^^^ 12 then (nI a - nI b) - (nI a - nI b) / 12 * 12 else if (nI a - nI b) - (nI a - nI b) / 12 * 12 = 0 then (nI a - nI b) - (nI a - nI b) / 12 * 12 else (nI a - nI b) - (nI a - nI b) / 12 * 12 + 12) = fmM (nI a - nI b) := by decide +kernel
theorem fm_b : ∀ a, a < 12 → ∀ b, b < 12 → ∃ c, c < 12 ∧ fmM (nI a - nI b) = nI c := by decide +kernel
theorem c11_b {v : Int32} {k : Nat} (hk : k < 1000) (h : bI k v) : bI 12 (c11 v) ∧ c11 v = (if 0 ≤ v then (if v ≤ 11 then v else 11) else 0) := by
  obtain ⟨a, ha, rfl⟩ := h
  unfold c11
  rw [l_0, if_pos (nI_le (by omega) (by omega)), l_11]
  by_cases q : 11 < a
  · rw [if_pos (nI_lt q (by omega)), if_neg (nI_ge q (by omega))]; exact ⟨⟨11, by omega, rfl⟩, rfl⟩
  · rw [if_neg (nI_nlt (by omega) (by omega)), if_pos (nI_le (by omega) (by omega))]; exact ⟨⟨a, by omega, rfl⟩, rfl⟩
/-- law stacks -/
def ST (c : Nat) : Prop := 42 ≤ c ∧ c < 70 ∧ c % 4 = 1
def EqT (z Z : Sg) : Prop := ∀ c j, ¬ ST c → Z c j = z c j
theorem EqT.rf {z : Sg} : EqT z z := fun _ _ _ => rfl
theorem EqT.tr {z Z Y : Sg} (h1 : EqT z Z) (h2 : EqT Z Y) : EqT z Y := fun c j h => (h2 c j h).trans (h1 c j h)
theorem EqT.s {r : Nat} {z Z : Sg} (h : EqT z Z) : EqS r z Z := fun c j hc => h c j (fun q => hc (Or.inr (Or.inr q)))
theorem EqS.u {r : Nat} {z Z : Sg} {c j : Nat} {v : Int32} (h : EqS r z Z) (hs : SC r c j) : EqS r z (u2 Z c j v) := fun a b hab => by
  rw [pv_u2, if_neg (fun q => by rw [q.1, q.2] at hab; exact hab hs)]
  exact h a b hab
/-- what looking writes -/
def EqL (r : Nat) (z Z : Sg) : Prop := ∀ c j, ¬ ((c = r ∧ j = 6) ∨ c = r + 8) → Z c j = z c j
theorem EqL.rf {r : Nat} {z : Sg} : EqL r z z := fun _ _ _ => rfl
theorem EqL.s {r : Nat} {z Z : Sg} (h : EqL r z Z) : EqS r z Z := fun c j hc => h c j (fun q => hc (by unfold SC; omega))
theorem EqL.u {r : Nat} {z Z : Sg} {c j : Nat} {v : Int32} (h : EqL r z Z) (hs : (c = r ∧ j = 6) ∨ c = r + 8) : EqL r z (u2 Z c j v) := fun a b hab => by
  rw [pv_u2, if_neg (fun q => by rw [q.1, q.2] at hab; exact hab hs)]
  exact h a b hab
/-- the row r looks at m -/
def lkd (z : Sg) (r n lw : Nat) (F : Nat → Nat → Int32) (K : Nat → Int32) (m : Nat) : Prop := rC z r n lw F K ∧ z r 6 = nI m ∧ ∀ j, j < 6 → z (r + 8) j = nxM n F K m j
theorem lkd.t {z Z : Sg} {r n lw : Nat} {F : Nat → Nat → Int32} {K : Nat → Int32} {m : Nat} (hr : isRow r) (h : lkd z r n lw F K m) (e : EqT z Z) : lkd Z r n lw F K m := by
  have hST : ∀ k, k ≤ 10 → ¬ ST (r + k) := fun k hk q => by unfold ST isRow at *; omega
  refine ⟨h.1.eqS hr e.s, ?_, fun j hj => ?_⟩
  · rw [e r 6 (hST 0 (by omega))]; exact h.2.1
  · rw [e _ j (hST 8 (by omega))]; exact h.2.2 j hj
section CLS
variable {fu r n lw m : Nat} {z : Sg} {F : Nat → Nat → Int32} {K : Nat → Int32} {C E : Nat → Nat}
theorem seenC (h : rC z r n lw F K) (hn : n ≤ 6) (hf : 10 ≤ fu) (hm : m < n) (hw : z r 6 = nI m) (p : Int32) : pR_seenAt fu r p z = some (seenM n F K m p, z) := by
  have hwho := whoC (fu := fu) h hn hf p
  obtain ⟨a1, a2, a3, a4, a5, a6, a7, a8, a9, a10, a11⟩ := h
  unfold pR_seenAt seenM
  rw [a8, a9, hwho, pv_bnd]
  by_cases e : p = K 0
  · rw [if_pos e, if_pos e]
  · rw [if_neg e, if_neg e]
    rcases who_at (F := F) (n := n) p with ⟨e, -⟩ | ⟨j, hj, e, -⟩
    · rw [e, if_neg (by decide), if_pos rfl, hw, pv_inb (by omega) (by omega), pv_chk, pv_ga (by omega), a4 m hm]
    · rw [e, if_pos (nI_pos' (by omega)), if_neg (fun q => (pv_neg1 (by omega)).mp q), pv_inb (by omega) (by omega), pv_chk, pv_ga (by omega), a4 j hj, pv_clamp (by omega)]
theorem lookC (hr : isRow r) (h : rC z r n lw F K) (hn : n ≤ 6) (hf : 10 ≤ fu) (hm : m < n) : ∃ Z, pR_lookAt fu r (nI m) z = some Z ∧ EqL r z Z ∧ lkd Z r n lw F K m := by
  have e1 : EqL r z (u2 z r 6 (nI m)) := EqL.rf.u (Or.inl ⟨rfl, rfl⟩)
  have hw1 : (u2 z r 6 (nI m)) r 6 = nI m := by rw [pv_u2, if_pos ⟨rfl, rfl⟩]
  unfold pR_lookAt
  rw [pv_letm]
  generalize u2 z r 6 (nI m) = z1 at e1 hw1 ⊢
  have h1 := h.eqS hr e1.s
  rw [pv_inb (by omega) (by omega), pv_chk, pv_letm, pv_ga (by omega), h1.2.2.1 m hm, pv_letm, h1.2.2.2.2.2.2.2.2.1]
  have e3 : EqL r z (u2 z1 (r + 8) 0 (K 1)) := e1.u (Or.inr rfl)
  have hw3 : (u2 z1 (r + 8) 0 (K 1)) r 6 = nI m := by rw [pv_u2, if_neg (by omega)]; exact hw1
  have n3 : (u2 z1 (r + 8) 0 (K 1)) (r + 8) 0 = K 1 := by rw [pv_u2, if_pos ⟨rfl, rfl⟩]
  generalize u2 z1 (r + 8) 0 (K 1) = z3 at e3 hw3 n3 ⊢
  have h3 := h.eqS hr e3.s
  rw [pv_chk, pv_letm, pv_ga (by omega), h3.2.2.2.1 m hm]
  have e4 : EqL r z (u2 z3 (r + 8) 1 (F 1 m)) := e3.u (Or.inr rfl)
  have hw4 : (u2 z3 (r + 8) 1 (F 1 m)) r 6 = nI m := by rw [pv_u2, if_neg (by omega)]; exact hw3
  have n4 : (u2 z3 (r + 8) 1 (F 1 m)) (r + 8) 0 = K 1 ∧ (u2 z3 (r + 8) 1 (F 1 m)) (r + 8) 1 = F 1 m := ⟨by rw [pv_u2, if_neg (by omega)]; exact n3, by rw [pv_u2, if_pos ⟨rfl, rfl⟩]⟩
  generalize u2 z3 (r + 8) 1 (F 1 m) = z4 at e4 hw4 n4 ⊢
  have h4 := h.eqS hr e4.s
  rw [seenC h4 hn hf hm hw4, pv_bnd, pv_letm]
  generalize hs2 : seenM n F K m (F 0 m - 1) = s2
  have e7 : EqL r z (u2 z4 (r + 8) 2 s2) := e4.u (Or.inr rfl)
  have hw7 : (u2 z4 (r + 8) 2 s2) r 6 = nI m := by rw [pv_u2, if_neg (by omega)]; exact hw4
  have n7 : (u2 z4 (r + 8) 2 s2) (r + 8) 0 = K 1 ∧ (u2 z4 (r + 8) 2 s2) (r + 8) 1 = F 1 m ∧ (u2 z4 (r + 8) 2 s2) (r + 8) 2 = s2 := ⟨by rw [pv_u2, if_neg (by omega)]; exact n4.1, by rw [pv_u2, if_neg (by omega)]; exact n4.2, by rw [pv_u2, if_pos ⟨rfl, rfl⟩]⟩
  show ∃ Z, (bnd (pR_seenAt fu r (F 0 m + 1) (u2 z4 (r + 8) 2 s2)) _) = _ ∧ _
  generalize u2 z4 (r + 8) 2 s2 = z7 at e7 hw7 n7 ⊢
  have h7 := h.eqS hr e7.s
  rw [seenC h7 hn hf hm hw7, pv_bnd, pv_letm]
  generalize hs3 : seenM n F K m (F 0 m + 1) = s3
  show ∃ Z, chk _ (letm (u2 (u2 z7 (r + 8) 3 s3) (r + 8) 4 (ga (u2 z7 (r + 8) 3 s3) (r + 5) (nI m))) _) = _ ∧ _
  have e10 : EqL r z (u2 z7 (r + 8) 3 s3) := e7.u (Or.inr rfl)
  have hw10 : (u2 z7 (r + 8) 3 s3) r 6 = nI m := by rw [pv_u2, if_neg (by omega)]; exact hw7
  have n10 : (u2 z7 (r + 8) 3 s3) (r + 8) 0 = K 1 ∧ (u2 z7 (r + 8) 3 s3) (r + 8) 1 = F 1 m ∧ (u2 z7 (r + 8) 3 s3) (r + 8) 2 = s2 ∧ (u2 z7 (r + 8) 3 s3) (r + 8) 3 = s3 := ⟨by rw [pv_u2, if_neg (by omega)]; exact n7.1, by rw [pv_u2, if_neg (by omega)]; exact n7.2.1, by rw [pv_u2, if_neg (by omega)]; exact n7.2.2, by rw [pv_u2, if_pos ⟨rfl, rfl⟩]⟩
  generalize u2 z7 (r + 8) 3 s3 = z10 at e10 hw10 n10 ⊢
  have h10 := h.eqS hr e10.s
  rw [pv_chk, pv_letm, pv_ga (by omega), h10.2.2.2.2.1 m hm]
  have e11 : EqL r z (u2 z10 (r + 8) 4 (F 2 m)) := e10.u (Or.inr rfl)
  have h11 := h.eqS hr e11.s
  rw [pv_chk, pv_letm, pv_ga (by omega), h11.2.2.2.2.2.2.1 m hm]
  refine ⟨_, rfl, e11.u (Or.inr rfl), h.eqS hr (e11.u (Or.inr rfl)).s, by rw [pv_u2, if_neg (by omega), pv_u2, if_neg (by omega)]; exact hw10, fun j hj => ?_⟩
  obtain ⟨q0, q1, q2, q3⟩ := n10
  unfold nxM
  rw [hs2, hs3]
  rcases (show j = 0 ∨ j = 1 ∨ j = 2 ∨ j = 3 ∨ j = 4 ∨ j = 5 by omega) with rfl | rfl | rfl | rfl | rfl | rfl <;> simp [pv_u2, q0, q1, q2, q3]
end CLS
