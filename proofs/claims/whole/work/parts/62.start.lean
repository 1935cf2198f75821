/-! the two constructors: the first text -/
def tokF (T : Nat → Int32) (n : Nat) : Nat → Nat → List Tok
  | 0, _ => []
  | k + 1, a => tok1 T n a :: if (tok1 T n a).1 = 257 then [] else tokF T n k (tok1 T n a).2.2.2
theorem tkL_F {T : Nat → Int32} {n : Nat} : ∀ k L a, tkL T n L a → L.length ≤ k → L = tokF T n k a := by
  intro k
  induction k with
  | zero =>
    intro L a h hl
    cases L with
    | nil => exact absurd h id
    | cons t l => exact absurd hl (by simp)
  | succ k ih =>
    intro L a h hl
    cases L with
    | nil => exact absurd h id
    | cons t l =>
      obtain ⟨h1, h2, h3⟩ := h
      rw [List.length_cons] at hl
      show t :: l = tok1 T n a :: if (tok1 T n a).1 = 257 then [] else tokF T n k (tok1 T n a).2.2.2
      rw [← h1]
      by_cases q : t.1 = 257
      · rw [if_pos q] at h3 ⊢
        rw [h3]
      · rw [if_neg q] at h3 ⊢
        rw [← ih l _ h3 (by omega)]
def TC0 (j : Nat) : Int32 := jsB 0 (nI j)
def TM0 (j : Nat) : Int32 := zM 91 j
def aT1 : List Nat := [16, 15, 1, 0, 100003]
def aT2 : List Nat := [100001, 16, 15, 1, 0, 100003]
def aT3 : List Nat := [0, 100001, 16, 15, 1, 0, 100003]
theorem fstC : txM (tokF TC0 51 60 0) = .inr (aT1, aT2, aT3) := by decide +kernel
theorem fstM : txM (tokF TM0 50 60 0) = .inr (aT1, aT2, aT3) := by decide +kernel
theorem byC : ∀ j, j < 51 → (TC0 j).toNatClampNeg < 256 ∧ TC0 j = nI (TC0 j).toNatClampNeg := by decide +kernel
theorem byM : ∀ j, j < 50 → (TM0 j).toNatClampNeg < 256 ∧ TM0 j = nI (TM0 j).toNatClampNeg := by decide +kernel
theorem ich_tab : ∀ i, i < 51 → ((((jsB 0 (nI i)) &&& 255).toUInt32 % 65536).toInt32) = jsB 0 (nI i) ∧ isC (((((jsB 0 (nI i)) &&& 255).toUInt32 % 65536).toInt32)) = true := by decide +kernel
section INI
variable {fu : Nat}
theorem ichC {i : Nat} (hi : i < 51) (z : Sg) : pJS_charAt fu 0 (nI i) z = some (jsB 0 (nI i), z) := by
  obtain ⟨t1, t2⟩ := ich_tab i hi
  unfold pJS_charAt pJS_isLatin1 pJL_charAt pJS_checkIndex pJP_checkIndex
  rw [if_neg (show ¬ (1 : Int32) = 0 by decide), if_pos (show (0 : Int32) = 0 from rfl), pv_bnd, if_neg (show ¬ (1 : Int32) = 0 by decide), if_neg (nI_pos (by omega)), show (jsLen.getD 0 0) = 51 from rfl, if_pos (nI_lt hi (by omega)), pv_bnd, pv_bndv, pv_inb hi (by omega), pv_chk, t2, pv_chk, pv_bnd, t2, pv_chk, t1]
theorem ilenC (z : Sg) : pJS_length fu 0 z = some (nI 51, z) := by
  unfold pJS_length pJS_coder
  rw [if_neg (show ¬ (1 : Int32) = 0 by decide), pv_bnd]
  rfl
def endI (fu : Nat) (z : Sg) : Option Sg := bnd (pD_readAll fu z) (fun x4 z3 => bndv (pL_become fu 42 66 z3) (fun z5 => letm (u2 z5 0 8 1) (fun z6 => some z6)))
theorem inlC : ∀ k a f z, a + k = 51 → k < f → z 3 1 = nI a → (∀ j, j < a → z 4 j = TC0 j) → ∃ Z, pS_init_154 fu f (nI a) z = endI fu Z ∧ Z 3 1 = nI 51 ∧ (∀ j, j < 51 → Z 4 j = TC0 j) ∧ ∀ c j, ¬ (c = 3 ∧ j = 1) → c ≠ 4 → Z c j = z c j := by
  intro k
  induction k with
  | zero =>
    intro a f z h1 h2 h3 h4
    obtain ⟨f, rfl⟩ := fuS h2
    have : a = 51 := by omega
    subst this
    rw [pS_init_154, ilenC, pv_bnd, if_pos (show nI 51 ≤ nI 51 by decide)]
    exact ⟨z, rfl, h3, h4, fun _ _ _ _ => rfl⟩
  | succ k ih =>
    intro a f z h1 h2 h3 h4
    obtain ⟨f, rfl⟩ := fuS h2
    rw [pS_init_154, ilenC, pv_bnd, if_neg (nI_ge (by omega) (by omega)), ichC (by omega), pv_bnd]
    unfold pD_take
    rw [h3, if_neg (show ¬ (160 : Int32) ≤ nI a from nI_ge (b := 160) (by omega) (by omega)), pv_inb (by omega) (by omega), pv_chk, pv_letm, pv_letm, pv_bndv, pv_letm, pv_sa (by omega), nI_1]
    have e31 : (u2 z 4 a (jsB 0 (nI a))) 3 1 = nI a := by rw [pv_u2, if_neg (by omega)]; exact h3
    rw [e31, nI_1]
    obtain ⟨Z, z1, z2, z3, z4⟩ := ih (a + 1) f (u2 (u2 z 4 a (jsB 0 (nI a))) 3 1 (nI (a + 1))) (by omega) (by omega) (by rw [pv_u2, if_pos ⟨rfl, rfl⟩]) (fun j hj => by
      rw [pv_u2, if_neg (by omega), pv_u2]
      by_cases q : j = a
      · rw [if_pos ⟨rfl, q⟩, q]; rfl
      · rw [if_neg (by omega)]; exact h4 j (by omega))
    exact ⟨Z, z1, z2, z3, fun c j hc h4 => by rw [z4 c j hc h4, pv_u2, if_neg hc, pv_u2, if_neg (by omega)]⟩
theorem iniC (hf : 300 ≤ fu) : ∃ Z, pS_init fu zC = some Z ∧ Z 0 8 = nI 1 ∧ Z 3 1 = 0 ∧ tOK (fnM aT3) (Ef aT1 aT2 aT3) ∧ lC Z 42 (fnM aT3) (Ef aT1 aT2 aT3) ∧ ∀ c j, ¬ (c = 0 ∧ j = 8) → c ≠ 3 → c ≠ 4 → ¬ (42 ≤ c ∧ c ≤ 44) → ¬ (66 ≤ c ∧ c ≤ 68) → Z c j = zC c j := by
  unfold pS_init
  obtain ⟨z, e0, z2, z3, z4⟩ := inlC (fu := fu) 51 0 fu zC rfl (by omega) rfl (fun j hj => by omega)
  have e0' : pS_init_154 fu fu 0 zC = endI fu z := e0
  rw [e0']
  have hTb : ∀ j, j < 51 → bI 256 (TC0 j) := fun j hj => ⟨_, (byC j hj).1, (byC j hj).2⟩
  obtain ⟨L, hL, hLl⟩ := tkL_ex (T := TC0) (n := 51) hTb (by omega) 51 0 (by omega) (by omega)
  have hfi := fstC
  rw [← tkL_F 60 L 0 hL (by omega)] at hfi
  cases L with
  | nil => exact absurd hL id
  | cons t l =>
    rw [List.length_cons] at hLl
    have yH : FH z (u2 (u2 (u2 z 3 3 0) 3 7 (-1)) 66 3 0) := fun c j h1 h2 _ _ => by rw [pv_u2, if_neg (by omega), pv_u2, if_neg (by omega), pv_u2, if_neg (by omega)]
    have yT : tpC (u2 (u2 (u2 z 3 3 0) 3 7 (-1)) 66 3 0) 51 TC0 := ⟨by rw [pv_u2, if_neg (by omega), pv_u2, if_neg (by omega), pv_u2, if_neg (by omega)]; exact z2, by omega, fun j hj => by rw [pv_u2, if_neg (by omega), pv_u2, if_neg (by omega), pv_u2, if_neg (by omega)]; exact z3 j hj, hTb⟩
    have y33 : (u2 (u2 (u2 z 3 3 0) 3 7 (-1)) 66 3 0) 3 3 = nI 0 := by rw [pv_u2, if_neg (by omega), pv_u2, if_neg (by omega), pv_u2, if_pos ⟨rfl, rfl⟩]; rfl
    have y37 : (u2 (u2 (u2 z 3 3 0) 3 7 (-1)) 66 3 0) 3 7 = -1 := by rw [pv_u2, if_neg (by omega), pv_u2, if_pos ⟨rfl, rfl⟩]
    have y66 : (u2 (u2 (u2 z 3 3 0) 3 7 (-1)) 66 3 0) 66 3 = 0 := by rw [pv_u2, if_pos ⟨rfl, rfl⟩]
    have eA : pD_readAll fu z = bndv (pD_advance fu (u2 (u2 (u2 z 3 3 0) 3 7 (-1)) 66 3 0)) (fun z4 => pD_readAll_23 fu fu 0 z4) := by
      unfold pD_readAll pL_clear
      rw [pv_letm, pv_letm, pv_letm, pv_bndv]
    generalize u2 (u2 (u2 z 3 3 0) 3 7 (-1)) 66 3 0 = y at yH yT y33 y37 y66 eA
    obtain ⟨Z0, e0, f0, g0⟩ := advC (fu := fu) (by omega) yT y33 (by omega)
    have hr : rcC TC0 51 Z0 t l [] := ⟨yT.a g0, ⟨0, hL⟩, by rw [hL.1]; exact f0, by rw [g0 _ _ (by omega)]; exact y66, trivial, by rw [g0 _ _ (by omega)]; exact y37⟩
    rw [e0, pv_bndv] at eA
    have hF0 : FH z Z0 := yH.tr g0.g.h
    rcases allC (fu := fu) (by omega) hr (by omega) with ⟨q, Z1, a0, a1, a2, a3, a4⟩ | ⟨Z1, C1, C2, C3, a1, a2, a3, a4, a5, a6, a7, a8, a9⟩
    · rw [a4] at hfi
      exact absurd hfi (by simp)
    · rw [a4] at hfi
      have e1 := Sum.inr.inj hfi
      have e2 : C1 = aT1 ∧ C2 = aT2 ∧ C3 = aT3 := ⟨congrArg Prod.fst e1, congrArg (fun x => x.2.1) e1, congrArg (fun x => x.2.2) e1⟩
      obtain ⟨rfl, rfl, rfl⟩ := e2
      have F1 := hF0.tr a3
      obtain ⟨Z3, g1, g2, g3, g4⟩ := becT (fu := fu) (z := Z1) (tc := 0) (by omega)
      have g1' : pL_become fu 42 66 Z1 = some Z3 := g1
      unfold endI
      rw [eA, a1, pv_bnd, g1', pv_bndv, pv_letm]
      have h160 : aT3.length ≤ 160 := by decide
      refine ⟨_, rfl, by rw [pv_u2, if_pos ⟨rfl, rfl⟩]; rfl, ?_, good_ok a5, ⟨?_, ?_, ?_, fun i hi => ?_⟩, fun c j h1 h2 h3 h4 h5 => ?_⟩
      · rw [pv_u2, if_neg (by omega), g4 _ _ (by omega)]; exact a2
      · rw [pv_u2, if_neg (by omega)]; exact (g3 0 (by omega)).trans a7
      · rw [pv_u2, if_neg (by omega)]; exact (g3 1 (by omega)).trans a8
      · rw [pv_u2, if_neg (by omega)]; exact (g3 2 (by omega)).trans a9
      · have hi' : i < aT3.length := hi
        rw [pv_u2, if_neg (by omega)]
        exact (g2 i (by omega)).trans (fnM_c a6 i hi')
      · rw [pv_u2, if_neg (by omega), g4 _ _ (by omega), F1 _ _ (by omega) (by omega) (by omega) (by omega), z4 _ _ (by omega) (by omega)]
theorem inlM : ∀ k a f z, a + k = 50 → k < f → (∀ j, z 91 j = zM 91 j) → (∀ j, j < a → z 83 j = TM0 j) → ∃ Z, pM_init_1067 fu f (nI a) z = bnd (pM_text fu (u2 Z 78 6 50)) (fun x3 z2 => some z2) ∧ (∀ j, j < 50 → Z 83 j = TM0 j) ∧ ∀ c j, c ≠ 83 → Z c j = z c j := by
  intro k
  induction k with
  | zero =>
    intro a f z h1 h2 h3 h4
    obtain ⟨f, rfl⟩ := fuS h2
    have : a = 50 := by omega
    subst this
    rw [pM_init_1067, if_pos (show (50 : Int32) ≤ nI 50 by decide), pv_letm]
    exact ⟨z, rfl, h4, fun _ _ _ => rfl⟩
  | succ k ih =>
    intro a f z h1 h2 h3 h4
    obtain ⟨f, rfl⟩ := fuS h2
    rw [pM_init_1067, if_neg (show ¬ (50 : Int32) ≤ nI a from nI_ge (b := 50) (by omega) (by omega)), pv_inb (by omega) (by omega), pv_chk, pv_inb (by omega) (by omega), pv_chk, pv_letm, pv_letm, pv_sa (by omega), pv_ga (by omega), h3, nI_1]
    obtain ⟨Z, z1, z2, z3⟩ := ih (a + 1) f (u2 z 83 a (zM 91 a)) (by omega) (by omega) (fun j => by rw [pv_u2, if_neg (by omega)]; exact h3 j) (fun j hj => by
      rw [pv_u2]
      by_cases q : j = a
      · rw [if_pos ⟨rfl, q⟩, q]; rfl
      · rw [if_neg (by omega)]; exact h4 j (by omega))
    exact ⟨Z, z1, z2, fun c j hc => by rw [z3 c j hc, pv_u2, if_neg (by omega)]⟩
theorem zM_w : ∀ j, j < 96 → zM 92 j = wtb.getD j 0 := by decide +kernel
theorem iniM (hf : 300 ≤ fu) : ∃ Z, pM_init fu zM = some Z ∧ Z 78 9 = nI 1 ∧ Z 78 6 = 0 ∧ lM Z 0 (fnM aT3) (Ef aT1 aT2 aT3) ∧ ∀ c j, ¬ (c = 78 ∧ (j = 6 ∨ j = 9 ∨ (18 ≤ j ∧ j ≤ 21) ∨ (24 ≤ j ∧ j ≤ 26))) → c ≠ 93 → c ≠ 83 → c ≠ 84 → c ≠ 85 → Z c j = zM c j := by
  unfold pM_init
  obtain ⟨z, e0, z2, z3⟩ := inlM (fu := fu) 50 0 fu zM rfl (by omega) (fun _ => rfl) (fun j hj => by omega)
  have e0' : pM_init_1067 fu fu 0 zM = bnd (pM_text fu (u2 z 78 6 50)) (fun x3 z2 => some z2) := e0
  rw [e0']
  have hTb : ∀ j, j < 50 → bI 256 (TM0 j) := fun j hj => ⟨_, (byM j hj).1, (byM j hj).2⟩
  obtain ⟨L, hL, hLl⟩ := tkL_ex (T := TM0) (n := 50) hTb (by omega) 50 0 (by omega) (by omega)
  have hfi := fstM
  rw [← tkL_F 60 L 0 hL (by omega)] at hfi
  have hT : tpM (u2 z 78 6 50) 50 TM0 := ⟨by rw [pv_u2, if_pos ⟨rfl, rfl⟩]; rfl, by omega, fun j hj => by rw [pv_u2, if_neg (by omega)]; exact z2 j hj, hTb, fun j hj => by rw [pv_u2, if_neg (by omega), z3 _ _ (by omega)]; exact zM_w j hj⟩
  have h9 : (u2 z 78 6 50) 78 9 = nI 0 := by rw [pv_u2, if_neg (by omega), z3 _ _ (by omega)]; rfl
  rcases allM (fu := fu) (tc := 0) hf (by omega) hL hT h9 (by omega) with ⟨q', Z2, c1, c2, _⟩ | ⟨Z2, D1, D2, D3, c1, c2, c3, c4, c5, c6, c7, c8, c9⟩
  · rw [hfi] at c2
    exact absurd c2 (by simp)
  · rw [hfi] at c2
    have e1 := Sum.inr.inj c2
    have e2 : aT1 = D1 ∧ aT2 = D2 ∧ aT3 = D3 := ⟨congrArg Prod.fst e1, congrArg (fun x => x.2.1) e1, congrArg (fun x => x.2.2) e1⟩
    obtain ⟨rfl, rfl, rfl⟩ := e2
    rw [c1, pv_bnd]
    refine ⟨_, rfl, by rw [pv_u2, if_pos ⟨rfl, rfl⟩], by rw [pv_u2, if_neg (by omega)]; exact c3, ⟨?_, ?_, ?_, ?_, fun i hi => ?_⟩, fun c j h1 h2 h3 h4 h5 => ?_⟩
    · rw [pv_u2, if_neg (by omega)]; exact c6
    · rw [pv_u2, if_neg (by omega)]; exact c7
    · rw [pv_u2, if_neg (by omega)]; exact c8
    · rw [pv_u2, if_neg (by omega)]; exact c9
    · rw [pv_u2, if_neg (by omega)]; exact fnM_h c5 i hi
    · rw [pv_u2, if_neg (by omega), c4 c j (by omega) h2 (by omega) (by omega), pv_u2, if_neg (by omega), z3 _ _ h3]
end INI
/-- what holds between the two when both stand made -/
theorem iniJ {fu : Nat} (hf : 300 ≤ fu) : ∃ Zc Zm, pS_init fu zC = some Zc ∧ pM_init fu zM = some Zm ∧ Inv (zJ Zc Zm) := by
  obtain ⟨Zc, a1, a2, a3, a4, a5, a6⟩ := iniC (fu := fu) hf
  obtain ⟨Zm, b1, b2, b3, b4, b5⟩ := iniM (fu := fu) hf
  have hc : ∀ c j, c < 78 → zJ Zc Zm c j = Zc c j := fun c j h => by unfold zJ; rw [if_pos h]
  have hm : ∀ c j, 78 ≤ c → zJ Zc Zm c j = Zm c j := fun c j h => by unfold zJ; rw [if_neg (by omega)]
  have ec : ∀ c j, c < 78 → ¬ (c = 0 ∧ j = 8) → c ≠ 3 → c ≠ 4 → ¬ (42 ≤ c ∧ c ≤ 44) → ¬ (66 ≤ c ∧ c ≤ 68) → zJ Zc Zm c j = zC c j := fun c j h h1 h2 h3 h4 h5 => (hc c j h).trans (a6 c j h1 h2 h3 h4 h5)
  have em : ∀ c j, 78 ≤ c → ¬ (c = 78 ∧ (j = 6 ∨ j = 9 ∨ (18 ≤ j ∧ j ≤ 21) ∨ (24 ≤ j ∧ j ≤ 26))) → c ≠ 93 → c ≠ 83 → c ≠ 84 → c ≠ 85 → zJ Zc Zm c j = zM c j := fun c j h h1 h2 h3 h4 h5 => (hm c j h).trans (b5 c j h1 h2 h3 h4 h5)
  refine ⟨Zc, Zm, a1, b1, 0, 0, 1, 0, fun _ _ => 0, fun j => zC 10 j, fun _ => fnM aT3, fun _ => Ef aT1 aT2 aT3, ⟨?_, ?_, ?_, ?_, ?_⟩, ⟨by omega, by omega, (hc _ _ (by omega)).trans a2, (hm _ _ (by omega)).trans b2, fun t ht => ?_⟩, ⟨by omega, (hc _ _ (by omega)).trans a3, (hm _ _ (by omega)).trans b3, fun j hj => absurd hj (by omega)⟩, ⟨?_, Or.inl ?_⟩, fun s hs => ?_, fun j hj => ?_⟩
  · refine ⟨?_, ?_, fun m h => absurd h (by omega), fun m h => absurd h (by omega), fun m h => absurd h (by omega), fun m h => absurd h (by omega), fun m h => absurd h (by omega), ?_, ?_, ?_, ?_⟩ <;> rw [ec _ _ (by omega) (by omega) (by omega) (by omega) (by omega) (by omega)] <;> rfl
  · refine ⟨?_, ?_, fun m h => absurd h (by omega), fun m h => absurd h (by omega), fun m h => absurd h (by omega), fun m h => absurd h (by omega), fun m h => absurd h (by omega), ?_, ?_, ?_, ?_⟩ <;> rw [em _ _ (by omega) (by omega) (by omega) (by omega) (by omega) (by omega)] <;> rfl
  · exact ⟨by omega, ⟨fun m h => absurd h (by omega), fun m h => absurd h (by omega), fun m h => absurd h (by omega), fun m h => absurd h (by omega), fun m h => absurd h (by omega), ⟨2, by omega, rfl⟩, ⟨0, by omega, rfl⟩, ⟨3, by omega, rfl⟩⟩, ⟨0, by omega, rfl⟩, fun i h => absurd h (by omega)⟩
  · rw [ec _ _ (by omega) (by omega) (by omega) (by omega) (by omega) (by omega)]
    exact ⟨0, by omega, rfl⟩
  · rw [em _ _ (by omega) (by omega) (by omega) (by omega) (by omega) (by omega), ec _ _ (by omega) (by omega) (by omega) (by omega) (by omega) (by omega)]
    rfl
  · have : t = 0 := by omega
    subst this
    exact ⟨a4, a5.at (fun c j h => hc c j (by omega)), b4.at (fun c j h => hm c j (by omega))⟩
  · rw [em _ _ (by omega) (by omega) (by omega) (by omega) (by omega) (by omega), ec _ _ (by omega) (by omega) (by omega) (by omega) (by omega) (by omega)]
    rfl
  · rw [ec _ _ (by omega) (by omega) (by omega) (by omega) (by omega) (by omega)]
    rfl
  · refine ⟨0, by omega, ?_, ?_, ?_, Or.inl ?_, fun j hj => ?_⟩
    · rw [ec _ _ (by omega) (by omega) (by omega) (by omega) (by omega) (by omega)]
      rcases (show s = 0 ∨ s = 1 ∨ s = 2 ∨ s = 3 by omega) with rfl | rfl | rfl | rfl <;> rfl
    · rw [em _ _ (by omega) (by omega) (by omega) (by omega) (by omega) (by omega)]
      rcases (show s = 0 ∨ s = 1 ∨ s = 2 ∨ s = 3 by omega) with rfl | rfl | rfl | rfl <;> rfl
    · rw [em _ _ (by omega) (by omega) (by omega) (by omega) (by omega) (by omega), ec _ _ (by omega) (by omega) (by omega) (by omega) (by omega) (by omega)]
      rcases (show s = 0 ∨ s = 1 ∨ s = 2 ∨ s = 3 by omega) with rfl | rfl | rfl | rfl <;> rfl
    · rw [em _ _ (by omega) (by omega) (by omega) (by omega) (by omega) (by omega)]
      rcases (show s = 0 ∨ s = 1 ∨ s = 2 ∨ s = 3 by omega) with rfl | rfl | rfl | rfl <;> rfl
    · rw [em _ _ (by omega) (by omega) (by omega) (by omega) (by omega) (by omega), ec _ _ (by omega) (by omega) (by omega) (by omega) (by omega) (by omega)]
      rcases (show s = 0 ∨ s = 1 ∨ s = 2 ∨ s = 3 by omega) with rfl | rfl | rfl | rfl <;> rfl
  · rw [em _ _ (by omega) (by omega) (by omega) (by omega) (by omega) (by omega)]
    exact zM_w j hj
