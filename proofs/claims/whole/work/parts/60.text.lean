/-! a whole text, the reference's side -/
section TXM
variable {fu n tc : Nat} {T : Nat → Int32}
def FT (tc : Nat) (z Z : Sg) : Prop := ∀ c j, ¬ (c = 78 ∧ (j = 6 ∨ (18 ≤ j ∧ j ≤ 21) ∨ (24 ≤ j ∧ j ≤ 26))) → c ≠ 93 → ¬ (c = 84 ∧ 200 * tc ≤ j ∧ j < 200 * tc + 200) → ¬ (c = 85 ∧ 4 * tc ≤ j ∧ j < 4 * tc + 4) → Z c j = z c j
theorem FT.rf {tc : Nat} {z : Sg} : FT tc z z := fun _ _ _ _ _ _ => rfl
theorem FT.tr {tc : Nat} {z Z Y : Sg} (h1 : FT tc z Z) (h2 : FT tc Z Y) : FT tc z Y := fun c j a b d e => (h2 c j a b d e).trans (h1 c j a b d e)
theorem GX.t {tc : Nat} {z Z : Sg} (h : GX tc z Z) : FT tc z Z := fun c j a b d _ => h c j (fun q => a (by omega)) b d
theorem FT.u8 {tc i : Nat} {z Z : Sg} {v : Int32} (h : FT tc z Z) (hi : i < 4) : FT tc z (u2 Z 85 (4 * tc + i) v) := fun a b h1 h2 h3 h4 => by
  rw [pv_u2, if_neg (by omega)]
  exact h a b h1 h2 h3 h4
theorem FT.u7 {tc j : Nat} {z Z : Sg} {v : Int32} (h : FT tc z Z) (hj : j = 6 ∨ j = 24 ∨ j = 25) : FT tc z (u2 Z 78 j v) := fun a b h1 h2 h3 h4 => by
  rw [pv_u2, if_neg (by omega)]
  exact h a b h1 h2 h3 h4
theorem tpM.t6 {z Z : Sg} (h : tpM z n T) (e : FT tc z Z) (e6 : Z 78 6 = z 78 6) : tpM Z n T := ⟨by rw [e6]; exact h.1, h.2.1, fun j hj => by rw [e _ _ (by omega) (by omega) (by omega) (by omega)]; exact h.2.2.1 j hj, h.2.2.2.1, h.2.2.2.2.at (fun c j hc => e c j (by omega) (by omega) (by omega) (by omega))⟩
theorem i85 {i : Nat} {z : Sg} (h9 : z 78 9 = nI tc) : (4 : Int32) * z 78 9 + nI i = nI (4 * tc + i) := by rw [h9, show (4 : Int32) = nI 4 from rfl, pk_mul, nI_add]
theorem fauM {f q : Nat} {v : Int32} {z : Sg} (ht : tc < 6) (h9 : z 78 9 = nI tc) (h19 : z 78 19 = nI q) : ∃ Z, pM_text_26 fu (f + 1) 0 v z = some ((-100) - nI q, Z) ∧ Z 78 6 = 0 ∧ FT tc z Z := by
  have e101 : pM_text_26 fu (f + 1) 0 v z = pM_text_101 fu 0 z := by
    rw [pM_text_26, if_pos (show (0 : Int32) = 0 from rfl)]
    split <;> rfl
  rw [e101]
  unfold pM_text_101 pM_text_122
  rw [if_pos rfl, show (3 : Int32) = nI 3 from rfl, i85 h9, pv_inb (by omega) (by omega), pv_chk, pv_letm, pv_letm, if_pos rfl, pv_sa (by omega), pv_u2, if_neg (by omega), pv_u2, if_neg (by omega), h19]
  exact ⟨_, rfl, by rw [pv_u2, if_pos ⟨rfl, rfl⟩], (FT.rf.u8 (by omega)).u7 (Or.inl rfl)⟩
theorem parM {i f a : Nat} {ts : List Tok} {O : List Nat} {z : Sg} (hf : 300 ≤ fu) (hi : i < 3) (ht : tc < 6) (hk : tkL T n ts a) (h18 : z 78 18 = nI a) (hT : tpM z n T) (h9 : z 78 9 = nI tc) (hO : ouM z tc O) (hl : O.length + ts.length ≤ 170) :
    (∃ q Z, pM_text_26 fu (f + 1) 1 (nI i) z = pM_text_26 fu f 0 (nI (i + 1)) Z ∧ paM i ts O = .inl q ∧ Z 78 19 = nI q ∧ Z 78 9 = nI tc ∧ FT tc z Z) ∨
    ∃ Z O' l' a', pM_text_26 fu (f + 1) 1 (nI i) z = pM_text_26 fu f 1 (nI (i + 1)) Z ∧ paM i ts O = .inr (O', l') ∧ tkL T n l' a' ∧ Z 78 18 = nI a' ∧ tpM Z n T ∧ Z 78 9 = nI tc ∧ ouM Z tc O' ∧ O'.length + l'.length ≤ 170 ∧ FT tc z Z ∧ Z 85 (4 * tc + i) = nI O.length ∧ ∀ j, j ≠ 4 * tc + i → Z 85 j = z 85 j := by
  cases ts with
  | nil => exact absurd hk id
  | cons t l =>
    rw [List.length_cons] at hl
    obtain ⟨t1, t2, t3⟩ := hk
    obtain ⟨b1, b2, b3, b4, b5, b6⟩ := tok_b (T := T) (n := n) t2 hT.2.2.2.1 hT.2.1
    obtain ⟨y, y1, y2, y3⟩ := nexM (fu := fu) hf hT h18 t2
    rw [← t1] at b1 b2 b3 b4 b5 b6 y2
    obtain ⟨u1, uv, u3, u4, u5, u6⟩ := y2
    have k259 : t.1 < 259 := by
      rcases b6 with h | h
      · omega
      · simp only [List.mem_cons, List.not_mem_nil, or_false] at h
        omega
    have r3 := (kd_tab2 t.1 k259 b6).2.2.1
    have y9 : y 78 9 = nI tc := by rw [y3 _ _ (by omega)]; exact h9
    have ep : paM i (t :: l) O = if t.1 = i then syM l true true [] O else .inl t.2.2.1 := rfl
    have y26 : y 78 26 = nI O.length := by rw [y3 _ _ (by omega)]; exact hO.1
    have yF : FT tc z y := (y3.g (tc := tc)).t
    -- the part's beginning is written down in any case
    have e60 : ∀ t0, pM_text_60 fu (pM_text_26 fu f) (nI i) t0 y = if t0 = 0 then pM_text_93 fu (pM_text_26 fu f) (nI i) (u2 y 85 (4 * tc + i) (nI O.length)) else bnd (pM_eRead fu (u2 y 85 (4 * tc + i) (nI O.length))) (fun x7 z6 => if x7 = 0 then pM_text_93 fu (pM_text_26 fu f) (nI i) z6 else pM_text_94 fu (pM_text_26 fu f) (nI i) 1 z6) := fun t0 => by
      unfold pM_text_60
      rw [i85 y9, pv_inb (by omega) (by omega), pv_chk, pv_letm, pv_sa (by omega), y26]
    have e93 : ∀ Z, pM_text_93 fu (pM_text_26 fu f) (nI i) Z = pM_text_26 fu f 0 (nI (i + 1)) Z := fun Z => by
      unfold pM_text_93 pM_text_94
      rw [pv_letm, nI_1]
    rw [pM_text_26, if_neg (show ¬ (3 : Int32) ≤ nI i from nI_ge (b := 3) hi (by omega)), if_neg (show ¬ (1 : Int32) = 0 by decide), y1, pv_bndv, u1, ep]
    have wF : FT tc z (u2 y 85 (4 * tc + i) (nI O.length)) := yF.u8 (by omega)
    have w19 : (u2 y 85 (4 * tc + i) (nI O.length)) 78 19 = nI t.2.2.1 := by rw [pv_u2, if_neg (by omega)]; exact u5
    have w9 : (u2 y 85 (4 * tc + i) (nI O.length)) 78 9 = nI tc := by rw [pv_u2, if_neg (by omega)]; exact y9
    have bad : pM_text_59 fu (pM_text_26 fu f) (nI i) y = pM_text_26 fu f 0 (nI (i + 1)) (u2 y 85 (4 * tc + i) (nI O.length)) := by
      unfold pM_text_59
      rw [e60, if_pos rfl, e93]
    by_cases q : t.1 = i
    · rw [if_pos (r3.mpr (by omega)), if_pos (show y 78 21 = nI i by rw [u3 (by omega), q]), if_pos q, e60, if_neg (by decide)]
      unfold pM_eRead
      rw [pv_letm, pv_letm]
      have w26 : (u2 y 85 (4 * tc + i) (nI O.length)) 78 26 = nI O.length := by rw [pv_u2, if_neg (by omega)]; exact y26
      have w85 : (u2 y 85 (4 * tc + i) (nI O.length)) 85 (4 * tc + i) = nI O.length := by rw [pv_u2, if_pos ⟨rfl, rfl⟩]
      have w85' : ∀ j, j ≠ 4 * tc + i → (u2 y 85 (4 * tc + i) (nI O.length)) 85 j = z 85 j := fun j hj => by rw [pv_u2, if_neg (by omega), y3 _ _ (by omega)]
      have w18 : (u2 y 85 (4 * tc + i) (nI O.length)) 78 18 = nI t.2.2.2 := by rw [pv_u2, if_neg (by omega)]; exact u6
      have w84 : hdM (fun i' => (u2 y 85 (4 * tc + i) (nI O.length)) 84 (200 * tc + i')) O := hdM_upd hO.2 (fun i' _ => by
        show u2 y 85 (4 * tc + i) (nI O.length) 84 (200 * tc + i') = z 84 (200 * tc + i')
        rw [pv_u2, if_neg (by omega), y3 _ _ (by omega)])
      have wT : tpM (u2 y 85 (4 * tc + i) (nI O.length)) n T := hT.t6 wF (by rw [pv_u2, if_neg (by omega), y3 _ _ (by omega)])
      generalize u2 y 85 (4 * tc + i) (nI O.length) = w at wF w19 w9 w26 w85 w85' w18 w84 wT ⊢
      have vF : FT tc w (u2 (u2 w 78 24 0) 78 25 0) := (FT.rf.u7 (by omega)).u7 (by omega)
      have vst : stM (u2 (u2 w 78 24 0) 78 25 0) tc [] O := ⟨by rw [pv_u2, if_neg (by omega), pv_u2, if_pos ⟨rfl, rfl⟩]; rfl, by rw [pv_u2, if_pos ⟨rfl, rfl⟩]; rfl, by rw [pv_u2, if_neg (by omega), pv_u2, if_neg (by omega)]; exact w26, trivial, hdM_upd w84 (fun i' _ => by
        show u2 (u2 w 78 24 0) 78 25 0 84 (200 * tc + i') = w 84 (200 * tc + i')
        rw [pv_u2, if_neg (by omega), pv_u2, if_neg (by omega)])⟩
      have v18 : (u2 (u2 w 78 24 0) 78 25 0) 78 18 = nI t.2.2.2 := by rw [pv_u2, if_neg (by omega), pv_u2, if_neg (by omega)]; exact w18
      have v9 : (u2 (u2 w 78 24 0) 78 25 0) 78 9 = nI tc := by rw [pv_u2, if_neg (by omega), pv_u2, if_neg (by omega)]; exact w9
      have v85 : ∀ j, (u2 (u2 w 78 24 0) 78 25 0) 85 j = w 85 j := fun j => by rw [pv_u2, if_neg (by omega), pv_u2, if_neg (by omega)]
      have vT := wT.t6 vF (by rw [pv_u2, if_neg (by omega), pv_u2, if_neg (by omega)])
      generalize u2 (u2 w 78 24 0) 78 25 0 = v at vF vst v18 v9 v85 vT ⊢
      rw [if_neg (by omega)] at t3
      have main := eRdM (fu := fu) hf ht l true true [] O v t.2.2.2 fu t3 v18 vT v9 vst (by rw [List.length_nil]; omega) (by omega)
      rw [List.length_nil] at main
      cases hs : syM l true true [] O with
      | inl q =>
        rw [hs] at main
        obtain ⟨Z, a1, a2, a3⟩ := main
        have a1' : pM_eRead_14 fu fu 1 1 v = some (0, Z) := a1
        refine Or.inl ⟨q, Z, ?_, rfl, a2, by rw [a3 _ _ (by omega) (by omega) (by omega)]; exact v9, (wF.tr vF).tr a3.t⟩
        rw [a1', pv_bnd, if_pos rfl, e93]
      | inr r =>
        rw [hs] at main
        obtain ⟨Z, a', a1, a2, a3, a4, a5, a6⟩ := main
        have a1' : pM_eRead_14 fu fu 1 1 v = some (1, Z) := a1
        have z85 : ∀ j, Z 85 j = w 85 j := fun j => by rw [a5 _ _ (by omega) (by omega) (by omega), v85]
        refine Or.inr ⟨Z, r.1, r.2, a', ?_, rfl, a4, a3, vT.t6 a5.t (by rw [a5 _ _ (by omega) (by omega) (by omega)]), by rw [a5 _ _ (by omega) (by omega) (by omega)]; exact v9, a2, by omega, (wF.tr vF).tr a5.t, by rw [z85]; exact w85, fun j hj => by rw [z85]; exact w85' j hj⟩
        rw [a1', pv_bnd, if_neg (by decide)]
        unfold pM_text_94
        rw [pv_letm, nI_1]
    · rw [if_neg q]
      refine Or.inl ⟨t.2.2.1, _, ?_, rfl, w19, w9, wF⟩
      by_cases q3 : t.1 < 3
      · rw [if_pos (r3.mpr q3), if_neg (show ¬ y 78 21 = nI i from fun e => q (by rw [u3 q3] at e; exact (pv_eq (by omega) (by omega)).mp e)), bad]
      · rw [if_neg (fun e => q3 (r3.mp e)), bad]
theorem lstM {f a : Nat} {ts : List Tok} {O : List Nat} {z : Sg} (hf : 300 ≤ fu) (ht : tc < 6) (hk : tkL T n ts a) (h18 : z 78 18 = nI a) (hT : tpM z n T) (h9 : z 78 9 = nI tc) (hO : ouM z tc O) :
    (∃ q Z, pM_text_26 fu (f + 1) 1 (nI 3) z = some ((-100) - nI q, Z) ∧ enM ts = .inl q ∧ Z 78 6 = 0 ∧ FT tc z Z) ∨
    ∃ Z, pM_text_26 fu (f + 1) 1 (nI 3) z = some (nI tc, u2 Z 78 9 (nI (tc + 1))) ∧ enM ts = .inr () ∧ Z 78 6 = 0 ∧ FT tc z Z ∧ ouM Z tc O ∧ Z 85 (4 * tc + 3) = nI O.length ∧ ∀ j, j ≠ 4 * tc + 3 → Z 85 j = z 85 j := by
  cases ts with
  | nil => exact absurd hk id
  | cons t l =>
    obtain ⟨t1, t2, t3⟩ := hk
    obtain ⟨b1, b2, b3, b4, b5, b6⟩ := tok_b (T := T) (n := n) t2 hT.2.2.2.1 hT.2.1
    obtain ⟨y, y1, y2, y3⟩ := nexM (fu := fu) hf hT h18 t2
    rw [← t1] at b1 b2 b3 b4 b5 b6 y2
    obtain ⟨u1, uv, u3, u4, u5, u6⟩ := y2
    have k259 : t.1 < 259 := by
      rcases b6 with h | h
      · omega
      · simp only [List.mem_cons, List.not_mem_nil, or_false] at h
        omega
    have r0 := (kd_tab2 t.1 k259 b6).2.2.2
    have y9 : y 78 9 = nI tc := by rw [y3 _ _ (by omega)]; exact h9
    have y26 : y 78 26 = nI O.length := by rw [y3 _ _ (by omega)]; exact hO.1
    have yF : FT tc z y := (y3.g (tc := tc)).t
    have ee : enM (t :: l) = if t.1 = 257 then .inr () else .inl t.2.2.1 := rfl
    rw [pM_text_26, if_pos (show (3 : Int32) ≤ nI 3 by decide), ee]
    unfold pM_text_101 pM_text_121 pM_text_122
    rw [if_neg (show ¬ (1 : Int32) = 0 by decide), y1, pv_bndv, u1, show (3 : Int32) = nI 3 from rfl, i85 y9, pv_inb (by omega) (by omega), pv_chk, pv_letm, pv_letm, pv_sa (by omega), pv_chk, pv_letm, pv_letm, y26]
    have wF : FT tc z (u2 (u2 y 85 (4 * tc + 3) (nI O.length)) 78 6 0) := (yF.u8 (by omega)).u7 (by omega)
    by_cases q : t.1 = 257
    · rw [if_pos (r0.mpr q), if_neg (show ¬ (1 : Int32) = 0 by decide), if_pos q]
      refine Or.inr ⟨u2 (u2 y 85 (4 * tc + 3) (nI O.length)) 78 6 0, ?_, rfl, by rw [pv_u2, if_pos ⟨rfl, rfl⟩], wF, ⟨?_, hdM_upd hO.2 (fun i' _ => ?_)⟩, ?_, fun j hj => ?_⟩
      · have e9 : (u2 (u2 y 85 (4 * tc + 3) (nI O.length)) 78 6 0) 78 9 = nI tc := by rw [pv_u2, if_neg (by omega), pv_u2, if_neg (by omega)]; exact y9
        rw [e9, nI_1]
        have e10 : (u2 (u2 (u2 y 85 (4 * tc + 3) (nI O.length)) 78 6 0) 78 9 (nI (tc + 1))) 78 9 = nI (tc + 1) := by rw [pv_u2, if_pos ⟨rfl, rfl⟩]
        rw [e10, nI_pred]
      · rw [pv_u2, if_neg (by omega), pv_u2, if_neg (by omega)]; exact y26
      · show u2 (u2 y 85 (4 * tc + 3) (nI O.length)) 78 6 0 84 (200 * tc + i') = z 84 (200 * tc + i')
        rw [pv_u2, if_neg (by omega), pv_u2, if_neg (by omega), y3 _ _ (by omega)]
      · rw [pv_u2, if_neg (by omega), pv_u2, if_pos ⟨rfl, rfl⟩]
      · rw [pv_u2, if_neg (by omega), pv_u2, if_neg (by omega), y3 _ _ (by omega)]
    · rw [if_neg (fun e => q (r0.mp e)), pv_letm, if_pos rfl, if_neg q, pv_u2, if_neg (by omega), pv_u2, if_neg (by omega), u5]
      exact Or.inl ⟨_, _, rfl, rfl, by rw [pv_u2, if_pos ⟨rfl, rfl⟩], wF⟩
theorem allM {ts : List Tok} {z : Sg} (hf : 300 ≤ fu) (ht : tc < 6) (hk : tkL T n ts 0) (hT : tpM z n T) (h9 : z 78 9 = nI tc) (hl : ts.length ≤ 170) :
    (∃ q Z, pM_text fu z = some ((-100) - nI q, Z) ∧ txM ts = .inl q ∧ Z 78 6 = 0 ∧ FT tc z Z) ∨
    ∃ Z C1 C2 C3, pM_text fu z = some (nI tc, u2 Z 78 9 (nI (tc + 1))) ∧ txM ts = .inr (C1, C2, C3) ∧ Z 78 6 = 0 ∧ FT tc z Z ∧ hdM (fun i => Z 84 (200 * tc + i)) C3 ∧ Z 85 (4 * tc) = 0 ∧ Z 85 (4 * tc + 1) = nI C1.length ∧ Z 85 (4 * tc + 2) = nI C2.length ∧ Z 85 (4 * tc + 3) = nI C3.length := by
  obtain ⟨f, hfe⟩ : ∃ f, fu = f + 4 := ⟨fu - 4, by omega⟩
  unfold pM_text
  rw [h9, if_neg (show ¬ nI tc = 6 from fun e => by have := (pv_eq (b := 6) (by omega) (by omega)).mp e; omega), pv_letm, pv_letm]
  have vF : FT tc z (u2 (u2 z 78 18 0) 78 26 0) := fun c j h1 _ _ _ => by rw [pv_u2, if_neg (by omega), pv_u2, if_neg (by omega)]
  have v18 : (u2 (u2 z 78 18 0) 78 26 0) 78 18 = nI 0 := by rw [pv_u2, if_neg (by omega), pv_u2, if_pos ⟨rfl, rfl⟩]; rfl
  have v26 : ouM (u2 (u2 z 78 18 0) 78 26 0) tc [] := ⟨by rw [pv_u2, if_pos ⟨rfl, rfl⟩]; rfl, trivial⟩
  have v9 : (u2 (u2 z 78 18 0) 78 26 0) 78 9 = nI tc := by rw [pv_u2, if_neg (by omega), pv_u2, if_neg (by omega)]; exact h9
  have vT := hT.t6 vF (by rw [pv_u2, if_neg (by omega), pv_u2, if_neg (by omega)])
  generalize u2 (u2 z 78 18 0) 78 26 0 = v at vF v18 v26 v9 vT ⊢
  have e0 : pM_text_26 fu fu 1 0 v = pM_text_26 fu (f + 3 + 1) 1 (nI 0) v := by
    conv => lhs; arg 2; rw [hfe]
    rfl
  rw [e0]
  unfold txM
  rcases parM (i := 0) (f := f + 3) hf (by omega) ht hk v18 vT v9 v26 (by rw [List.length_nil]; omega) with ⟨q, z1, a1, a2, a3, a4, a5⟩ | ⟨z1, O1, l1, p1, a1, a2, a3, a4, a5, a6, a7, a8, a9, a10, a11⟩
  · obtain ⟨Z, b1, b2, b3⟩ := fauM (fu := fu) (f := f + 2) (v := nI (0 + 1)) ht a4 a3
    exact Or.inl ⟨q, Z, a1.trans b1, by rw [a2], b2, (vF.tr a5).tr b3⟩
  · rw [a1, a2]
    show (∃ q Z, pM_text_26 fu (f + 2 + 1) 1 (nI 1) z1 = _ ∧ _) ∨ ∃ Z C1 C2 C3, pM_text_26 fu (f + 2 + 1) 1 (nI 1) z1 = _ ∧ _
    rcases parM (i := 1) (f := f + 2) hf (by omega) ht a3 a4 a5 a6 a7 a8 with ⟨q, z2, b1, b2, b3, b4, b5⟩ | ⟨z2, O2, l2, p2, b1, b2, b3, b4, b5, b6, b7, b8, b9, b10, b11⟩
    · obtain ⟨Z, c1, c2, c3⟩ := fauM (fu := fu) (f := f + 1) (v := nI (1 + 1)) ht b4 b3
      exact Or.inl ⟨q, Z, b1.trans c1, by simp only [b2], c2, ((vF.tr a9).tr b5).tr c3⟩
    · rw [b1]
      show (∃ q Z, pM_text_26 fu (f + 1 + 1) 1 (nI 2) z2 = _ ∧ _) ∨ ∃ Z C1 C2 C3, pM_text_26 fu (f + 1 + 1) 1 (nI 2) z2 = _ ∧ _
      rcases parM (i := 2) (f := f + 1) hf (by omega) ht b3 b4 b5 b6 b7 b8 with ⟨q, z3, c1, c2, c3, c4, c5⟩ | ⟨z3, O3, l3, p3, c1, c2, c3, c4, c5, c6, c7, c8, c9, c10, c11⟩
      · obtain ⟨Z, d1, d2, d3⟩ := fauM (fu := fu) (f := f) (v := nI (2 + 1)) ht c4 c3
        exact Or.inl ⟨q, Z, c1.trans d1, by simp only [b2, c2], d2, (((vF.tr a9).tr b9).tr c5).tr d3⟩
      · rw [c1]
        show (∃ q Z, pM_text_26 fu (f + 1) 1 (nI 3) z3 = _ ∧ _) ∨ ∃ Z C1 C2 C3, pM_text_26 fu (f + 1) 1 (nI 3) z3 = _ ∧ _
        rcases lstM (fu := fu) (f := f) hf ht c3 c4 c5 c6 c7 with ⟨q, Z, d1, d2, d3, d4⟩ | ⟨Z, d1, d2, d3, d4, d5, d6, d7⟩
        · exact Or.inl ⟨q, Z, d1, by simp only [b2, c2, d2], d3, (((vF.tr a9).tr b9).tr c9).tr d4⟩
        · refine Or.inr ⟨Z, O1, O2, O3, d1, by simp only [b2, c2, d2], d3, (((vF.tr a9).tr b9).tr c9).tr d4, d5.2, ?_, ?_, ?_, d6⟩
          · rw [d7 _ (by omega), c11 _ (by omega), b11 _ (by omega)]; exact a10
          · rw [d7 _ (by omega), c11 _ (by omega)]; exact b10
          · rw [d7 _ (by omega)]; exact c10
end TXM
