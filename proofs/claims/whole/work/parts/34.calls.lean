def frB (n : Nat) (F : Nat → Nat → Int32) (K : Nat → Int32) (p : Nat) : Bool := !decide (nI p = K 0) && decide (whoM F (nI p) n 0 = -1)
theorem frC {fu r n lw p : Nat} {z : Sg} {F : Nat → Nat → Int32} {K : Nat → Int32} (h : rC z r n lw F K) (hn : n ≤ 6) (hf : 10 ≤ fu) (hp : p < 10) : pR_isFree fu r (nI p) z = some (if frB n F K p then 1 else 0, z) := by
  unfold pR_isFree frB pS_within
  rw [if_neg (nI_pos (by omega)), if_neg (by rw [l_9, pv_lt (by omega) (by omega)]; omega), pv_bnd, if_neg (by decide), h.2.2.2.2.2.2.2.1, whoC h hn hf, pv_bnd]
  by_cases e : nI p = K 0
  · simp [e]
  · rw [if_neg e]
    rcases who_at (F := F) (n := n) (nI p) with ⟨e2, -⟩ | ⟨j, hj, e2, -⟩
    · rw [e2, if_neg (by decide)]; simp [e]
    · rw [e2, if_pos (nI_pos' (by omega))]
      have : ¬ (nI j = -1) := fun q => (pv_neg1 (by omega)).mp q
      simp [e, this]
theorem frMr {fu n lw p : Nat} {z : Sg} {F : Nat → Nat → Int32} {K : Nat → Int32} (h : rM z n lw F K) (hn : n ≤ 6) (hf : 10 ≤ fu) (hp : p < 10) : pM_isFree fu (nI p) z = some (if frB n F K p then 1 else 0, z) := by
  unfold pM_isFree frB pM_in
  rw [if_neg (nI_pos (by omega)), if_neg (by rw [l_9, pv_lt (by omega) (by omega)]; omega), pv_bnd, if_neg (by decide), h.2.2.2.2.2.2.2.1, whoMr h hn hf, pv_bnd]
  by_cases e : nI p = K 0
  · simp [e]
  · rw [if_neg e]
    rcases who_at (F := F) (n := n) (nI p) with ⟨e2, -⟩ | ⟨j, hj, e2, -⟩
    · rw [e2, if_pos rfl]; simp [e]
    · rw [e2]
      have : ¬ (nI j = -1) := fun q => (pv_neg1 (by omega)).mp q
      rw [if_neg this]
      simp [e, this]
theorem frB_t {n p : Nat} {F : Nat → Nat → Int32} {K : Nat → Int32} (hn : n ≤ 6) (h : frB n F K p = true) : nI p ≠ K 0 ∧ ∀ j, j < n → F 0 j ≠ nI p := by
  unfold frB at h
  simp only [Bool.and_eq_true, Bool.not_eq_true', decide_eq_false_iff_not, decide_eq_true_eq] at h
  refine ⟨h.1, ?_⟩
  rcases who_at (F := F) (n := n) (nI p) with ⟨e2, e3⟩ | ⟨j, hj, e2, -⟩
  · exact e3
  · rw [e2] at h; exact absurd h.2 (fun q => (pv_neg1 (by omega)).mp q)
theorem fr_cases {fu r n lw : Nat} {zc zm : Sg} {F : Nat → Nat → Int32} {K : Nat → Int32} (hc : rC zc r n lw F K) (hm : rM zm n lw F K) (hn : n ≤ 6) (hf : 10 ≤ fu) (v : Int32) : (pR_isFree fu r v zc = some (0, zc) ∧ pM_isFree fu v zm = some (0, zm)) ∨ ∃ p, p < 10 ∧ v = nI p ∧ frB n F K p = true ∧ pR_isFree fu r v zc = some (1, zc) ∧ pM_isFree fu v zm = some (1, zm) := by
  rcases wi_cases (M := 9) (k := 9) rfl (by omega) v with ⟨c1, c2⟩ | ⟨p, hp, rfl, c1, c2⟩
  · exact Or.inl ⟨by unfold pR_isFree; rw [c1, pv_bnd, if_pos rfl], by unfold pM_isFree; rw [c2, pv_bnd, if_pos rfl]⟩
  · have e1 := frC (fu := fu) hc hn hf (p := p) (by omega)
    have e2 := frMr (fu := fu) hm hn hf (p := p) (by omega)
    cases hb : frB n F K p with
    | true => rw [hb, if_pos rfl] at e1 e2; exact Or.inr ⟨p, by omega, rfl, hb, e1, e2⟩
    | false => rw [hb, if_neg (by decide)] at e1 e2; exact Or.inl ⟨e1, e2⟩
theorem InvP.two_put {z : Sg} {n lw tc ts : Nat} {F : Nat → Nat → Int32} {K : Nat → Int32} {C E : Nat → Nat → Nat} (h : InvP z n lw tc ts F K C E) {fu w m : Nat} {v : Int32} (hw : w < 3) (hm : m < n) (hv : (w = 0 → bI 10 v ∧ ∀ i, i < n → i ≠ m → F 0 i ≠ v) ∧ (w = 1 → bI 12 v) ∧ (w = 2 → bI 100 v)) : ∃ r z1 z2, pS_put_64 fu (nI m) (nI w) v 1 z = some (r, z1) ∧ (∀ c j, c ≠ 12 + w → z1 c j = z c j) ∧ pM_put_78 fu (nI m) (nI w) v 1 z1 = some (r, z2) ∧ Inv z2 := by
  have hn := h.1.2.2.1.1
  have e1 : z (12 + w) m = F w m := by
    obtain ⟨a1, a2, a3, a4, a5, a6, a7, a8, a9, a10, a11⟩ := h.1.1
    rcases (show w = 0 ∨ w = 1 ∨ w = 2 by omega) with rfl | rfl | rfl
    · exact a3 m hm
    · exact a4 m hm
    · exact a5 m hm
  have e2 : z 81 (3 * m + w) = F w m := by
    obtain ⟨a1, a2, a3, a4, a5, a6, a7, a8, a9, a10, a11⟩ := h.1.2.1
    rcases (show w = 0 ∨ w = 1 ∨ w = 2 by omega) with rfl | rfl | rfl
    · exact a3 m hm
    · exact a4 m hm
    · exact a5 m hm
  refine ⟨F w m, u2 z (12 + w) m v, u2 (u2 z (12 + w) m v) 81 (3 * m + w) v, ?_, fun c j hc => by rw [pv_u2, if_neg (by omega)], ?_, n, lw, tc, ts, _, K, C, E, h.fact hw hm hv⟩
  · unfold pS_put_64
    rw [if_neg (by decide), pv_inb (by omega) (by omega), pv_chk, pv_inb (by omega) (by omega), pv_chk, pv_letm, pv_chk, pv_chk, pv_letm, pv_clamp (by omega), pv_ga (by omega), pv_sa (by omega), e1]
  · unfold pM_put_78
    rw [if_neg (by decide), l_3, pk_mul, nI_add, pv_inb (by omega) (by omega), pv_chk, pv_letm, pv_chk, pv_letm, pv_ga (by omega), pv_sa (by omega), pv_u2, if_neg (by omega), e2]
theorem st_put {fu : Nat} (hf : 50000 ≤ fu) (z : Sg) (a1 a2 a3 : Int32) (h : Inv z) : ∃ (r : Int32) (z1 z2 : Sg), pS_put fu a1 a2 a3 z = some (r, z1) ∧ pM_put fu a1 a2 a3 z1 = some (r, z2) ∧ Inv z2 := by
  obtain ⟨n, lw, tc, ts, F, K, C, E, h⟩ := h
  have hI : Inv z := ⟨n, lw, tc, ts, F, K, C, E, h⟩
  have hn := h.1.2.2.1.1
  rcases has_cases hn h.1.1.1 h.1.2.1.1 a1 with ⟨d1, d2⟩ | ⟨m, hm, rfl, d1, d2⟩
  · exact ⟨-5, z, z, by unfold pS_put; rw [d1, pv_bnd, if_pos rfl], by unfold pM_put; rw [d2, pv_bnd, if_pos rfl], hI⟩
  · have bad : ∀ r : Option (Int32 × Sg), pS_put fu (nI m) a2 a3 z = pS_put_64 fu (nI m) a2 a3 0 z → pM_put fu (nI m) a2 a3 z = pM_put_78 fu (nI m) a2 a3 0 z → ∃ (r : Int32) (z1 z2 : Sg), pS_put fu (nI m) a2 a3 z = some (r, z1) ∧ pM_put fu (nI m) a2 a3 z1 = some (r, z2) ∧ Inv z2 := fun _ e1 e2 => ⟨-7, z, z, by rw [e1]; unfold pS_put_64; rw [if_pos rfl], by rw [e2]; unfold pM_put_78; rw [if_pos rfl], hI⟩
    have good : ∀ w, w < 3 → a2 = nI w → ((w = 0 → bI 10 a3 ∧ ∀ i, i < n → i ≠ m → F 0 i ≠ a3) ∧ (w = 1 → bI 12 a3) ∧ (w = 2 → bI 100 a3)) → pS_put fu (nI m) a2 a3 z = pS_put_64 fu (nI m) (nI w) a3 1 z → (∀ y, (∀ c j, c ≠ 12 + w → y c j = z c j) → pM_put fu (nI m) a2 a3 y = pM_put_78 fu (nI m) (nI w) a3 1 y) → ∃ (r : Int32) (z1 z2 : Sg), pS_put fu (nI m) a2 a3 z = some (r, z1) ∧ pM_put fu (nI m) a2 a3 z1 = some (r, z2) ∧ Inv z2 := by
      intro w hw e0 hv e1 e2
      obtain ⟨r, z1, z2, q1, q2, q3, q4⟩ := h.two_put (fu := fu) hw hm hv
      exact ⟨r, z1, z2, by rw [e1]; exact q1, by rw [e2 z1 q2]; exact q3, q4⟩
    have h78 : ∀ (y : Sg) (w : Nat), (∀ c j, c ≠ 12 + w → y c j = z c j) → w < 3 → y 78 0 = nI n := fun y w e hw => by rw [e 78 0 (by omega)]; exact h.1.2.1.1
    by_cases w0 : a2 = 0
    · subst w0
      have e0 : z 12 m = F 0 m := h.1.1.2.2.1 m hm
      by_cases own : a3 = F 0 m
      · refine good 0 (by omega) rfl ⟨fun _ => ⟨by rw [own]; exact h.1.2.2.1.2.1.1 m hm, fun i hi hne q => hne (h.1.2.2.1.2.2.2 i hi m hm (q.trans own))⟩, fun q => by omega, fun q => by omega⟩ ?_ (fun y hy => ?_)
        · unfold pS_put pR_isFreeFor pR_isFreeFor_20
          rw [d1, pv_bnd, if_neg (by decide), if_pos rfl, pv_inb (by omega) (by omega), pv_chk, pv_ga (by omega), e0, if_pos own, pv_bnd]
          rfl
        · unfold pM_put pM_put_35
          rw [one_y hn (h78 y 0 hy (by omega)) hm, pv_bnd, if_neg (by decide), if_pos rfl, l_3, pk_mul, pv_inb (by omega) (by omega), pv_chk, pv_ga (by omega), hy 81 _ (by omega), h.1.2.1.2.2.1 m hm, if_pos own]
          rfl
      · rcases fr_cases (fu := fu) h.1.1 h.1.2.1 hn (by omega) a3 with ⟨f1, f2⟩ | ⟨p, hp, rfl, hB, f1, f2⟩
        · refine bad none ?_ ?_
          · unfold pS_put pR_isFreeFor
            rw [d1, pv_bnd, if_neg (by decide), if_pos rfl, pv_inb (by omega) (by omega), pv_chk, pv_ga (by omega), e0, if_neg own, f1, pv_bnd, if_pos rfl, pv_bnd]
          · unfold pM_put
            rw [d2, pv_bnd, if_neg (by decide), if_pos rfl, l_3, pk_mul, pv_inb (by omega) (by omega), pv_chk, pv_ga (by omega), h.1.2.1.2.2.1 m hm, if_neg own, f2, pv_bnd, if_pos rfl]
        · refine good 0 (by omega) rfl ⟨fun _ => ⟨⟨p, hp, rfl⟩, fun i hi _ => (frB_t hn hB).2 i hi⟩, fun q => by omega, fun q => by omega⟩ ?_ (fun y hy => ?_)
          · unfold pS_put pR_isFreeFor pR_isFreeFor_20
            rw [d1, pv_bnd, if_neg (by decide), if_pos rfl, pv_inb (by omega) (by omega), pv_chk, pv_ga (by omega), e0, if_neg own, f1, pv_bnd, if_neg (by decide), pv_bnd]
            rfl
          · have hyM : rM y n lw F K := h.1.2.1.at (fun c j hc => hy c j (by omega))
            unfold pM_put pM_put_35
            rw [one_y hn (h78 y 0 hy (by omega)) hm, pv_bnd, if_neg (by decide), if_pos rfl, l_3, pk_mul, pv_inb (by omega) (by omega), pv_chk, pv_ga (by omega), hyM.2.2.1 m hm, if_neg own, frMr hyM hn (by omega) hp, hB, if_pos rfl, pv_bnd, if_neg (by decide)]
            rfl
    · by_cases w1 : a2 = 1
      · subst w1
        rcases wi_cases (M := 11) (k := 11) rfl (by omega) a3 with ⟨c1, c2⟩ | ⟨x, hx, rfl, c1, c2⟩
        · refine bad none ?_ ?_
          · unfold pS_put; rw [d1, pv_bnd, if_neg (by decide), if_neg (by decide), if_pos rfl, c1, pv_bnd]
          · unfold pM_put; rw [d2, pv_bnd, if_neg (by decide), if_neg (by decide), if_pos rfl, c2, pv_bnd]
        · refine good 1 (by omega) rfl ⟨fun q => by omega, fun _ => ⟨x, by omega, rfl⟩, fun q => by omega⟩ ?_ (fun y hy => ?_)
          · unfold pS_put; rw [d1, pv_bnd, if_neg (by decide), if_neg (by decide), if_pos rfl, c1, pv_bnd]; rfl
          · unfold pM_put; rw [one_y hn (h78 y 1 hy (by omega)) hm, pv_bnd, if_neg (by decide), if_neg (by decide), if_pos rfl, c2, pv_bnd]; rfl
      · by_cases w2 : a2 = 2
        · subst w2
          rcases wi_cases (M := 99) (k := 99) rfl (by omega) a3 with ⟨c1, c2⟩ | ⟨x, hx, rfl, c1, c2⟩
          · refine bad none ?_ ?_
            · unfold pS_put; rw [d1, pv_bnd, if_neg (by decide), if_neg (by decide), if_neg (by decide), if_pos rfl, c1, pv_bnd]
            · unfold pM_put pM_put_77; rw [d2, pv_bnd, if_neg (by decide), if_neg (by decide), if_neg (by decide), if_pos rfl, c2, pv_bnd, if_pos rfl]
          · refine good 2 (by omega) rfl ⟨fun q => by omega, fun q => by omega, fun _ => ⟨x, by omega, rfl⟩⟩ ?_ (fun y hy => ?_)
            · unfold pS_put; rw [d1, pv_bnd, if_neg (by decide), if_neg (by decide), if_neg (by decide), if_pos rfl, c1, pv_bnd]; rfl
            · unfold pM_put; rw [one_y hn (h78 y 2 hy (by omega)) hm, pv_bnd, if_neg (by decide), if_neg (by decide), if_neg (by decide), if_pos rfl, c2, pv_bnd, if_neg (by decide)]; rfl
        · refine bad none ?_ ?_
          · unfold pS_put; rw [d1, pv_bnd, if_neg (by decide), if_neg w0, if_neg w1, if_neg w2]
          · unfold pM_put pM_put_77; rw [d2, pv_bnd, if_neg (by decide), if_neg w0, if_neg w1, if_neg w2]
theorem st_told {fu : Nat} (hf : 50000 ≤ fu) (z : Sg) (a1 a2 : Int32) (h : Inv z) : ∃ (r : Int32) (z1 z2 : Sg), pS_told fu a1 a2 z = some (r, z1) ∧ pM_told fu a1 a2 z1 = some (r, z2) ∧ Inv z2 := by
  obtain ⟨n, lw, tc, ts, F, K, C, E, h⟩ := h
  have hI : Inv z := ⟨n, lw, tc, ts, F, K, C, E, h⟩
  have hn := h.1.2.2.1.1
  have hb := h.bs (fu := fu) (by omega)
  rcases has_cases hn h.1.1.1 h.1.2.1.1 a1 with ⟨d1, d2⟩ | ⟨m, hm, rfl, d1, d2⟩
  · exact ⟨-5000, z, z, by unfold pS_told; rw [d1, pv_bnd, if_pos rfl], by unfold pM_told; rw [d2, pv_bnd, if_pos rfl], hI⟩
  · rcases wi_cases (M := 4) (k := 4) rfl (by omega) a2 with ⟨c1, c2⟩ | ⟨p, hp, rfl, c1, c2⟩
    · have n0 : ∀ k, k < 5 → a2 ≠ nI k := fun k hk q => by
        have := c1 0 z
        rw [q] at this
        unfold pS_within at this
        rw [if_neg (nI_pos (by omega)), if_neg (by rw [l_4, pv_lt (by omega) (by omega)]; omega)] at this
        simp at this
      obtain ⟨y, y1, y2, y3⟩ := lookC (fu := fu) (Or.inl rfl) h.1.1 hn (by omega) hm
      have q : qC fu y 9 n lw m F K (C lw) (E lw) := ⟨Or.inl rfl, y3, hn, hm, hb.2.1, hb.2.2.1, h.lC.s (Or.inl rfl) (by have := hb.2.1; omega) y2.s, by omega, hb.2.2.2.2⟩
      have qm : ∀ w, InvP w n lw tc ts F K C E → qM fu w n lw m F K (C lw) (E lw) := fun w hw => ⟨hw.1.2.1, hn, hm, hb.2.1, hb.2.2.1, hw.lM, by omega, hb.2.2.2.2⟩
      have sc : pS_told fu (nI m) a2 z = (if a2 = 5 then bnd (pR_keepsTo fu 9 y) (fun x7 z6 => some (x7, z6)) else (if a2 = 6 then bnd (pR_howFar fu 9 y) (fun x9 z8 => some (x9, z8)) else (if a2 = 7 then bnd (pR_howTiring fu 9 y) (fun x11 z10 => some (x11, z10)) else (if a2 = 8 then bnd (pR_clashes fu 9 y) (fun x13 z12 => if x13 = 0 then some (0, z12) else some (1, z12)) else (if a2 = 9 then bnd (pR_inStep fu 9 (nI m) y) (fun x15 z14 => if x15 = 0 then some (0, z14) else some (1, z14)) else (some ((-7000), y))))))) := by
        unfold pS_told
        rw [d1, pv_bnd, if_neg (by decide), c1, pv_bnd, if_pos rfl, y1, pv_bndv]
      have sm : ∀ w, InvP w n lw tc ts F K C E → pM_told fu (nI m) a2 w = (if a2 = 5 then bnd (pM_keepsOf fu (nI m) w) (fun x4 z3 => some (x4, z3)) else (if a2 = 6 then bnd (pM_swingsOf fu (nI m) w) (fun x6 z5 => some (x6, z5)) else (if a2 = 7 then bnd (pM_tiresOf fu (nI m) w) (fun x8 z7 => some (x8, z7)) else (if a2 = 8 then bnd (pM_doesClash fu (nI m) w) (fun x10 z9 => if x10 = 0 then some (0, z9) else some (1, z9)) else (if a2 = 9 then chk (inb ((3 * nI m) + 1) 18) (if ga w 81 ((3 * nI m) + 1) = w 82 1 then some (1, w) else some (0, w)) else (some ((-7000), w))))))) := fun w hw => by
        unfold pM_told
        rw [one_y hn hw.1.2.1.1 hm, pv_bnd, if_neg (by decide), if_neg (show ¬ a2 = 0 from n0 0 (by omega)), if_neg (show ¬ a2 = 1 from n0 1 (by omega)), if_neg (show ¬ a2 = 2 from n0 2 (by omega)), if_neg (show ¬ a2 = 3 from n0 3 (by omega)), if_neg (show ¬ a2 = 4 from n0 4 (by omega))]
      by_cases e5 : a2 = 5
      · obtain ⟨Y, x1, x2⟩ := keC q
        refine ask2 h _ ⟨Y, by rw [sc, if_pos e5, x1, pv_bnd], y2.s.q9.tr x2.q⟩ (fun w hw _ => ?_)
        obtain ⟨X, v1, v2⟩ := keMr (qm w hw)
        exact ⟨X, by rw [sm w hw, if_pos e5, v1, pv_bnd], v2.r⟩
      · by_cases e6 : a2 = 6
        · obtain ⟨Y, x1, x2⟩ := hfC q
          refine ask2 h _ ⟨Y, by rw [sc, if_neg e5, if_pos e6, x1, pv_bnd], y2.s.q9.tr x2.q⟩ (fun w hw _ => ?_)
          obtain ⟨X, v1, v2⟩ := hfMr (qm w hw)
          exact ⟨X, by rw [sm w hw, if_neg e5, if_pos e6, v1, pv_bnd], v2.r⟩
        · by_cases e7 : a2 = 7
          · obtain ⟨Y, x1, x2⟩ := htC q
            refine ask2 h _ ⟨Y, by rw [sc, if_neg e5, if_neg e6, if_pos e7, x1, pv_bnd], y2.s.q9.tr x2.q⟩ (fun w hw _ => ?_)
            obtain ⟨X, v1, v2⟩ := htMr (qm w hw)
            exact ⟨X, by rw [sm w hw, if_neg e5, if_neg e6, if_pos e7, v1, pv_bnd], v2.r⟩
          · by_cases e8 : a2 = 8
            · refine ask2 h (if clM n F K m then 1 else 0) ⟨y, by rw [sc, if_neg e5, if_neg e6, if_neg e7, if_pos e8, clC q, pv_bnd]; cases clM n F K m <;> rfl, y2.s.q9⟩ (fun w hw _ => ⟨w, ?_, EqR.rf⟩)
              rw [sm w hw, if_neg e5, if_neg e6, if_neg e7, if_pos e8, clMr hw.1.2.1 hn (by omega) hm, pv_bnd]
              cases clM n F K m <;> rfl
            · by_cases e9 : a2 = 9
              · refine ask2 h (if F 1 m = K 1 then 1 else 0) ⟨y, by rw [sc, if_neg e5, if_neg e6, if_neg e7, if_neg e8, if_pos e9, isC_one y3.1 hn hm, pv_bnd]; by_cases q : F 1 m = K 1 <;> simp [q], y2.s.q9⟩ (fun w hw _ => ⟨w, ?_, EqR.rf⟩)
                rw [sm w hw, if_neg e5, if_neg e6, if_neg e7, if_neg e8, if_pos e9, l_3, pk_mul, nI_1, pv_inb (by omega) (by omega), pv_chk, pv_ga (by omega), hw.1.2.1.2.2.2.1 m hm, hw.1.2.1.2.2.2.2.2.2.2.2.1]
                by_cases q : F 1 m = K 1 <;> simp [q]
              · exact ask2 h (-7000) ⟨y, by rw [sc, if_neg e5, if_neg e6, if_neg e7, if_neg e8, if_neg e9], y2.s.q9⟩ (fun w hw _ => ⟨w, by rw [sm w hw, if_neg e5, if_neg e6, if_neg e7, if_neg e8, if_neg e9], EqR.rf⟩)
    · obtain ⟨⟨a1, a2, a3, a4, a5, a6, a7, a8, a9, a10, a11⟩, ⟨b1, b2, b3, b4, b5, b6, b7, b8, b9, b10, b11⟩, _⟩ := id h.1
      have sc : pS_told fu (nI m) (nI p) z = some (z (12 + p) m, z) := by
        unfold pS_told
        rw [d1, pv_bnd, if_neg (by decide), c1, pv_bnd, if_neg (by decide), pv_inb (by omega) (by omega), pv_chk, pv_inb (by omega) (by omega), pv_chk, pv_clamp (by omega), pv_ga (by omega)]
      refine ⟨F p m, z, z, ?_, ?_, hI⟩
      · rw [sc]
        rcases (show p = 0 ∨ p = 1 ∨ p = 2 ∨ p = 3 ∨ p = 4 by omega) with rfl | rfl | rfl | rfl | rfl
        · rw [a3 m hm]
        · rw [a4 m hm]
        · rw [a5 m hm]
        · rw [a6 m hm]
        · rw [a7 m hm]
      · unfold pM_told
        rw [d2, pv_bnd, if_neg (by decide), l_3, pk_mul, nI_add]
        rcases (show p = 0 ∨ p = 1 ∨ p = 2 ∨ p = 3 ∨ p = 4 by omega) with rfl | rfl | rfl | rfl | rfl
        · rw [if_pos (by decide), pv_inb (by omega) (by omega), pv_chk, pv_ga (by omega), show 3 * m + 0 = 3 * m from rfl, b3 m hm]
        · rw [if_neg (by decide), if_pos (by decide), pv_inb (by omega) (by omega), pv_chk, pv_ga (by omega), b4 m hm]
        · rw [if_neg (by decide), if_neg (by decide), if_pos (by decide), pv_inb (by omega) (by omega), pv_chk, pv_ga (by omega), b5 m hm]
        · rw [if_neg (by decide), if_neg (by decide), if_neg (by decide), if_pos (by decide), pv_inb (by omega) (by omega), pv_chk, pv_ga (by omega), b6 m hm]
        · rw [if_neg (by decide), if_neg (by decide), if_neg (by decide), if_neg (by decide), if_pos (by decide), pv_inb (by omega) (by omega), pv_chk, pv_ga (by omega), b7 m hm]
