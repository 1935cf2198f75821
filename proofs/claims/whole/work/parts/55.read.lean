/-! the reference's reading of a part -/
def GX (tc : Nat) (z Z : Sg) : Prop := ∀ c j, ¬ (c = 78 ∧ ((18 ≤ j ∧ j ≤ 21) ∨ (24 ≤ j ∧ j ≤ 26))) → c ≠ 93 → ¬ (c = 84 ∧ 200 * tc ≤ j ∧ j < 200 * tc + 200) → Z c j = z c j
theorem GX.rf {tc : Nat} {z : Sg} : GX tc z z := fun _ _ _ _ _ => rfl
theorem GX.tr {tc : Nat} {z Z Y : Sg} (h1 : GX tc z Z) (h2 : GX tc Z Y) : GX tc z Y := fun c j a b d => (h2 c j a b d).trans (h1 c j a b d)
theorem FR.g {tc : Nat} {z Z : Sg} (h : FR z Z) : GX tc z Z := fun c j a _ _ => h c j (fun q => a (by omega))
theorem FX.g {tc : Nat} {z Z : Sg} (h : FX tc z Z) : GX tc z Z := fun c j a b d => h c j (fun q => a (by omega)) b d
def w01 (b : Bool) : Int32 := if b then 1 else 0
def rseM (T : Nat → Int32) (n tc : Nat) (z : Sg) (b : Nat) (g : Option (Int32 × Sg)) : Nat ⊕ (List Nat × List Tok) → Prop
  | .inl q => ∃ Z, g = some (0, Z) ∧ Z 78 19 = nI q ∧ GX tc z Z
  | .inr r => ∃ Z a, g = some (1, Z) ∧ ouM Z tc r.1 ∧ Z 78 18 = nI a ∧ tkL T n r.2 a ∧ GX tc z Z ∧ r.1.length + r.2.length + 1 ≤ b
theorem rseM.up {T : Nat → Int32} {n tc b c : Nat} {z y : Sg} {g : Option (Int32 × Sg)} {x : Nat ⊕ (List Nat × List Tok)} (h : rseM T n tc z b g x) (e : GX tc y z) (hb : b ≤ c) : rseM T n tc y c g x := by
  cases x with
  | inl q =>
    obtain ⟨Z, h1, h2, h3⟩ := h
    exact ⟨Z, h1, h2, e.tr h3⟩
  | inr r =>
    obtain ⟨Z, a, h1, h2, h3, h4, h5, h6⟩ := h
    exact ⟨Z, a, h1, h2, h3, h4, e.tr h5, by omega⟩
section RD2
variable {fu n tc : Nat} {T : Nat → Int32}
theorem lv_tab : ∀ c, c < 19 → 11 ≤ c → c ≠ 13 → 1 ≤ lvM c ∧ lvM c ≤ 7 ∧ ¬ (c = 13 ∨ c = 19 ∨ c = 0) := by decide
theorem betM {z : Sg} {H O : List Nat} {c : Nat} (hf : 300 ≤ fu) (ht : tc < 6) (h : stM z tc H O) (h9 : z 78 9 = nI tc) (hl : H.length + O.length < 199) (c1 : 11 ≤ c) (c2 : c ≤ 18) (c3 : c ≠ 13) : (rkM c = 4 ∧ t4M (unM 5 H O).1 = true ∧ ∃ Z, pM_between fu (nI c) z = some (0, Z) ∧ FX tc z Z) ∨ (¬ (rkM c = 4 ∧ t4M (unM 5 H O).1 = true) ∧ ∃ Z, pM_between fu (nI c) z = some (1, Z) ∧ stM Z tc (c :: (unM (lvM c) H O).1) (unM (lvM c) H O).2 ∧ FX tc z Z) := by
  obtain ⟨l1, l2, l3⟩ := lv_tab c (by omega) c1 c3
  have hr := rkM_le c
  have e4 : ∀ x, x ≤ 7 → ((nI x = 4) ↔ x = 4) := fun x hx => pv_eq (b := 4) (by omega) (by omega)
  have e17 : pM_between fu (nI c) z = pM_between_17 fu (nI c) (nI (lvM c)) z := by
    unfold pM_between lvM
    rw [rankM (by omega), pv_bnd]
    by_cases q : rkM c = 4
    · rw [if_pos ((e4 _ hr).mpr q), if_pos q]; rfl
    · rw [if_neg (fun e => q ((e4 _ hr).mp e)), if_neg q, rankM (by omega), pv_bnd]
  rw [e17]
  obtain ⟨Z, z1, z2, z3⟩ := unwM' (fu := fu) hf l1 l2 ht h h9 (by omega)
  have hlen := unM_len (l := lvM c) H O
  have htop := unM_top (l := lvM c) H O
  have k55 : ∃ Y, pM_between_55 fu (nI c) Z = some (1, Y) ∧ stM Y tc (c :: (unM (lvM c) H O).1) (unM (lvM c) H O).2 ∧ FX tc z Y := by
    obtain ⟨Y, y1, y2, y3⟩ := holdM (fu := fu) (c := c) (y := Z) z2 (by omega) (by omega) ⟨by rw [opM_c, if_neg l3]; exact z2.2.1, fun _ _ _ => rfl⟩
    exact ⟨Y, by unfold pM_between_55; rw [y1, pv_bndv], y2, z3.tr y3⟩
  unfold pM_between_17
  rw [z1, pv_bndv, rankM (by omega), pv_bnd]
  by_cases q : rkM c = 4
  · have e5 : lvM c = 5 := by unfold lvM; rw [if_pos q]
    rw [e5] at z2 htop hlen k55 ⊢
    rw [if_pos ((e4 _ hr).mpr q)]
    obtain ⟨s1, s2, s3, s4, s5⟩ := z2
    rw [s1]
    cases hS : (unM 5 H O).1 with
    | nil =>
      rw [hS] at k55
      rw [if_pos (show nI ([] : List Nat).length ≤ 0 from nI_le (a := 0) (b := 0) (by omega) (by omega))]
      exact Or.inr ⟨fun e => absurd e.2 (by decide), k55⟩
    | cons x t =>
      rw [hS] at k55 s4 hlen
      rw [List.length_cons] at hlen
      rw [List.length_cons, if_neg (show ¬ nI (t.length + 1) ≤ 0 from nI_ge (a := 0) (by omega) (by omega)), nI_pred, pv_inb (by omega) (by omega), pv_chk, pv_ga (by omega), s4.1, rankM s4.2.1, pv_bnd]
      by_cases qx : rkM x = 4
      · rw [if_pos ((e4 _ (rkM_le x)).mpr qx)]
        exact Or.inl ⟨q, decide_eq_true qx, Z, rfl, z3⟩
      · rw [if_neg (fun e => qx ((e4 _ (rkM_le x)).mp e))]
        exact Or.inr ⟨fun e => qx (of_decide_eq_true e.2), k55⟩
  · rw [if_neg (fun e => q ((e4 _ hr).mp e))]
    exact Or.inr ⟨fun e => q e.1, k55⟩
theorem eRdM (hf : 300 ≤ fu) (ht : tc < 6) : ∀ (ts : List Tok) (w m : Bool) (H O : List Nat) (z : Sg) (a f : Nat), tkL T n ts a → z 78 18 = nI a → tpM z n T → z 78 9 = nI tc → stM z tc H O → H.length + O.length + ts.length ≤ 170 → ts.length < f → rseM T n tc z (H.length + O.length + ts.length) (pM_eRead_14 fu f (w01 w) (w01 m) z) (syM ts w m H O)
  | [], _, _, _, _, _, _, _, h, _, _, _, _, _, _ => absurd h id
  | t :: l, w, m, H, O, z, a, f, h, h18, hT, h9, hs, hl, hlf => by
    obtain ⟨f, rfl⟩ := fuS hlf
    rw [List.length_cons] at hl hlf ⊢
    obtain ⟨t1, t2, t3⟩ := h
    have hn := hT.2.1
    obtain ⟨b1, b2, b3, b4, b5, b6⟩ := tok_b (T := T) (n := n) t2 hT.2.2.2.1 hn
    obtain ⟨y, y1, y2, y3⟩ := nexM (fu := fu) hf hT h18 t2
    rw [← t1] at b1 b2 b3 b4 b5 b6 y2
    obtain ⟨u1, uv, u3, u4, u5, u6⟩ := y2
    have ys := hs.r y3
    have yT := hT.a y3
    have y9 : y 78 9 = nI tc := by rw [y3 _ _ (by omega)]; exact h9
    have k259 : t.1 < 259 := by
      rcases b6 with h | h
      · omega
      · simp only [List.mem_cons, List.not_mem_nil, or_false] at h
        omega
    obtain ⟨r1, r2, r6, r45, r40⟩ := kd_tab1 t.1 k259 b6
    obtain ⟨r59, r41, r3, r0⟩ := kd_tab2 t.1 k259 b6
    have rs := kd_tab3 t.1 k259 b6
    have F : ∀ Z, FX tc y Z → Z 78 19 = nI t.2.2.1 ∧ Z 78 18 = nI t.2.2.2 ∧ Z 78 9 = nI tc ∧ tpM Z n T ∧ GX tc z Z := fun Z hZ => ⟨by rw [hZ _ _ (by omega) (by omega) (by omega)]; exact u5, by rw [hZ _ _ (by omega) (by omega) (by omega)]; exact u6, by rw [hZ _ _ (by omega) (by omega) (by omega)]; exact y9, yT.x hZ, y3.g.tr hZ.g⟩
    have no : ∀ Z, FX tc y Z → rseM T n tc z (H.length + O.length + (l.length + 1)) (some (0, Z)) (.inl t.2.2.1) := fun Z hZ => ⟨Z, rfl, (F Z hZ).1, (F Z hZ).2.2.2.2⟩
    have go : ∀ (w m : Bool) (H' O' : List Nat) (Z : Sg), t.1 ≠ 257 → FX tc y Z → stM Z tc H' O' → H'.length + O'.length + l.length ≤ H.length + O.length + (l.length + 1) → rseM T n tc z (H.length + O.length + (l.length + 1)) (pM_eRead_14 fu f (w01 w) (w01 m) Z) (syM l w m H' O') := fun w m H' O' Z hk hZ hst hle => by
      rw [if_neg hk] at t3
      exact (eRdM hf ht l w m H' O' Z t.2.2.2 f t3 (F Z hZ).2.1 (F Z hZ).2.2.2.1 (F Z hZ).2.2.1 hst (by omega) (by omega)).up (F Z hZ).2.2.2.2 hle
    rw [pM_eRead_14, y1, pv_bndv, u1]
    cases w with
    | true =>
      rw [show w01 true = 1 from rfl, if_neg (show ¬ (1 : Int32) = 0 by decide)]
      unfold syM
      have num : ∀ v, v < 200000 → t.1 ≠ 257 → rseM T n tc z (H.length + O.length + (l.length + 1)) (pM_eRead_61 fu (pM_eRead_14 fu f) (w01 m) (nI v) y) (syM l false m (unM 7 H (v :: O)).1 (unM 7 H (v :: O)).2) := fun v hv hk => by
        unfold pM_eRead_61
        obtain ⟨Z1, a1, a2, a3⟩ := putsM (fu := fu) (c := v) ys y9 ht (by omega) hv
        obtain ⟨Z2, c1, c2, c3⟩ := unwM' (fu := fu) (l := 7) hf (by omega) (by omega) ht a2 (F Z1 a3).2.2.1 (by rw [List.length_cons]; omega)
        have hlen := unM_len (l := 7) H (v :: O)
        rw [List.length_cons] at hlen
        rw [a1, pv_bndv, show (7 : Int32) = nI 7 from rfl, c1, pv_bndv]
        exact go false m _ _ Z2 hk (a3.tr c3) c2 (by omega)
      have opn : ∀ c m', (c = 13 ∨ c = 19 ∨ c = 0) → t.1 ≠ 257 → rseM T n tc z (H.length + O.length + (l.length + 1)) (bnd (pM_opensOne fu (nI c) y) (fun x18 z17 => if x18 = 0 then some (0, z17) else pM_eRead_14 fu f 1 (w01 m') z17)) (if opM H = 5 then .inl t.2.2.1 else syM l true m' (c :: H) O) := fun c m' hc hk => by
        rcases opneM (fu := fu) ys (by omega) hc with ⟨o1, o2⟩ | ⟨o1, Z, o2, o3, o4⟩
        · rw [o2, pv_bnd, if_pos rfl, if_pos o1]
          exact no y FX.rf
        · rw [o2, pv_bnd, if_neg (by decide), if_neg o1]
          exact go true m' _ _ Z hk o4 o3 (by rw [List.length_cons]; omega)
      by_cases q1 : t.1 = 256
      · rw [if_pos (r1.mpr q1), if_pos q1]
        unfold pM_eRead_38
        rw [u1, if_pos (r1.mpr q1), uv q1, show (100000 : Int32) = nI 100000 from rfl, nI_add]
        exact num _ (by omega) (by omega)
      · rw [if_neg (fun e => q1 (r1.mp e)), if_neg q1]
        by_cases q2 : 6 ≤ t.1 ∧ t.1 < 12
        · rw [if_pos (r2.mpr q2), if_pos q2]
          unfold pM_eRead_38
          rw [u1, if_neg (fun e => q1 (r1.mp e)), u4 q2.1 q2.2]
          exact num _ (by omega) (by omega)
        · rw [if_neg (fun e => q2 (r2.mp e)), if_neg q2]
          have rest : rseM T n tc z (H.length + O.length + (l.length + 1)) (pM_eRead_99 fu (pM_eRead_14 fu f) 1 y) (if t.1 = 45 then (if opM H = 5 then .inl t.2.2.1 else syM l true false (19 :: H) O) else if t.1 = 40 then (if opM H = 5 then .inl t.2.2.1 else syM l true true (0 :: H) O) else .inl t.2.2.1) := by
            unfold pM_eRead_99
            rw [u1]
            by_cases q3 : t.1 = 45
            · rw [if_pos (r45.mpr q3), if_pos q3]
              exact opn 19 false (by omega) (by omega)
            · rw [if_neg (fun e => q3 (r45.mp e)), if_neg q3]
              by_cases q4 : t.1 = 40
              · rw [if_pos (r40.mpr q4), if_pos q4]
                exact opn 0 true (by omega) (by omega)
              · rw [if_neg (fun e => q4 (r40.mp e)), if_neg q4]
                exact no y FX.rf
          by_cases q5 : t.1 = 5
          · rw [if_pos (r6.mpr q5)]
            cases m with
            | true =>
              rw [if_neg (show ¬ w01 true = 0 by decide), if_pos ⟨q5, rfl⟩]
              exact opn 13 true (by omega) (by omega)
            | false =>
              rw [if_pos (show w01 false = 0 from rfl), if_neg (show ¬ (t.1 = 5 ∧ false = true) from fun e => absurd e.2 (by decide))]
              exact rest
          · rw [if_neg (fun e => q5 (r6.mp e)), if_neg (fun e => q5 e.1)]
            exact rest
    | false =>
      rw [show w01 false = 0 from rfl, if_pos (show (0 : Int32) = 0 from rfl)]
      unfold syM
      obtain ⟨Z1, a1, a2, a3⟩ := unwM' (fu := fu) (l := 1) hf (by omega) (by omega) ht ys y9 (by omega)
      have hlen := unM_len (l := 1) H O
      have e1 : (1 : Int32) = nI 1 := rfl
      by_cases q1 : t.1 = 59
      · rw [if_pos (r59.mpr q1), if_pos q1]
        have : pM_unwinds fu 1 y = some Z1 := a1
        rw [this, pv_bndv, a2.1]
        rw [if_neg (by omega)] at t3
        by_cases qS : (unM 1 H O).1 = []
        · rw [if_pos (show nI (unM 1 H O).1.length = 0 by rw [qS]; rfl), if_pos qS]
          rw [qS, List.length_nil] at hlen
          exact ⟨Z1, t.2.2.2, rfl, ⟨a2.2.2.1, a2.2.2.2.2⟩, (F Z1 a3).2.1, t3, (F Z1 a3).2.2.2.2, by show (unM 1 H O).2.length + l.length + 1 ≤ _; omega⟩
        · have : (unM 1 H O).1.length ≠ 0 := fun e => qS (List.eq_nil_of_length_eq_zero e)
          rw [if_neg (show ¬ nI (unM 1 H O).1.length = 0 from fun e => this ((pv_eq (b := 0) (by omega) (by omega)).mp e)), if_neg qS]
          exact no Z1 a3
      · rw [if_neg (fun e => q1 (r59.mp e)), if_neg q1]
        by_cases q2 : t.1 = 41
        · rw [if_pos (r41.mpr q2), if_pos q2]
          have : pM_unwinds fu 1 y = some Z1 := a1
          rw [this, pv_bndv, a2.1]
          rcases unM_top (l := 1) H O with hS | ⟨x, t', hS, hx⟩
          · rw [hS, if_pos (show nI ([] : List Nat).length = 0 from rfl), if_pos rfl]
            exact no Z1 a3
          · have hx0 := rkM_0 hx
            subst hx0
            rw [hS] at a2 hlen ⊢
            rw [List.length_cons] at hlen
            obtain ⟨s1, s2, s3, s4, s5⟩ := a2
            rw [List.length_cons] at s1
            rw [if_neg (show ¬ (0 :: t' : List Nat) = [] by simp), List.length_cons, if_neg (show ¬ nI (t'.length + 1) = 0 from fun e => absurd ((pv_eq (b := 0) (by omega) (by omega)).mp e) (by omega)), pv_letm, pv_letm, nI_pred, List.tail_cons]
            have hst : stM (u2 (u2 Z1 78 24 (nI t'.length)) 78 25 ((u2 Z1 78 24 (nI t'.length)) 78 25 - 1)) tc t' (unM 1 H O).2 := ⟨by rw [pv_u2, if_neg (by omega), pv_u2, if_pos ⟨rfl, rfl⟩], by rw [pv_u2, if_pos ⟨rfl, rfl⟩, pv_u2, if_neg (by omega), s2, opM_c, if_pos (by omega), nI_pred], by rw [pv_u2, if_neg (by omega), pv_u2, if_neg (by omega)]; exact s3, hdM_upd s4.2.2 (fun i _ => by rw [pv_u2, if_neg (by omega), pv_u2, if_neg (by omega)]), hdM_upd s5 (fun i _ => by
              show u2 _ _ _ _ 84 (200 * tc + i) = Z1 84 (200 * tc + i)
              rw [pv_u2, if_neg (by omega), pv_u2, if_neg (by omega)])⟩
            have hF : FX tc y (u2 (u2 Z1 78 24 (nI t'.length)) 78 25 ((u2 Z1 78 24 (nI t'.length)) 78 25 - 1)) := (a3.u (by omega)).u (by omega)
            generalize u2 (u2 Z1 78 24 (nI t'.length)) 78 25 ((u2 Z1 78 24 (nI t'.length)) 78 25 - 1) = Z3 at hst hF ⊢
            obtain ⟨Z2, c1, c2, c3⟩ := unwM' (fu := fu) (l := 7) hf (by omega) (by omega) ht hst (F Z3 hF).2.2.1 (by omega)
            have hlen2 := unM_len (l := 7) t' (unM 1 H O).2
            have : pM_unwinds fu 7 Z3 = some Z2 := c1
            rw [this, pv_bndv]
            exact go false m _ _ Z2 (by omega) (hF.tr c3) c2 (by omega)
        · rw [if_neg (fun e => q2 (r41.mp e)), if_neg q2, signM, pv_bnd, u1, rs]
          by_cases q3 : sgM t.1 = 0
          · rw [if_pos q3, if_pos rfl, if_pos q3]
            exact no y FX.rf
          · obtain ⟨g1, g2, g3⟩ := sgM_tab t.1 k259 q3
            have hk : t.1 ≠ 257 := fun e => q3 (by rw [e]; rfl)
            have hneg : ∀ x, x ≤ 18 → ¬ nI x = -1 := by decide
            rw [if_neg q3, if_neg (hneg _ g2), if_neg q3]
            rcases betM (fu := fu) hf ht ys y9 (by omega) g1 g2 g3 with ⟨o1, o2, Z, o3, o4⟩ | ⟨o1, Z, o3, o4, o5⟩
            · rw [o3, pv_bnd, if_pos rfl, if_pos ⟨o1, o2⟩]
              exact no Z o4
            · rw [o3, pv_bnd, if_neg (by decide), if_neg o1]
              have hlen2 := unM_len (l := lvM (sgM t.1)) H O
              unfold pM_eRead_262
              have := go true (decide (sgM t.1 ≤ 12)) _ _ Z hk o5 o4 (by rw [List.length_cons]; omega)
              by_cases q12 : sgM t.1 ≤ 12
              · rw [if_neg (show ¬ (12 : Int32) < nI (sgM t.1) from nI_nlt (a := 12) q12 (by omega))]
                rw [decide_eq_true q12] at this ⊢
                exact this
              · rw [if_pos (show (12 : Int32) < nI (sgM t.1) from nI_lt (a := 12) (by omega) (by omega))]
                rw [decide_eq_false q12] at this ⊢
                exact this
end RD2
