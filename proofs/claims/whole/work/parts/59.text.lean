/-! a whole text: three parts, then the end -/
def paM (i : Nat) : List Tok → List Nat → Nat ⊕ (List Nat × List Tok)
  | [], _ => .inl 0
  | t :: l, O => if t.1 = i then syM l true true [] O else .inl t.2.2.1
def enM : List Tok → Nat ⊕ Unit
  | [] => .inl 0
  | t :: _ => if t.1 = 257 then .inr () else .inl t.2.2.1
section TXC
variable {fu n : Nat} {T : Nat → Int32}
def FH (z Z : Sg) : Prop := ∀ c j, ¬ (c = 3 ∧ (j = 1 ∨ (3 ≤ j ∧ j ≤ 7))) → ¬ (c = 66 ∧ j = 3) → c ≠ 67 → c ≠ 68 → Z c j = z c j
theorem FH.rf {z : Sg} : FH z z := fun _ _ _ _ _ _ => rfl
theorem FH.tr {z Z Y : Sg} (h1 : FH z Z) (h2 : FH Z Y) : FH z Y := fun c j a b d e => (h2 c j a b d e).trans (h1 c j a b d e)
theorem FG.h {z Z : Sg} (h : FG z Z) : FH z Z := fun c j a b d _ => h c j (fun q => a (by omega)) b d
def seqC (fu i : Nat) (z : Sg) (k : Sg → Option (Int32 × Sg)) : Option (Int32 × Sg) := bndv (pD_expect fu (nI i) z) (fun z7 => bndv (gRd fu 64 0 0 z7) (fun z8 => bndv (pD_expect fu 59 z8) (fun z9 => bndv (pL_endPart fu 66 (nI i) z9) k)))
theorem endC {i x : Nat} {z : Sg} (hi : i < 3) (h : z 66 3 = nI x) : ∃ Z, pL_endPart fu 66 (nI i) z = some Z ∧ Z 68 i = nI x ∧ (∀ j, j ≠ i → Z 68 j = z 68 j) ∧ ∀ c j, c ≠ 68 → Z c j = z c j := by
  unfold pL_endPart
  rw [pv_inb hi (by omega), pv_chk, pv_letm, pv_sa (by omega)]
  exact ⟨_, rfl, by rw [pv_u2, if_pos ⟨rfl, rfl⟩]; exact h, fun j hj => by rw [pv_u2, if_neg (by omega)], fun c j hc => by rw [pv_u2, if_neg (by omega)]⟩
theorem rfC.k {z Z : Sg} {q : Nat} (h : rfC T n z q) (e : ∀ c j, c ≠ 68 → Z c j = z c j) : rfC T n Z q := by
  obtain ⟨⟨a1, a2, a3, a4⟩, h2, h3, h4, k, h5, h6⟩ := h
  exact ⟨⟨by rw [e _ _ (by omega)]; exact a1, a2, fun j hj => by rw [e _ _ (by omega)]; exact a3 j hj, a4⟩, by rw [e _ _ (by omega)]; exact h2, by rw [e _ _ (by omega)]; exact h3, h4, k, h5, by rw [e _ _ (by omega)]; exact h6⟩
theorem rcC.k {z Z : Sg} {t : Tok} {l : List Tok} {C : List Nat} (h : rcC T n z t l C) (e : ∀ c j, c ≠ 68 → Z c j = z c j) : rcC T n Z t l C := by
  obtain ⟨⟨a1, a2, a3, a4⟩, h2, h3, h4, h5, h6⟩ := h
  refine ⟨⟨by rw [e _ _ (by omega)]; exact a1, a2, fun j hj => by rw [e _ _ (by omega)]; exact a3 j hj, a4⟩, h2, ?_, by rw [e _ _ (by omega)]; exact h4, cdM_upd h5 (fun i _ => e _ _ (by omega)), by rw [e _ _ (by omega)]; exact h6⟩
  unfold cuC
  rw [e _ _ (by omega), e _ _ (by omega), e _ _ (by omega), e _ _ (by omega)]
  exact h3
theorem seqF {i q : Nat} {z : Sg} (hf : 300 ≤ fu) (hi : i < 3) (h : rfC T n z q) (k : Sg → Option (Int32 × Sg)) : ∃ Z, seqC fu i z k = k Z ∧ rfC T n Z q ∧ FH z Z := by
  obtain ⟨z1, a1, a2, a3⟩ := h.exp (fu := fu) (k := i) (by omega)
  obtain ⟨z2, b1, b2, b3⟩ := passC (fu := fu) hf 5 0 64 0 z1 q rfl (by omega) a2
  obtain ⟨z3, c1, c2, c3⟩ := b2.exp (fu := fu) (k := 59) (by omega)
  obtain ⟨x, hx, h66⟩ := c2.2.2.2.2
  obtain ⟨z4, d1, d2, d3, d4⟩ := endC (fu := fu) (i := i) hi h66
  refine ⟨z4, ?_, c2.k d4, ((a3.tr b3).tr c3).h.tr (fun c j _ _ _ hc => d4 c j hc)⟩
  unfold seqC
  rw [a1, pv_bndv, b1, pv_bndv, show (59 : Int32) = nI 59 from rfl, c1, pv_bndv, d1, pv_bndv]
theorem seqS {i : Nat} {z : Sg} {t : Tok} {l : List Tok} {C : List Nat} (hf : 300 ≤ fu) (hi : i < 3) (h : rcC T n z t l C) (hl : C.length + l.length ≤ 160) (k : Sg → Option (Int32 × Sg)) :
    (∃ q Z, seqC fu i z k = k Z ∧ rfC T n Z q ∧ FH z Z ∧ paM i (t :: l) C = .inl q) ∨
    ∃ Z t' l' D, seqC fu i z k = k Z ∧ rcC T n Z t' l' (D ++ C) ∧ FH z Z ∧ paM i (t :: l) C = .inr (D ++ C, t' :: l') ∧ wfR D ∧ okL D ∧ D.length + l'.length + 1 ≤ l.length ∧ Z 68 i = nI (D ++ C).length ∧ ∀ j, j ≠ i → Z 68 j = z 68 j := by
  have ep : paM i (t :: l) C = if t.1 = i then syM l true true [] C else .inl t.2.2.1 := rfl
  rw [ep]
  rcases h.exp (fu := fu) hf (by omega) (k := i) (by omega) with ⟨c1, z1, t1, l1, y1, y2, y3, y4⟩ | ⟨c1, z1, y1, y2, y3⟩
  · subst y2
    rw [List.length_cons] at hl ⊢
    rw [if_pos c1]
    rcases recC (fu := fu) (n := n) (T := T) hf 64 0 0 z1 t1 l1 C true [] (by omega) (by omega) (by omega) y3 trivial rfl (fun _ => rfl) (fun e => absurd e (by omega)) (by omega) with ⟨q, Z, b1, b2, b3, b4⟩ | ⟨Z, t', l', D, m', H2, O2, b1, b2, b3, b4, b5, b6, b7, b8, b9⟩
    · obtain ⟨z3, d1, d2, d3⟩ := b2.exp (fu := fu) (k := 59) (by omega)
      obtain ⟨x, hx, h66⟩ := d2.2.2.2.2
      obtain ⟨z4, e1, e2, e3, e4⟩ := endC (fu := fu) (i := i) hi h66
      refine Or.inl ⟨q, z4, ?_, d2.k e4, ((y4.tr b3).tr d3).h.tr (fun c j _ _ _ hc => e4 c j hc), b4⟩
      unfold seqC
      have b1' : gRd fu 64 0 0 z1 = some Z := b1
      rw [y1, pv_bndv, b1', pv_bndv, show (59 : Int32) = nI 59 from rfl, d1, pv_bndv, e1, pv_bndv]
    · have b1' : gRd fu 64 0 0 z1 = some Z := b1
      have eu : unM 1 H2 O2 = ([], D ++ C) := b5
      rcases b2.exp (fu := fu) hf (by rw [List.length_append]; omega) (k := 59) (by omega) with ⟨g1, z3, t3, l3, d1, d2, d3, d4⟩ | ⟨g1, z3, d1, d2, d3⟩
      · subst d2
        rw [List.length_cons] at b8
        obtain ⟨z4, e1, e2, e3, e4⟩ := endC (fu := fu) (i := i) hi d3.2.2.2.1
        refine Or.inr ⟨z4, t3, l3, D, ?_, d3.k e4, ((y4.tr b3).tr d4).h.tr (fun c j _ _ _ hc => e4 c j hc), ?_, b6, b7, by omega, e2, fun j hj => by rw [e3 j hj, d4 _ _ (by omega) (by omega) (by omega), b3 _ _ (by omega) (by omega) (by omega), y4 _ _ (by omega) (by omega) (by omega)]⟩
        · unfold seqC
          rw [y1, pv_bndv, b1', pv_bndv, show (59 : Int32) = nI 59 from rfl, d1, pv_bndv, e1, pv_bndv]
        · rw [b4, syF, if_pos g1, eu, if_pos rfl]
      · obtain ⟨x, hx, h66⟩ := d2.2.2.2.2
        obtain ⟨z4, e1, e2, e3, e4⟩ := endC (fu := fu) (i := i) hi h66
        refine Or.inl ⟨_, z4, ?_, d2.k e4, ((y4.tr b3).tr d3).h.tr (fun c j _ _ _ hc => e4 c j hc), ?_⟩
        · unfold seqC
          rw [y1, pv_bndv, b1', pv_bndv, show (59 : Int32) = nI 59 from rfl, d1, pv_bndv, e1, pv_bndv]
        · rw [b4, syF, if_neg g1, eu]
          by_cases q41 : t'.1 = 41
          · rw [if_pos q41, if_pos rfl]
          · rw [if_neg q41]
            by_cases q0 : sgM t'.1 = 0
            · rw [if_pos q0]
            · rw [if_neg q0, if_pos]
              rcases b9 q0 with h | h
              · have h1 : rkM (sgM t'.1) < 1 := h
                exact absurd (rkM_0 h1) q0
              · exact h
  · rw [if_neg c1]
    obtain ⟨z2, b1, b2, b3⟩ := passC (fu := fu) hf 5 0 64 0 z1 _ rfl (by omega) y2
    obtain ⟨z3, d1, d2, d3⟩ := b2.exp (fu := fu) (k := 59) (by omega)
    obtain ⟨x, hx, h66⟩ := d2.2.2.2.2
    obtain ⟨z4, e1, e2, e3, e4⟩ := endC (fu := fu) (i := i) hi h66
    refine Or.inl ⟨_, z4, ?_, d2.k e4, ((y3.tr b3).tr d3).h.tr (fun c j _ _ _ hc => e4 c j hc), rfl⟩
    unfold seqC
    rw [y1, pv_bndv, b1, pv_bndv, show (59 : Int32) = nI 59 from rfl, d1, pv_bndv, e1, pv_bndv]
theorem all_c {i f : Nat} (hi : i < 3) (z : Sg) : pD_readAll_23 fu (f + 1) (nI i) z = seqC fu i z (fun z10 => pD_readAll_23 fu f (nI (i + 1)) z10) := by
  rw [pD_readAll_23, if_neg (show ¬ (3 : Int32) ≤ nI i from nI_ge (b := 3) hi (by omega))]
  unfold seqC
  simp only [pv_letm, nI_1]
theorem all_3 {f : Nat} (z : Sg) : pD_readAll_23 fu (f + 1) (nI 3) z = bndv (pD_expect fu 257 z) (fun z5 => letm (u2 z5 3 1 0) (fun z6 => some (z6 3 7, z6))) := by
  rw [pD_readAll_23, if_pos (show (3 : Int32) ≤ nI 3 by decide)]
theorem lstF {q f : Nat} {z : Sg} (h : rfC T n z q) : ∃ Z, pD_readAll_23 fu (f + 1) (nI 3) z = some (nI q, Z) ∧ Z 3 1 = 0 ∧ FH z Z := by
  obtain ⟨z1, a1, a2, a3⟩ := h.exp (fu := fu) (k := 257) (by omega)
  rw [all_3, show (257 : Int32) = nI 257 from rfl, a1, pv_bndv, pv_letm, pv_u2, if_neg (by omega), a2.2.2.1]
  exact ⟨_, rfl, by rw [pv_u2, if_pos ⟨rfl, rfl⟩], a3.h.tr (fun c j h1 _ _ _ => by rw [pv_u2, if_neg (by omega)])⟩
theorem lstS {f : Nat} {z : Sg} {t : Tok} {l : List Tok} {C : List Nat} (hf : 300 ≤ fu) (h : rcC T n z t l C) (hl : C.length ≤ 160) : (∃ q Z, q ≤ 160 ∧ pD_readAll_23 fu (f + 1) (nI 3) z = some (nI q, Z) ∧ Z 3 1 = 0 ∧ FH z Z ∧ enM (t :: l) = .inl q) ∨ ∃ Z, pD_readAll_23 fu (f + 1) (nI 3) z = some (-1, Z) ∧ Z 3 1 = 0 ∧ FA z (u2 Z 3 1 (z 3 1)) ∧ enM (t :: l) = .inr () := by
  have ee : enM (t :: l) = if t.1 = 257 then .inr () else .inl t.2.2.1 := rfl
  rw [all_3, ee]
  unfold pD_expect
  by_cases q : t.1 = 257
  · rw [if_pos (show z 3 4 = 257 from (h.eq (k := 257) (by omega)).mpr q), if_pos q]
    obtain ⟨Z, z1, z2, z3⟩ := advC (fu := fu) hf h.1 h.2.2.1.2.2.2 h.kd.2.2.2.2
    rw [z1, pv_bndv, pv_bndv, pv_letm, pv_u2, if_neg (by omega), z3 3 7 (by omega), h.2.2.2.2.2]
    refine Or.inr ⟨_, rfl, by rw [pv_u2, if_pos ⟨rfl, rfl⟩], fun c j hc => ?_, rfl⟩
    rw [pv_u2]
    by_cases e : c = 3 ∧ j = 1
    · rw [if_pos e, e.1, e.2]
    · rw [if_neg e, pv_u2, if_neg e]; exact z3 c j hc
  · rw [if_neg (show ¬ z 3 4 = 257 from fun e => q ((h.eq (k := 257) (by omega)).mp e)), if_neg q]
    obtain ⟨Z, z1, z2, z3⟩ := h.fail (fu := fu) hl
    rw [z1, pv_bndv, pv_bndv, pv_letm, pv_u2, if_neg (by omega), z2.2.2.1]
    exact Or.inl ⟨_, _, z2.2.2.2.1, rfl, by rw [pv_u2, if_pos ⟨rfl, rfl⟩], z3.h.tr (fun c j h1 _ _ _ => by rw [pv_u2, if_neg (by omega)]), rfl⟩
def txM (ts : List Tok) : Nat ⊕ (List Nat × List Nat × List Nat) :=
  match paM 0 ts [] with
  | .inl q => .inl q
  | .inr (C1, l1) => match paM 1 l1 C1 with
    | .inl q => .inl q
    | .inr (C2, l2) => match paM 2 l2 C2 with
      | .inl q => .inl q
      | .inr (C3, l3) => match enM l3 with
        | .inl q => .inl q
        | .inr _ => .inr (C1, C2, C3)
/-- what a text says is well formed -/
def goodT (C1 C2 C3 : List Nat) : Prop := ∃ D2 D3, C2 = D2 ++ C1 ∧ C3 = D3 ++ C2 ∧ wfR C1 ∧ wfR D2 ∧ wfR D3 ∧ okL C3 ∧ C3.length ≤ 160
theorem allC {z : Sg} {t : Tok} {l : List Tok} (hf : 300 ≤ fu) (h : rcC T n z t l []) (hl : l.length ≤ 160) :
    (∃ q Z, q ≤ 160 ∧ pD_readAll_23 fu fu 0 z = some (nI q, Z) ∧ Z 3 1 = 0 ∧ FH z Z ∧ txM (t :: l) = .inl q) ∨
    ∃ Z C1 C2 C3, pD_readAll_23 fu fu 0 z = some (-1, Z) ∧ Z 3 1 = 0 ∧ FH z Z ∧ txM (t :: l) = .inr (C1, C2, C3) ∧ goodT C1 C2 C3 ∧ cdM (Z 67) C3 ∧ Z 68 0 = nI C1.length ∧ Z 68 1 = nI C2.length ∧ Z 68 2 = nI C3.length := by
  obtain ⟨f, hfe⟩ : ∃ f, fu = f + 4 := ⟨fu - 4, by omega⟩
  have e0 : pD_readAll_23 fu fu 0 z = seqC fu 0 z (fun z10 => pD_readAll_23 fu (f + 3) (nI 1) z10) := by
    conv => lhs; arg 2; rw [hfe]
    exact all_c (i := 0) (by omega) z
  have F3 : ∀ {q : Nat} {z1 : Sg}, rfC T n z1 q → ∃ Z, pD_readAll_23 fu (f + 1) (nI 3) z1 = some (nI q, Z) ∧ Z 3 1 = 0 ∧ FH z1 Z := fun h => lstF h
  have F2 : ∀ {q : Nat} {z1 : Sg}, rfC T n z1 q → ∃ Z, pD_readAll_23 fu (f + 2) (nI 2) z1 = some (nI q, Z) ∧ Z 3 1 = 0 ∧ FH z1 Z := fun {q z1} h => by
    obtain ⟨y, y1, y2, y3⟩ := seqF (i := 2) hf (by omega) h (fun z10 => pD_readAll_23 fu (f + 1) (nI 3) z10)
    obtain ⟨Z, a1, a2, a3⟩ := F3 y2
    exact ⟨Z, by rw [all_c (by omega)]; exact y1.trans a1, a2, y3.tr a3⟩
  have F1 : ∀ {q : Nat} {z1 : Sg}, rfC T n z1 q → ∃ Z, pD_readAll_23 fu (f + 3) (nI 1) z1 = some (nI q, Z) ∧ Z 3 1 = 0 ∧ FH z1 Z := fun {q z1} h => by
    obtain ⟨y, y1, y2, y3⟩ := seqF (i := 1) hf (by omega) h (fun z10 => pD_readAll_23 fu (f + 2) (nI 2) z10)
    obtain ⟨Z, a1, a2, a3⟩ := F2 y2
    exact ⟨Z, by rw [all_c (by omega)]; exact y1.trans a1, a2, y3.tr a3⟩
  rw [e0]
  unfold txM
  rcases seqS (i := 0) hf (by omega) h (by rw [List.length_nil]; omega) (fun z10 => pD_readAll_23 fu (f + 3) (nI 1) z10) with ⟨q, z1, a1, a2, a3, a4⟩ | ⟨z1, t1, l1, D1, a1, a2, a3, a4, a5, a6, a7, a8, a9⟩
  · obtain ⟨Z, b1, b2, b3⟩ := F1 a2
    exact Or.inl ⟨q, Z, a2.2.2.2.1, a1.trans b1, b2, a3.tr b3, by rw [a4]⟩
  · rw [List.append_nil] at a2 a4 a8
    rw [a1, a4]
    show (∃ q Z, q ≤ 160 ∧ pD_readAll_23 fu (f + 3) (nI 1) z1 = _ ∧ _) ∨ ∃ Z C1 C2 C3, pD_readAll_23 fu (f + 3) (nI 1) z1 = _ ∧ _
    rw [all_c (by omega)]
    rcases seqS (i := 1) hf (by omega) a2 (by omega) (fun z10 => pD_readAll_23 fu (f + 2) (nI 2) z10) with ⟨q, z2, b1, b2, b3, b4⟩ | ⟨z2, t2, l2, D2, b1, b2, b3, b4, b5, b6, b7, b8, b9⟩
    · obtain ⟨Z, c1, c2, c3⟩ := F2 b2
      exact Or.inl ⟨q, Z, b2.2.2.2.1, b1.trans c1, c2, (a3.tr b3).tr c3, by simp only [b4]⟩
    · rw [b1]
      show (∃ q Z, q ≤ 160 ∧ pD_readAll_23 fu (f + 2) (nI 2) z2 = _ ∧ _) ∨ ∃ Z C1 C2 C3, pD_readAll_23 fu (f + 2) (nI 2) z2 = _ ∧ _
      rw [all_c (by omega)]
      rcases seqS (i := 2) hf (by omega) b2 (by rw [List.length_append]; omega) (fun z10 => pD_readAll_23 fu (f + 1) (nI 3) z10) with ⟨q, z3, c1, c2, c3, c4⟩ | ⟨z3, t3, l3, D3, c1, c2, c3, c4, c5, c6, c7, c8, c9⟩
      · obtain ⟨Z, d1, d2, d3⟩ := F3 c2
        exact Or.inl ⟨q, Z, c2.2.2.2.1, c1.trans d1, d2, ((a3.tr b3).tr c3).tr d3, by simp only [b4, c4]⟩
      · rw [c1]
        show (∃ q Z, q ≤ 160 ∧ pD_readAll_23 fu (f + 1) (nI 3) z3 = _ ∧ _) ∨ ∃ Z C1 C2 C3, pD_readAll_23 fu (f + 1) (nI 3) z3 = _ ∧ _
        have hlen : (D3 ++ (D2 ++ D1)).length ≤ 160 := by
          rw [List.length_append, List.length_append]
          omega
        rcases lstS (fu := fu) (f := f) hf c2 hlen with ⟨q, Z, d0, d1, d2, d3, d4⟩ | ⟨Z, d1, d2, d3, d4⟩
        · exact Or.inl ⟨q, Z, d0, d1, d2, ((a3.tr b3).tr c3).tr d3, by simp only [b4, c4, d4]⟩
        · have k : ∀ c j, c ≠ 3 → Z c j = z3 c j := fun c j hc => by
            have := d3 c j (by omega)
            rw [pv_u2, if_neg (by omega)] at this
            exact this
          refine Or.inr ⟨Z, D1, D2 ++ D1, D3 ++ (D2 ++ D1), d1, d2, ((a3.tr b3).tr c3).tr (fun c j h1 _ _ _ => ?_), by simp only [b4, c4, d4], ⟨D2, D3, rfl, rfl, a5, b5, c5, okL_a c6 (okL_a b6 a6), hlen⟩, cdM_upd c2.2.2.2.2.1 (fun i _ => k _ _ (by omega)), by rw [k _ _ (by omega), c9 _ (by omega), b9 _ (by omega)]; exact a8, by rw [k _ _ (by omega), c9 _ (by omega)]; exact b8, by rw [k _ _ (by omega)]; exact c8⟩
          have := d3 c j (by omega)
          rw [pv_u2, if_neg (by omega)] at this
          exact this
end TXC
