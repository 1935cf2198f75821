/-! a text's reading with held signs, told once; what is out stands last first -/
def rkM (c : Nat) : Nat := if c = 0 then 0 else if c = 11 then 1 else if c = 12 then 2 else if c = 13 then 3 else if 15 < c then (if 17 < c then (if c = 18 then 6 else 7) else 5) else 4
def unM (l : Nat) : List Nat → List Nat → List Nat × List Nat
  | [], O => ([], O)
  | h :: H, O => if rkM h < l then (h :: H, O) else unM l H (h :: O)
def opM : List Nat → Nat
  | [] => 0
  | h :: H => opM H + if h = 13 ∨ h = 19 ∨ h = 0 then 1 else 0
theorem opM_c (h : Nat) (H : List Nat) : opM (h :: H) = opM H + if h = 13 ∨ h = 19 ∨ h = 0 then 1 else 0 := rfl
def sgM (k : Nat) : Nat := if k = 3 then 11 else if k = 4 then 12 else if k = 60 then 14 else if k = 61 then 15 else if k = 43 then 16 else if k = 45 then 17 else if k = 42 then 18 else 0
def lvM (c : Nat) : Nat := if rkM c = 4 then 5 else rkM c
def t4M : List Nat → Bool
  | [] => false
  | h :: _ => decide (rkM h = 4)
def syM : List Tok → Bool → Bool → List Nat → List Nat → Nat ⊕ (List Nat × List Tok)
  | [], _, _, _, _ => .inl 0
  | t :: l, true, m, H, O => if t.1 = 256 then syM l false m (unM 7 H ((100000 + t.2.1) :: O)).1 (unM 7 H ((100000 + t.2.1) :: O)).2 else if 6 ≤ t.1 ∧ t.1 < 12 then syM l false m (unM 7 H ((t.1 - 6) :: O)).1 (unM 7 H ((t.1 - 6) :: O)).2 else if t.1 = 5 ∧ m = true then (if opM H = 5 then .inl t.2.2.1 else syM l true m (13 :: H) O) else if t.1 = 45 then (if opM H = 5 then .inl t.2.2.1 else syM l true false (19 :: H) O) else if t.1 = 40 then (if opM H = 5 then .inl t.2.2.1 else syM l true true (0 :: H) O) else .inl t.2.2.1
  | t :: l, false, m, H, O => if t.1 = 59 then (if (unM 1 H O).1 = [] then .inr ((unM 1 H O).2, l) else .inl t.2.2.1) else if t.1 = 41 then (if (unM 1 H O).1 = [] then .inl t.2.2.1 else syM l false m (unM 7 (unM 1 H O).1.tail (unM 1 H O).2).1 (unM 7 (unM 1 H O).1.tail (unM 1 H O).2).2) else if sgM t.1 = 0 then .inl t.2.2.1 else if rkM (sgM t.1) = 4 ∧ t4M (unM 5 H O).1 = true then .inl t.2.2.1 else syM l true (decide (sgM t.1 ≤ 12)) (sgM t.1 :: (unM (lvM (sgM t.1)) H O).1) (unM (lvM (sgM t.1)) H O).2
theorem unM_len {l : Nat} : ∀ H O, (unM l H O).1.length + (unM l H O).2.length = H.length + O.length
  | [], O => rfl
  | h :: H, O => by
    unfold unM
    by_cases q : rkM h < l
    · rw [if_pos q]
    · rw [if_neg q, unM_len H]
      simp
      omega
theorem unM_top {l : Nat} : ∀ H O, (unM l H O).1 = [] ∨ ∃ x t, (unM l H O).1 = x :: t ∧ rkM x < l
  | [], O => Or.inl rfl
  | h :: H, O => by
    unfold unM
    by_cases q : rkM h < l
    · rw [if_pos q]; exact Or.inr ⟨h, H, rfl, q⟩
    · rw [if_neg q]; exact unM_top H _
theorem rkM_0 {c : Nat} (h : rkM c < 1) : c = 0 := by
  unfold rkM at h
  by_cases q : c = 0
  · exact q
  · rw [if_neg q] at h
    repeat' split at h
    all_goals omega
/-! the tokens from a on -/
def tkL (T : Nat → Int32) (n : Nat) : List Tok → Nat → Prop
  | [], _ => False
  | t :: l, a => t = tok1 T n a ∧ a ≤ n ∧ if t.1 = 257 then l = [] else tkL T n l t.2.2.2
theorem tkL_ex {T : Nat → Int32} {n : Nat} (hT : ∀ j, j < n → bI 256 (T j)) (hn : n ≤ 160) : ∀ d a, a ≤ n → n - a ≤ d → ∃ l, tkL T n l a ∧ l.length ≤ n - a + 1 := by
  intro d
  induction d with
  | zero =>
    intro a h1 h2
    obtain ⟨b1, b2, b3, b4, b5, b6⟩ := tok_b (T := T) (n := n) h1 hT hn
    have : (tok1 T n a).1 = 257 := Classical.byContradiction fun q => by have := b5 q; omega
    exact ⟨[tok1 T n a], ⟨rfl, h1, by rw [if_pos this]⟩, by simp⟩
  | succ d ih =>
    intro a h1 h2
    obtain ⟨b1, b2, b3, b4, b5, b6⟩ := tok_b (T := T) (n := n) h1 hT hn
    by_cases q : (tok1 T n a).1 = 257
    · exact ⟨[tok1 T n a], ⟨rfl, h1, by rw [if_pos q]⟩, by simp⟩
    · have := b5 q
      obtain ⟨l, l1, l2⟩ := ih _ b4 (by omega)
      exact ⟨tok1 T n a :: l, ⟨rfl, h1, by rw [if_neg q]; exact l1⟩, by simp; omega⟩
/-! the reference's cells -/
def hdM (A : Nat → Int32) : List Nat → Prop
  | [] => True
  | h :: t => A t.length = nI h ∧ h < 200000 ∧ hdM A t
theorem hdM_upd {A B : Nat → Int32} : ∀ {s : List Nat}, hdM A s → (∀ i, i < s.length → B i = A i) → hdM B s
  | [], _, _ => trivial
  | x :: t, h, e => ⟨(e t.length (by simp)).trans h.1, h.2.1, hdM_upd h.2.2 (fun i hi => e i (by simp; omega))⟩
def stM (z : Sg) (tc : Nat) (H O : List Nat) : Prop := z 78 24 = nI H.length ∧ z 78 25 = nI (opM H) ∧ z 78 26 = nI O.length ∧ hdM (z 93) H ∧ hdM (fun i => z 84 (200 * tc + i)) O
def ouM (z : Sg) (tc : Nat) (O : List Nat) : Prop := z 78 26 = nI O.length ∧ hdM (fun i => z 84 (200 * tc + i)) O
def FX (tc : Nat) (z Z : Sg) : Prop := ∀ c j, ¬ (c = 78 ∧ 24 ≤ j ∧ j ≤ 26) → c ≠ 93 → ¬ (c = 84 ∧ 200 * tc ≤ j ∧ j < 200 * tc + 200) → Z c j = z c j
theorem FX.rf {tc : Nat} {z : Sg} : FX tc z z := fun _ _ _ _ _ => rfl
theorem FX.tr {tc : Nat} {z Z Y : Sg} (h1 : FX tc z Z) (h2 : FX tc Z Y) : FX tc z Y := fun c j a b d => (h2 c j a b d).trans (h1 c j a b d)
theorem FX.u {tc : Nat} {z Z : Sg} {j : Nat} {v : Int32} (h : FX tc z Z) (hj : 24 ≤ j ∧ j ≤ 26) : FX tc z (u2 Z 78 j v) := fun a b q1 q2 q3 => by
  rw [pv_u2, if_neg (by omega)]
  exact h a b q1 q2 q3
theorem stM.r {tc : Nat} {z Z : Sg} {H O : List Nat} (h : stM z tc H O) (e : FR z Z) : stM Z tc H O := ⟨by rw [e _ _ (by omega)]; exact h.1, by rw [e _ _ (by omega)]; exact h.2.1, by rw [e _ _ (by omega)]; exact h.2.2.1, hdM_upd h.2.2.2.1 (fun i _ => e _ _ (by omega)), hdM_upd h.2.2.2.2 (fun i _ => e _ _ (by omega))⟩
theorem tpM.x {tc n : Nat} {T : Nat → Int32} {z Z : Sg} (h : tpM z n T) (e : FX tc z Z) : tpM Z n T := ⟨by rw [e _ _ (by omega) (by omega) (by omega)]; exact h.1, h.2.1, fun j hj => by rw [e _ _ (by omega) (by omega) (by omega)]; exact h.2.2.1 j hj, h.2.2.2.1, h.2.2.2.2.at (fun c j hc => e c j (by omega) (by omega) (by omega))⟩
section RDM
variable {fu n tc : Nat} {T : Nat → Int32}
theorem rankM {h : Nat} (hh : h < 200000) (z : Sg) : pM_rank fu (nI h) z = some (nI (rkM h), z) := by
  have e0 : (nI h = 0) ↔ h = 0 := pv_eq (b := 0) (by omega) (by omega)
  have e11 : (nI h = 11) ↔ h = 11 := pv_eq (b := 11) (by omega) (by omega)
  have e12 : (nI h = 12) ↔ h = 12 := pv_eq (b := 12) (by omega) (by omega)
  have e13 : (nI h = 13) ↔ h = 13 := pv_eq (b := 13) (by omega) (by omega)
  have e18 : (nI h = 18) ↔ h = 18 := pv_eq (b := 18) (by omega) (by omega)
  have e15 : (15 < nI h) ↔ 15 < h := pv_lt (a := 15) (by omega) (by omega)
  have e17 : (17 < nI h) ↔ 17 < h := pv_lt (a := 17) (by omega) (by omega)
  unfold pM_rank rkM
  simp only [e0, e11, e12, e13, e18, e15, e17]
  repeat' split
  all_goals rfl
theorem rkM_le (c : Nat) : rkM c ≤ 7 := by
  unfold rkM
  repeat' split
  all_goals omega
theorem putsM {z : Sg} {H O : List Nat} {c : Nat} (h : stM z tc H O) (h9 : z 78 9 = nI tc) (ht : tc < 6) (hl : O.length < 200) (hc : c < 200000) : ∃ Z, pM_puts fu (nI c) z = some Z ∧ stM Z tc H (c :: O) ∧ FX tc z Z := by
  obtain ⟨s1, s2, s3, s4, s5⟩ := h
  unfold pM_puts
  have ei : (200 : Int32) * z 78 9 + z 78 26 = nI (200 * tc + O.length) := by rw [h9, s3, show (200 : Int32) = nI 200 from rfl, pk_mul, nI_add]
  rw [ei, pv_inb (by omega) (by omega), pv_chk, pv_letm, pv_letm, pv_sa (by omega)]
  refine ⟨_, rfl, ⟨?_, ?_, ?_, ?_, ?_⟩, ?_⟩
  · rw [pv_u2, if_neg (by omega), pv_u2, if_neg (by omega)]; exact s1
  · rw [pv_u2, if_neg (by omega), pv_u2, if_neg (by omega)]; exact s2
  · rw [pv_u2, if_pos ⟨rfl, rfl⟩, pv_u2, if_neg (by omega), s3, nI_1, List.length_cons]
  · exact hdM_upd s4 (fun i _ => by rw [pv_u2, if_neg (by omega), pv_u2, if_neg (by omega)])
  · refine ⟨?_, hc, hdM_upd s5 (fun i hi => ?_)⟩
    · show u2 _ _ _ _ 84 (200 * tc + O.length) = nI c
      rw [pv_u2, if_neg (by omega), pv_u2, if_pos ⟨rfl, rfl⟩]
    · show u2 _ _ _ _ 84 (200 * tc + i) = z 84 (200 * tc + i)
      rw [pv_u2, if_neg (by omega), pv_u2, if_neg (by omega)]
  · exact fun a b q1 q2 q3 => by rw [pv_u2, if_neg (by omega), pv_u2, if_neg (by omega)]
theorem unwM {l : Nat} (h1 : 1 ≤ l) (h7 : l ≤ 7) (ht : tc < 6) : ∀ (H O : List Nat) (f : Nat) (z : Sg), H.length < f → stM z tc H O → z 78 9 = nI tc → H.length + O.length < 200 → ∃ Z, pM_unwinds_0 fu f (nI l) z = some Z ∧ stM Z tc (unM l H O).1 (unM l H O).2 ∧ FX tc z Z
  | [], O, f, z, hf, h, h9, hl => by
    obtain ⟨f, rfl⟩ := fuS hf
    rw [pM_unwinds_0, h.1, if_pos (show nI ([] : List Nat).length ≤ 0 from nI_le (a := 0) (b := 0) (by omega) (by omega))]
    exact ⟨z, rfl, h, FX.rf⟩
  | x :: H, O, f, z, hf, h, h9, hl => by
    obtain ⟨f, rfl⟩ := fuS hf
    have h' := h
    obtain ⟨s1, s2, s3, ⟨s4, s6, s7⟩, s5⟩ := h
    rw [List.length_cons] at s1 hl hf
    have hr := rkM_le x
    rw [pM_unwinds_0, s1, if_neg (show ¬ nI (H.length + 1) ≤ 0 from nI_ge (a := 0) (by omega) (by omega)), nI_pred, pv_inb (by omega) (by omega), pv_chk, pv_ga (by omega), s4, rankM s6, pv_bnd]
    unfold unM
    by_cases q : rkM x < l
    · rw [if_pos (by rw [pv_lt (by omega) (by omega)]; exact q), if_pos q]
      exact ⟨z, rfl, h', FX.rf⟩
    · rw [if_neg (by rw [pv_lt (by omega) (by omega)]; exact q), if_neg q, pv_letm]
      have e24 : (u2 z 78 24 (z 78 24 - 1)) 78 24 = nI H.length := by rw [pv_u2, if_pos ⟨rfl, rfl⟩, s1, nI_pred]
      have e25 : (u2 z 78 24 (z 78 24 - 1)) 78 25 = nI (opM (x :: H)) := by rw [pv_u2, if_neg (by omega)]; exact s2
      have e26 : (u2 z 78 24 (z 78 24 - 1)) 78 26 = nI O.length := by rw [pv_u2, if_neg (by omega)]; exact s3
      have e9 : (u2 z 78 24 (z 78 24 - 1)) 78 9 = nI tc := by rw [pv_u2, if_neg (by omega)]; exact h9
      have e93 : ∀ j, (u2 z 78 24 (z 78 24 - 1)) 93 j = z 93 j := fun j => by rw [pv_u2, if_neg (by omega)]
      have e84 : ∀ j, (u2 z 78 24 (z 78 24 - 1)) 84 j = z 84 j := fun j => by rw [pv_u2, if_neg (by omega)]
      have eF : FX tc z (u2 z 78 24 (z 78 24 - 1)) := FX.rf.u (by omega)
      generalize u2 z 78 24 (z 78 24 - 1) = y at e24 e25 e26 e9 e93 e84 eF ⊢
      rw [e24, pv_inb (by omega) (by omega), pv_chk, pv_letm, pv_ga (by omega), e93, s4, e25]
      have fin : ∀ t, nI (opM (x :: H)) - t = nI (opM H) → ∃ Z, pM_unwinds_67 fu (pM_unwinds_0 fu f) (nI l) (nI x) (nI (opM (x :: H))) t y = some Z ∧ stM Z tc (unM l H (x :: O)).1 (unM l H (x :: O)).2 ∧ FX tc z Z := fun t ht' => by
        unfold pM_unwinds_67
        rw [pv_letm, ht']
        have hst : stM (u2 y 78 25 (nI (opM H))) tc H O := ⟨by rw [pv_u2, if_neg (by omega)]; exact e24, by rw [pv_u2, if_pos ⟨rfl, rfl⟩], by rw [pv_u2, if_neg (by omega)]; exact e26, hdM_upd s7 (fun i _ => by rw [pv_u2, if_neg (by omega), e93]), hdM_upd s5 (fun i _ => by
          show u2 y 78 25 (nI (opM H)) 84 (200 * tc + i) = z 84 (200 * tc + i)
          rw [pv_u2, if_neg (by omega), e84])⟩
        obtain ⟨Z1, a1, a2, a3⟩ := putsM (fu := fu) (c := x) hst (by rw [pv_u2, if_neg (by omega)]; exact e9) ht (by omega) s6
        obtain ⟨Z2, c1, c2, c3⟩ := unwM h1 h7 ht H (x :: O) f Z1 (by omega) a2 (by rw [a3 _ _ (by omega) (by omega) (by omega), pv_u2, if_neg (by omega)]; exact e9) (by rw [List.length_cons]; omega)
        exact ⟨Z2, by rw [a1, pv_bndv, c1], c2, ((eF.u (by omega)).tr a3).tr c3⟩
      have en : ∀ k, (opM (x :: H) = opM H + k) → nI (opM (x :: H)) - nI k = nI (opM H) := fun k hk => by rw [hk, pk_sub (by omega), Nat.add_sub_cancel]
      unfold pM_unwinds_62
      by_cases q13 : x = 13
      · rw [if_pos (by rw [q13]; rfl)]
        exact fin 1 (en 1 (by subst q13; rfl))
      · rw [if_neg (show ¬ nI x = 13 from fun e => q13 ((pv_eq (b := 13) (by omega) (by omega)).mp e))]
        by_cases q19 : x = 19
        · rw [if_pos (by rw [q19]; rfl)]
          exact fin 1 (en 1 (by subst q19; rfl))
        · rw [if_neg (show ¬ nI x = 19 from fun e => q19 ((pv_eq (b := 19) (by omega) (by omega)).mp e))]
          refine fin 0 (en 0 ?_)
          rw [opM_c, if_neg]
          rintro (e | e | e)
          · exact q13 e
          · exact q19 e
          · subst e
            exact q (by show 0 < l; omega)
theorem unwM' {l : Nat} {H O : List Nat} {z : Sg} (hf : 300 ≤ fu) (h1 : 1 ≤ l) (h7 : l ≤ 7) (ht : tc < 6) (h : stM z tc H O) (h9 : z 78 9 = nI tc) (hl : H.length + O.length < 200) : ∃ Z, pM_unwinds fu (nI l) z = some Z ∧ stM Z tc (unM l H O).1 (unM l H O).2 ∧ FX tc z Z := unwM h1 h7 ht H O fu z (by omega) h h9 hl
theorem holdM {z : Sg} {H O : List Nat} {c : Nat} (h : stM z tc H O) (hl : H.length < 200) (hc : c < 200000) {y : Sg} (hy : y 78 25 = nI (opM (c :: H)) ∧ ∀ a b, ¬ (a = 78 ∧ b = 25) → y a b = z a b) : ∃ Z, pM_holds fu (nI c) y = some Z ∧ stM Z tc (c :: H) O ∧ FX tc z Z := by
  obtain ⟨s1, s2, s3, s4, s5⟩ := h
  obtain ⟨y1, y2⟩ := hy
  unfold pM_holds
  have e24 : y 78 24 = nI H.length := by rw [y2 _ _ (by omega)]; exact s1
  rw [e24, pv_inb (by omega) (by omega), pv_chk, pv_letm, pv_letm, pv_sa (by omega)]
  refine ⟨_, rfl, ⟨?_, ?_, ?_, ?_, ?_⟩, ?_⟩
  · rw [pv_u2, if_pos ⟨rfl, rfl⟩, pv_u2, if_neg (by omega), e24, nI_1, List.length_cons]
  · rw [pv_u2, if_neg (by omega), pv_u2, if_neg (by omega)]; exact y1
  · rw [pv_u2, if_neg (by omega), pv_u2, if_neg (by omega), y2 _ _ (by omega)]; exact s3
  · refine ⟨?_, hc, hdM_upd s4 (fun i hi => ?_)⟩
    · rw [pv_u2, if_neg (by omega), pv_u2, if_pos ⟨rfl, rfl⟩]
    · rw [pv_u2, if_neg (by omega), pv_u2, if_neg (by omega), y2 _ _ (by omega)]
  · exact hdM_upd s5 (fun i _ => by
      show u2 _ _ _ _ 84 (200 * tc + i) = z 84 (200 * tc + i)
      rw [pv_u2, if_neg (by omega), pv_u2, if_neg (by omega), y2 _ _ (by omega)])
  · exact fun a b q1 q2 q3 => by rw [pv_u2, if_neg (by omega), pv_u2, if_neg (by omega), y2 _ _ (by omega)]
theorem opneM {z : Sg} {H O : List Nat} {c : Nat} (h : stM z tc H O) (hl : H.length < 200) (hc : c = 13 ∨ c = 19 ∨ c = 0) : (opM H = 5 ∧ pM_opensOne fu (nI c) z = some (0, z)) ∨ (opM H ≠ 5 ∧ ∃ Z, pM_opensOne fu (nI c) z = some (1, Z) ∧ stM Z tc (c :: H) O ∧ FX tc z Z) := by
  have hop : ∀ H : List Nat, opM H ≤ H.length := by
    intro H
    induction H with
    | nil => exact Nat.le_refl _
    | cons a t ih =>
      unfold opM
      rw [List.length_cons]
      split <;> omega
  have := hop H
  unfold pM_opensOne
  rw [h.2.1]
  by_cases q : opM H = 5
  · rw [if_pos (show nI (opM H) = 5 by rw [q]; rfl)]; exact Or.inl ⟨q, rfl⟩
  · rw [if_neg (show ¬ nI (opM H) = 5 from fun e => q ((pv_eq (b := 5) (by omega) (by omega)).mp e)), pv_letm, nI_1]
    refine Or.inr ⟨q, ?_⟩
    obtain ⟨Z, z1, z2, z3⟩ := holdM (fu := fu) (c := c) h hl (by omega) (y := u2 z 78 25 (nI (opM H + 1))) ⟨by rw [pv_u2, if_pos ⟨rfl, rfl⟩, opM_c, if_pos hc], fun a b hab => by rw [pv_u2, if_neg hab]⟩
    exact ⟨Z, by rw [z1, pv_bndv], z2, z3⟩
def sgI (x : Int32) : Int32 := if x = 4 then 11 else if x = 5 then 12 else if x = 60 then 14 else if x = 61 then 15 else if x = 43 then 16 else if x = 45 then 17 else if x = 42 then 18 else -1
theorem signM (z : Sg) : pM_signOf fu z = some (sgI (z 78 20), z) := by
  unfold pM_signOf sgI
  repeat' split
  all_goals first | rfl | contradiction
theorem kd_tab1 : ∀ k, k < 259 → (k < 12 ∨ k ∈ [40, 41, 59, 43, 45, 42, 60, 61, 256, 257, 258]) → (rK k = 1 ↔ k = 256) ∧ (rK k = 2 ↔ 6 ≤ k ∧ k < 12) ∧ (rK k = 6 ↔ k = 5) ∧ (rK k = 45 ↔ k = 45) ∧ (rK k = 40 ↔ k = 40) := by decide +kernel
theorem kd_tab2 : ∀ k, k < 259 → (k < 12 ∨ k ∈ [40, 41, 59, 43, 45, 42, 60, 61, 256, 257, 258]) → (rK k = 59 ↔ k = 59) ∧ (rK k = 41 ↔ k = 41) ∧ (rK k = 3 ↔ k < 3) ∧ (rK k = 0 ↔ k = 257) := by decide +kernel
theorem kd_tab3 : ∀ k, k < 259 → (k < 12 ∨ k ∈ [40, 41, 59, 43, 45, 42, 60, 61, 256, 257, 258]) → sgI (rK k) = (if sgM k = 0 then -1 else nI (sgM k)) := by decide +kernel
theorem sgM_tab : ∀ k, k < 259 → sgM k ≠ 0 → 11 ≤ sgM k ∧ sgM k ≤ 18 ∧ sgM k ≠ 13 := by decide +kernel
end RDM
