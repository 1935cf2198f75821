/-! in thought -/
def sfF (F : Nat → Nat → Int32) (w m : Nat) (v : Int32) : Nat → Nat → Int32 := fun a b => if a = w ∧ b = m then v else F a b
def skK (K : Nat → Int32) (j : Nat) (v : Int32) : Nat → Int32 := fun i => if i = j then v else K i
def bnW (w : Nat) : Nat := if w = 0 then 10 else if w = 1 then 12 else if w = 2 then 100 else if w = 3 then 6 else 10
def bnK (j : Nat) : Nat := if j = 0 then 10 else 12
theorem sfF_b {n w m : Nat} {F : Nat → Nat → Int32} {K : Nat → Int32} {v : Int32} (h : bF n F K) (hv : bI (bnW w) v) : bF n (sfF F w m v) K := by
  obtain ⟨f0, f1, f2, f3, f4, f5, f6, f7⟩ := h
  refine ⟨fun i hi => ?_, fun i hi => ?_, fun i hi => ?_, fun i hi => ?_, fun i hi => ?_, f5, f6, f7⟩ <;> unfold sfF <;> split <;> rename_i q <;> first | (obtain ⟨q1, q2⟩ := q; subst q1; exact hv) | exact f0 i hi | exact f1 i hi | exact f2 i hi | exact f3 i hi | exact f4 i hi
theorem skK_b {n j : Nat} {F : Nat → Nat → Int32} {K : Nat → Int32} {v : Int32} (h : bF n F K) (hv : bI (bnK j) v) : bF n F (skK K j v) := by
  obtain ⟨f0, f1, f2, f3, f4, f5, f6, f7⟩ := h
  refine ⟨f0, f1, f2, f3, f4, ?_, ?_, ?_⟩ <;> unfold skK <;> split <;> rename_i q <;> first | (subst q; exact hv) | exact f5 | exact f6 | exact f7
theorem bs.f {fu n lw w m : Nat} {F : Nat → Nat → Int32} {K : Nat → Int32} {C E : Nat → Nat} {v : Int32} (h : bs fu n lw F K C E) (hv : bI (bnW w) v) : bs fu n lw (sfF F w m v) K C E := ⟨h.1, h.2.1, h.2.2.1, h.2.2.2.1, sfF_b h.2.2.2.2 hv⟩
theorem bs.k {fu n lw j : Nat} {F : Nat → Nat → Int32} {K : Nat → Int32} {C E : Nat → Nat} {v : Int32} (h : bs fu n lw F K C E) (hv : bI (bnK j) v) : bs fu n lw F (skK K j v) C E := ⟨h.1, h.2.1, h.2.2.1, h.2.2.2.1, skK_b h.2.2.2.2 hv⟩
theorem rC.f {z : Sg} {r n lw w m : Nat} {F : Nat → Nat → Int32} {K : Nat → Int32} {v : Int32} (h : rC z r n lw F K) (hw : w < 5) : rC (u2 z (r + 3 + w) m v) r n lw (sfF F w m v) K := by
  have key : ∀ a i, a < 5 → i < n → z (r + 3 + a) i = F a i → (u2 z (r + 3 + w) m v) (r + 3 + a) i = sfF F w m v a i := fun a i ha hi e => by
    rw [pv_u2]
    unfold sfF
    by_cases q : a = w ∧ i = m
    · rw [if_pos (by omega), if_pos q]
    · rw [if_neg (by omega), if_neg q]; exact e
  obtain ⟨a1, a2, a3, a4, a5, a6, a7, a8, a9, a10, a11⟩ := h
  refine ⟨by rw [pv_u2, if_neg (by omega)]; exact a1, by rw [pv_u2, if_neg (by omega)]; exact a2, fun i hi => key 0 i (by omega) hi (a3 i hi), fun i hi => key 1 i (by omega) hi (a4 i hi), fun i hi => key 2 i (by omega) hi (a5 i hi), fun i hi => key 3 i (by omega) hi (a6 i hi), fun i hi => key 4 i (by omega) hi (a7 i hi), by rw [pv_u2, if_neg (by omega)]; exact a8, by rw [pv_u2, if_neg (by omega)]; exact a9, by rw [pv_u2, if_neg (by omega)]; exact a10, by rw [pv_u2, if_neg (by omega)]; exact a11⟩
theorem rC.k {z : Sg} {r n lw j : Nat} {F : Nat → Nat → Int32} {K : Nat → Int32} {v : Int32} (h : rC z r n lw F K) : rC (u2 z (r + 1) j v) r n lw F (skK K j v) := by
  have key : ∀ i, z (r + 1) i = K i → (u2 z (r + 1) j v) (r + 1) i = skK K j v i := fun i e => by
    rw [pv_u2]
    unfold skK
    by_cases q : i = j
    · rw [if_pos ⟨rfl, q⟩, if_pos q]
    · rw [if_neg (fun w => q w.2), if_neg q]; exact e
  obtain ⟨a1, a2, a3, a4, a5, a6, a7, a8, a9, a10, a11⟩ := h
  refine ⟨by rw [pv_u2, if_neg (by omega)]; exact a1, by rw [pv_u2, if_neg (by omega)]; exact a2, fun i hi => by rw [pv_u2, if_neg (by omega)]; exact a3 i hi, fun i hi => by rw [pv_u2, if_neg (by omega)]; exact a4 i hi, fun i hi => by rw [pv_u2, if_neg (by omega)]; exact a5 i hi, fun i hi => by rw [pv_u2, if_neg (by omega)]; exact a6 i hi, fun i hi => by rw [pv_u2, if_neg (by omega)]; exact a7 i hi, key 0 a8, key 1 a9, key 2 a10, key 3 a11⟩
/-- the reference's rows but for one number -/
theorem rM.f {y z : Sg} {n lw w m c0 j0 : Nat} {F : Nat → Nat → Int32} {K : Nat → Int32} {v : Int32} (h : rM y n lw F K) (hw : (w < 3 ∧ c0 = 81 ∧ j0 = 3 * m + w) ∨ (w = 3 ∧ c0 = 79 ∧ j0 = m) ∨ (w = 4 ∧ c0 = 80 ∧ j0 = m)) (e : ∀ c j, ¬ (94 ≤ c ∧ c ≤ 97) → ¬ (c = c0 ∧ j = j0) → z c j = y c j) (hv : z c0 j0 = v) : rM z n lw (sfF F w m v) K := by
  have key : ∀ a i c j, ((a < 3 ∧ c = 81 ∧ j = 3 * i + a) ∨ (a = 3 ∧ c = 79 ∧ j = i) ∨ (a = 4 ∧ c = 80 ∧ j = i)) → y c j = F a i → z c j = sfF F w m v a i := fun a i c j hc ey => by
    unfold sfF
    by_cases q : a = w ∧ i = m
    · rw [if_pos q, ← hv, show c = c0 by omega, show j = j0 by omega]
    · rw [if_neg q, e c j (by omega) (by omega)]; exact ey
  obtain ⟨a1, a2, a3, a4, a5, a6, a7, a8, a9, a10, a11⟩ := h
  refine ⟨by rw [e _ _ (by omega) (by omega)]; exact a1, by rw [e _ _ (by omega) (by omega)]; exact a2, fun i hi => key 0 i _ _ (by omega) (a3 i hi), fun i hi => key 1 i _ _ (by omega) (a4 i hi), fun i hi => key 2 i _ _ (by omega) (a5 i hi), fun i hi => key 3 i _ _ (by omega) (a6 i hi), fun i hi => key 4 i _ _ (by omega) (a7 i hi), by rw [e _ _ (by omega) (by omega)]; exact a8, by rw [e _ _ (by omega) (by omega)]; exact a9, by rw [e _ _ (by omega) (by omega)]; exact a10, by rw [e _ _ (by omega) (by omega)]; exact a11⟩
theorem rM.k {y z : Sg} {n lw j0 : Nat} {F : Nat → Nat → Int32} {K : Nat → Int32} {v : Int32} (h : rM y n lw F K) (e : ∀ c j, ¬ (94 ≤ c ∧ c ≤ 97) → ¬ (c = 82 ∧ j = j0) → z c j = y c j) (hv : z 82 j0 = v) : rM z n lw F (skK K j0 v) := by
  have key : ∀ i, y 82 i = K i → z 82 i = skK K j0 v i := fun i ey => by
    unfold skK
    by_cases q : i = j0
    · rw [if_pos q, q, hv]
    · rw [if_neg q, e 82 i (by omega) (by omega)]; exact ey
  obtain ⟨a1, a2, a3, a4, a5, a6, a7, a8, a9, a10, a11⟩ := h
  refine ⟨by rw [e _ _ (by omega) (by omega)]; exact a1, by rw [e _ _ (by omega) (by omega)]; exact a2, fun i hi => by rw [e _ _ (by omega) (by omega)]; exact a3 i hi, fun i hi => by rw [e _ _ (by omega) (by omega)]; exact a4 i hi, fun i hi => by rw [e _ _ (by omega) (by omega)]; exact a5 i hi, fun i hi => by rw [e _ _ (by omega) (by omega)]; exact a6 i hi, fun i hi => by rw [e _ _ (by omega) (by omega)]; exact a7 i hi, key 0 a8, key 1 a9, key 2 a10, key 3 a11⟩
section TH
variable {fu n lw tc ts : Nat} {z : Sg} {F : Nat → Nat → Int32} {K : Nat → Int32} {C E : Nat → Nat → Nat}
theorem ip_think (hf : 50000 ≤ fu) (h : InvP z n lw tc ts F K C E) : ∃ Y, pR_become fu 20 9 z = some Y ∧ rC Y 20 n lw F K ∧ EqQ z Y ∧ lC Y (42 + 4 * lw) (C lw) (E lw) := by
  obtain ⟨Y, y1, y2, y3, y4⟩ := becC (fu := fu) (r := 20) (r2 := 9) (Or.inr (Or.inl rfl)) (Or.inl rfl) (by omega) (by omega) h.1.2.2.1.1 h.1.1
  have hq := y4.q20
  exact ⟨Y, y1, y2, hq, (h.i hq.i).lC⟩
theorem eq_u {Z Y : Sg} {c j : Nat} {v : Int32} (h : EqQ Z Y) (hc : QC c j) : EqQ Z (u2 Y c j v) := fun a b hab => by
  rw [pv_u2, if_neg (fun q => by rw [q.1, q.2] at hab; exact hab hc)]
  exact h a b hab
theorem lc_q {Z Y : Sg} {b : Nat} {C E : Nat → Nat} (hw : b < 6) (h : lC Z (42 + 4 * b) C E) (e : EqQ Z Y) : lC Y (42 + 4 * b) C E := h.at (fun c j hc => e c j (by unfold QC ST; omega))
theorem has_no {d : Nat} {a2 : Int32} (hd : d = 10 ∨ d = 20) (hn : n ≤ 6) (hno : ∀ m, m < n → a2 ≠ nI (m + d)) {w : Sg} (hw : w 9 3 = nI n) (hlt : ¬ a2 < nI d) : pR_has fu 9 (a2 - nI d) w = some (0, w) := by
  have z0 : (0 : Int32).toInt = 0 := by decide
  have h0 : ¬ a2 < 0 := fun q => hlt (by
    rw [Int32.lt_iff_toInt_lt] at q ⊢
    rw [nI_toInt (by omega)]
    omega)
  obtain ⟨x, hx, rfl⟩ := nI_of h0
  rw [pv_lt (by omega) (by omega)] at hlt
  unfold pR_has
  rw [pk_sub (by omega), if_neg (nI_pos (by omega)), hw, if_pos]
  rw [pv_le (by omega) (by omega)]
  rcases Nat.lt_or_ge (x - d) n with q | q
  · exact absurd (by rw [show x - d + d = x by omega]) (hno (x - d) q)
  · exact q
theorem inr_no {d : Nat} {D a2 : Int32} (hd : d = 10 ∧ D = 9 ∨ d = 20 ∧ D = 19) (hn : n ≤ 6) (hno : ∀ m, m < n → a2 ≠ nI (m + d)) {w : Sg} (hw : w 78 0 = nI n) : pM_in fu a2 (nI d) (D + w 78 0) w = some (0, w) := by
  have z0 : (0 : Int32).toInt = 0 := by decide
  have hD : D + w 78 0 = nI (d - 1 + n) := by
    rw [hw]
    rcases hd with ⟨rfl, rfl⟩ | ⟨rfl, rfl⟩
    · exact nI_add 9 n
    · rw [show (19 : Int32) = nI 19 from rfl]; exact nI_add 19 n
  unfold pM_in
  rw [hD]
  by_cases q : a2 < nI d
  · rw [if_pos q]
  · have h0 : ¬ a2 < 0 := fun w => q (by
      rw [Int32.lt_iff_toInt_lt] at w ⊢
      rw [nI_toInt (by omega)]
      omega)
    obtain ⟨x, hx, rfl⟩ := nI_of h0
    rw [if_neg q, if_pos]
    rw [pv_lt (by omega) (by omega)] at q ⊢
    rcases Nat.lt_or_ge (x - d) n with q2 | q2
    · exact absurd (by rw [show x - d + d = x by omega]) (hno (x - d) q2)
    · omega
theorem inr_yes {d m : Nat} {D : Int32} (hd : d = 10 ∧ D = 9 ∨ d = 20 ∧ D = 19) (hn : n ≤ 6) (hm : m < n) {w : Sg} (hw : w 78 0 = nI n) : pM_in fu (nI (m + d)) (nI d) (D + w 78 0) w = some (1, w) := by
  have hD : D + w 78 0 = nI (d - 1 + n) := by
    rw [hw]
    rcases hd with ⟨rfl, rfl⟩ | ⟨rfl, rfl⟩
    · exact nI_add 9 n
    · rw [show (19 : Int32) = nI 19 from rfl]; exact nI_add 19 n
  unfold pM_in
  rw [hD, if_neg (nI_nlt (by omega) (by omega)), if_neg (nI_nlt (by omega) (by omega))]
/-! told strokes: the first number that is otherwise -/
def foM (L : LT) (n m : Nat) (g : Nat → Int32) : Nat → Nat → FK → Int32
  | 0, _, _ => -1
  | k + 1, i, s => if (s1M L n s).1 1 m = g i then foM L n m g k (i + 1) (s1M L n s) else nI i
theorem foC_loop {CC EE : Nat → Nat} {m c3 sz : Nat} {g : Nat → Int32} (hm : m < n) (hsz : sz ≤ 40) (hc3 : 70 ≤ c3) {y : Sg} (hz : y c3 2 = nI sz) (hg : ∀ j, j < 40 → y (c3 + 1) j = g j) : ∀ k i f (s : FK) z, i + k = sz → k < f → bs fu n lw s.1 s.2 CC EE → rC z 20 n lw s.1 s.2 → lC z (42 + 4 * lw) CC EE → EqQ y z → ∃ Z, pS_firstOtherwise_10 fu f (nI m) c3 (nI i) z = some (foM (saM CC EE) n m g k i s, Z) ∧ EqQ y Z := by
  intro k
  induction k with
  | zero =>
    intro i f s z h1 h2 h3 h4 h5 h6
    obtain ⟨f, rfl⟩ := fuS h2
    have e : z c3 2 = nI sz := by rw [h6 _ _ (by unfold QC ST; omega)]; exact hz
    rw [pS_firstOtherwise_10, e, if_pos (nI_le (by omega) (by omega))]
    exact ⟨z, rfl, h6⟩
  | succ k ih =>
    intro i f s z h1 h2 h3 h4 h5 h6
    obtain ⟨f, rfl⟩ := fuS h2
    have e : z c3 2 = nI sz := by rw [h6 _ _ (by unfold QC ST; omega)]; exact hz
    obtain ⟨Y, y1, y2, y3, y4⟩ := swC (Or.inr (Or.inl rfl)) h3 h4 h5
    have h7 : EqQ y Y := h6.tr y4.q20
    have hn := h3.1
    have eg : Y (c3 + 1) i = g i := by rw [h7 _ _ (by unfold QC ST; omega)]; exact hg i (by omega)
    rw [pS_firstOtherwise_10, e, if_neg (nI_ge (by omega) (by omega)), y1, pv_bnd, pv_inb (by omega) (by omega), pv_chk, pv_inb (by omega) (by omega), pv_chk, pv_ga (by omega), pv_ga (by omega), eg, show Y 24 m = (s1M (saM CC EE) n s).1 1 m from y2.2.2.2.1 m hm, foM]
    by_cases q : (s1M (saM CC EE) n s).1 1 m = g i
    · rw [if_pos q, if_pos q, pv_letm, nI_1]
      exact ih (i + 1) f (s1M (saM CC EE) n s) Y (by omega) (by omega) h3.next y2 (h5.w (Or.inr (Or.inl rfl)) (by have := h3.2.1; omega) y4) h7
    · rw [if_neg q, if_neg q]
      exact ⟨Y, rfl, h7⟩
theorem foC {CC EE : Nat → Nat} {m s0 sz : Nat} {g : Nat → Int32} (hm : m < n) (hs : s0 < 4) {y : Sg} (hk : iH1 y s0 sz) (hg : ∀ j, j < 40 → y (71 + 2 * s0) j = g j) (s : FK) {z : Sg} (hb : bs fu n lw s.1 s.2 CC EE) (h4 : rC z 20 n lw s.1 s.2) (h5 : lC z (42 + 4 * lw) CC EE) (h6 : EqQ y z) : ∃ Z, pS_firstOtherwise fu (nI s0) (nI m) z = some (foM (saM CC EE) n m g sz 0 s, Z) ∧ EqQ y Z := by
  have hsz := hk.1
  unfold pS_firstOtherwise
  rw [pv_inb (by omega) (by omega), pv_chk, pv_clamp (by omega)]
  exact foC_loop hm hsz (by omega) hk.2.1 (fun j hj => by rw [show 70 + 2 * s0 + 1 = 71 + 2 * s0 by omega]; exact hg j hj) sz 0 fu s z (by omega) (by have := hb.2.2.2.1; omega) hb h4 h5 h6
theorem foMr_loop {CC EE : Nat → Nat} {m s0 sz : Nat} {g : Nat → Int32} (hm : m < n) (hs : s0 < 4) (hsz : sz ≤ 40) {y z0 : Sg} (hy : kptM z0 y) (hz : z0 89 s0 = nI sz) (hg : ∀ j, j < 40 → z0 90 (40 * s0 + j) = g j) : ∀ k i f (s : FK) z, i + k = sz → k + 1 < f → bs fu n lw s.1 s.2 CC EE → rM z n lw s.1 s.2 → lM z lw CC EE → EqN y z → ∃ Z, pM_unlike_9 fu f (nI s0) (nI m) (-1) (nI i) z = some (foM (saM CC EE) n m g k i s, Z) ∧ EqX z0 Z := by
  have h68 : ∀ (v : Int32) (z : Sg), 100 ≤ fu → EqN y z → ∃ Z, pM_unlike_68 fu v z = some (v, Z) ∧ EqX z0 Z := fun v z hf e => by
    obtain ⟨Z, z1, z2⟩ := layMr (fu := fu) hf hy e
    unfold pM_unlike_68
    rw [z1, pv_bndv]
    exact ⟨Z, rfl, z2⟩
  intro k
  induction k with
  | zero =>
    intro i f s z h1 h2 h3 h4 h5 h6
    obtain ⟨f, rfl⟩ := fuS h2
    have e : z 89 s0 = nI sz := by rw [h6 _ _ (by omega) (by omega) (by omega) (by omega) (by omega), hy.1 _ _ (by omega)]; exact hz
    rw [pM_unlike_9, pv_inb (by omega) (by omega), pv_chk, pv_ga (by omega), e, if_pos (nI_le (by omega) (by omega))]
    exact h68 _ z (by have := h3.2.2.2.1; omega) h6
  | succ k ih =>
    intro i f s z h1 h2 h3 h4 h5 h6
    obtain ⟨f, rfl⟩ := fuS h2
    have e : z 89 s0 = nI sz := by rw [h6 _ _ (by omega) (by omega) (by omega) (by omega) (by omega), hy.1 _ _ (by omega)]; exact hz
    obtain ⟨Y, y1, y2, y4⟩ := swMr h3 h4 h5
    have h7 : EqN y Y := h6.tr y4
    have hn := h3.1
    have eg : Y 90 (40 * s0 + i) = g i := by rw [h7 _ _ (by omega) (by omega) (by omega) (by omega) (by omega), hy.1 _ _ (by omega)]; exact hg i (by omega)
    rw [pM_unlike_9, pv_inb (by omega) (by omega), pv_chk, pv_ga (by omega), e, if_neg (nI_ge (by omega) (by omega)), if_pos rfl, y1, pv_bnd, l_40, pk_mul, nI_add, pv_inb (by omega) (by omega), pv_chk, l_3, pk_mul, nI_1, pv_inb (by omega) (by omega), pv_chk, pv_ga (by omega), pv_ga (by omega), eg, show Y 81 (3 * m + 1) = (s1M (saM CC EE) n s).1 1 m from y2.2.2.2.1 m hm, foM]
    unfold pM_unlike_61
    rw [pv_letm, pv_letm, nI_1]
    by_cases q : (s1M (saM CC EE) n s).1 1 m = g i
    · rw [if_pos q.symm, if_pos q]
      exact ih (i + 1) f (s1M (saM CC EE) n s) Y (by omega) (by omega) h3.next y2 (h5.n y4) h7
    · rw [if_neg (fun w => q w.symm), if_neg q]
      obtain ⟨f, rfl⟩ := fuS (show 0 < f by omega)
      rw [pM_unlike_9, pv_inb (by omega) (by omega), pv_chk, if_neg (fun w => (pv_neg1 (by omega)).mp w)]
      obtain ⟨Z, z1, z2⟩ := h68 (nI i) Y (by have := h3.2.2.2.1; omega) h7
      refine ⟨Z, ?_, z2⟩
      rw [z1]
      by_cases w : ga Y 89 (nI s0) ≤ nI (i + 1)
      · rw [if_pos w]
      · rw [if_neg w]
theorem foMr {CC EE : Nat → Nat} {m s0 sz : Nat} {g : Nat → Int32} (hm : m < n) (hs : s0 < 4) (hsz : sz ≤ 40) {z0 : Sg} (hz : z0 89 s0 = nI sz) (hg : ∀ j, j < 40 → z0 90 (40 * s0 + j) = g j) (s : FK) (hb : bs fu n lw s.1 s.2 CC EE) (h4 : rM z0 n lw s.1 s.2) (h5 : lM z0 lw CC EE) : ∃ Z, pM_unlike fu (nI s0) (nI m) z0 = some (foM (saM CC EE) n m g sz 0 s, Z) ∧ EqX z0 Z := by
  have hf := hb.2.2.2.1
  obtain ⟨y, y1, y2⟩ := keepMr (fu := fu) (by omega) z0
  unfold pM_unlike
  rw [y1, pv_bndv]
  exact foMr_loop hm hs hsz y2 hz hg sz 0 fu s y (by omega) (by omega) hb (h4.kpt y2) (h5.kpt y2) EqN.rf
/-- whose strokes are told, by which sheet -/
theorem told_cases (h : InvP z n lw tc ts F K C E) (a : Int32) : (∃ r : Int32, r ≠ 0 ∧ (∀ fu, pS_refusalOfTold fu a z = some (r, z)) ∧ ∀ fu, pM_sheetWrong fu a z = some (r, z)) ∨ ∃ s k, s < 4 ∧ k ≤ 20 ∧ a = nI s ∧ iH1 z s k ∧ (∀ fu, pS_refusalOfTold fu a z = some (0, z)) ∧ ∀ fu y, EqI z y → pM_sheetWrong fu a y = some (0, y) := by
  rcases wi_cases (M := 3) (k := 3) rfl (by omega) a with ⟨c1, c2⟩ | ⟨s, hs, rfl, c1, c2⟩
  · exact Or.inl ⟨-2, by decide, fun fu => by unfold pS_refusalOfTold; rw [c1, pv_bnd, if_pos rfl], fun fu => by unfold pM_sheetWrong; rw [c2, pv_bnd, if_pos rfl]⟩
  · obtain ⟨k, hk⟩ := h.2.2.2.2.1 s (by omega)
    have hk1 := hk.1
    have h1 : ∀ fu, pS_refusalOfTold fu (nI s) z = bnd (pH_isMissing fu (70 + 2 * (nI s).toNatClampNeg) z) (fun x4 z3 => (if x4 = 0 then (if z3 (70 + 2 * s) 2 ≤ 20 then some ((0 : Int32), z3) else some ((-2 : Int32), z3)) else some ((-11 : Int32), z3) : Option (Int32 × Sg))) := fun fu => by
      unfold pS_refusalOfTold
      rw [c1, pv_bnd, if_neg (by decide), pv_inb (by omega) (by omega), pv_chk, pv_clamp (by omega)]
      simp only [pv_chk]
    have h2 : ∀ fu y, pM_sheetWrong fu (nI s) y = (if y 88 s = -1 then some ((-11 : Int32), y) else if y 89 s ≤ 20 then some ((0 : Int32), y) else some ((-2 : Int32), y) : Option (Int32 × Sg)) := fun fu y => by
      unfold pM_sheetWrong
      rw [c2, pv_bnd, if_neg (by decide), pv_inb (by omega) (by omega), pv_chk, pv_chk, pv_ga (by omega), pv_ga (by omega)]
    rcases mis_cases (fu := 0) (by omega) hk with ⟨m1, m2⟩ | ⟨m1, m2, m3⟩
    · exact Or.inl ⟨-11, by decide, fun fu => by rw [h1, show pH_isMissing fu (70 + 2 * (nI s).toNatClampNeg) z = some (1, z) from m1, pv_bnd, if_neg (by decide)], fun fu => by rw [h2, if_pos m2]⟩
    · by_cases hk20 : k ≤ 20
      · refine Or.inr ⟨s, k, by omega, hk20, rfl, hk, fun fu => ?_, fun fu y e => ?_⟩
        · rw [h1, show pH_isMissing fu (70 + 2 * (nI s).toNatClampNeg) z = some (0, z) from m1, pv_bnd, if_pos rfl, hk.2.1, if_pos (show nI k ≤ 20 from nI_le (b := 20) hk20 (by omega))]
        · rw [h2, e 88 s (by unfold QC ST; omega) (by unfold QM; omega), e 89 s (by unfold QC ST; omega) (by unfold QM; omega), if_neg m2, hk.2.2.1, if_pos (show nI k ≤ 20 from nI_le (b := 20) hk20 (by omega))]
      · refine Or.inl ⟨-2, by decide, fun fu => ?_, fun fu => ?_⟩
        · rw [h1, show pH_isMissing fu (70 + 2 * (nI s).toNatClampNeg) z = some (0, z) from m1, pv_bnd, if_pos rfl, hk.2.1, if_neg (show ¬ nI k ≤ 20 from nI_ge (a := 20) (by omega) (by omega))]
        · rw [h2, if_neg m2, hk.2.2.1, if_neg (show ¬ nI k ≤ 20 from nI_ge (a := 20) (by omega) (by omega))]
theorem one_cases (h : InvP z n lw tc ts F K C E) (a b : Int32) : (∃ r : Int32, r ≠ 0 ∧ (∀ fu, pS_refusalOfOne fu a b z = some (r, z)) ∧ ∀ fu, pM_toldWrong fu a b z = some (r, z)) ∨ ∃ s k m, s < 4 ∧ k ≤ 20 ∧ m < n ∧ a = nI s ∧ b = nI m ∧ iH1 z s k ∧ (∀ fu, pS_refusalOfOne fu a b z = some (0, z)) ∧ ∀ fu y, EqI z y → pM_toldWrong fu a b y = some (0, y) := by
  have hn := h.1.2.2.1.1
  unfold pS_refusalOfOne pM_toldWrong
  rcases told_cases h a with ⟨r, r0, r1, r2⟩ | ⟨s, k, hs, hk, rfl, hi, r1, r2⟩
  · exact Or.inl ⟨r, r0, fun fu => by rw [r1, pv_bnd, if_neg r0], fun fu => by rw [r2, pv_bnd, if_neg r0]⟩
  · rcases has_cases hn h.1.1.1 h.1.2.1.1 b with ⟨d1, d2⟩ | ⟨m, hm, rfl, d1, d2⟩
    · exact Or.inl ⟨-5, by decide, fun fu => by rw [r1, pv_bnd, if_pos rfl, d1, pv_bnd, if_pos rfl], fun fu => by rw [r2 fu z (fun _ _ _ _ => rfl), pv_bnd, if_pos rfl, d2, pv_bnd, if_pos rfl]⟩
    · refine Or.inr ⟨s, k, m, hs, hk, hm, rfl, rfl, hi, fun fu => by rw [r1, pv_bnd, if_pos rfl, d1, pv_bnd, if_neg (by decide)], fun fu y e => ?_⟩
      rw [r2 fu y e, pv_bnd, if_pos rfl, one_y hn (by rw [e 78 0 (by unfold QC ST; omega) (by unfold QM; omega)]; exact h.1.2.1.1) hm, pv_bnd, if_neg (by decide)]
theorem st_judge {fu : Nat} (hf : 50000 ≤ fu) (z : Sg) (a1 a2 : Int32) (h : Inv z) : ∃ (r : Int32) (z1 z2 : Sg), pS_judge fu a1 a2 z = some (r, z1) ∧ pM_judge fu a1 a2 z1 = some (r, z2) ∧ Inv z2 := by
  obtain ⟨n, lw, tc, ts, F, K, C, E, h⟩ := h
  have hb := h.bs (fu := fu) (by omega)
  rcases one_cases h a1 a2 with ⟨r, r0, r1, r2⟩ | ⟨s, k, m, hs, hk, hm, rfl, rfl, hi, r1, r2⟩
  · exact ⟨r, z, z, by unfold pS_judge; rw [r1, pv_bnd, if_neg r0], by unfold pM_judge; rw [r2, pv_bnd, if_neg r0], n, lw, tc, ts, F, K, C, E, h⟩
  · refine ask2 h (foM (saM (C lw) (E lw)) n m (z (71 + 2 * s)) k 0 (F, K)) ?_ (fun y hy e => ?_)
    · obtain ⟨Y, t1, t2, t3, t4⟩ := ip_think (fu := fu) hf h
      obtain ⟨Z, x1, x2⟩ := foC (fu := fu) hm hs hi (g := z (71 + 2 * s)) (fun _ _ => rfl) (F, K) hb t2 t4 t3
      refine ⟨Z, ?_, x2⟩
      unfold pS_judge
      rw [r1, pv_bnd, if_pos rfl, t1, pv_bndv, x1, pv_bnd]
    · obtain ⟨Z, x1, x2⟩ := foMr (fu := fu) (m := m) (s0 := s) (sz := k) (g := z (71 + 2 * s)) hm hs hi.1 (z0 := y) (by rw [e 89 s (by unfold QC ST; omega) (by unfold QM; omega)]; exact hi.2.2.1) (fun j hj => by rw [e 90 _ (by unfold QC ST; omega) (by unfold QM; omega)]; exact hi.2.2.2.2.2 j hj) (F, K) hb hy.1.2.1 hy.lM
      refine ⟨Z, ?_, x2.r⟩
      unfold pM_judge
      rw [r2 fu y e, pv_bnd, if_pos rfl, x1, pv_bnd]
end TH
