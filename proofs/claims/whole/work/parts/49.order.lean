theorem rC.cg {z : Sg} {r n lw : Nat} {F F2 : Nat → Nat → Int32} {K : Nat → Int32} (h : rC z r n lw F K) (e : ∀ w m, m < n → F w m = F2 w m) : rC z r n lw F2 K := by
  obtain ⟨a1, a2, a3, a4, a5, a6, a7, a8⟩ := h
  exact ⟨a1, a2, fun m hm => by rw [← e 0 m hm]; exact a3 m hm, fun m hm => by rw [← e 1 m hm]; exact a4 m hm, fun m hm => by rw [← e 2 m hm]; exact a5 m hm, fun m hm => by rw [← e 3 m hm]; exact a6 m hm, fun m hm => by rw [← e 4 m hm]; exact a7 m hm, a8⟩
theorem rM.cg {z : Sg} {n lw : Nat} {F F2 : Nat → Nat → Int32} {K : Nat → Int32} (h : rM z n lw F K) (e : ∀ w m, m < n → F w m = F2 w m) : rM z n lw F2 K := by
  obtain ⟨a1, a2, a3, a4, a5, a6, a7, a8⟩ := h
  exact ⟨a1, a2, fun m hm => by rw [← e 0 m hm]; exact a3 m hm, fun m hm => by rw [← e 1 m hm]; exact a4 m hm, fun m hm => by rw [← e 2 m hm]; exact a5 m hm, fun m hm => by rw [← e 3 m hm]; exact a6 m hm, fun m hm => by rw [← e 4 m hm]; exact a7 m hm, a8⟩
theorem gd_app (l : List Nat) (p i : Nat) (h : i < l.length) : (l ++ [p]).getD i 0 = l.getD i 0 := by
  rw [List.getD_eq_getElem?_getD, List.getElem?_append_left h, ← List.getD_eq_getElem?_getD]
/-- the order x put in up to j -/
def poG (T : Nat → Nat) (n x : Nat) (F : Nat → Nat → Int32) (j : Nat) : Nat → Nat → Int32 := fun w m => if w = 0 then (if ixM n x m < j then nI (T (ixM n x m)) else F 0 m) else F w m
theorem poG_b {T : Nat → Nat} {n x j : Nat} {F : Nat → Nat → Int32} {K : Nat → Int32} (hT : ∀ i, i < n → T i < 10) (hx : okX n x = true) (h : bF n F K) : bF n (poG T n x F j) K := by
  obtain ⟨f0, f1, f2, f3, f4, f5, f6, f7⟩ := h
  refine ⟨fun m hm => ?_, f1, f2, f3, f4, f5, f6, f7⟩
  show bI 10 (if ixM n x m < j then nI (T (ixM n x m)) else F 0 m)
  split
  · exact ⟨_, hT _ (okX_1 hx hm).1, rfl⟩
  · exact f0 m hm
section ORD
variable {fu n lw tc ts : Nat} {F : Nat → Nat → Int32} {K : Nat → Int32} {C E : Nat → Nat → Nat}
theorem begC_loop (hf : 10 ≤ fu) (hn : n ≤ 6) {y : Sg} (hy : rC y 9 n lw F K) {full : List Nat} (hfl : full.length = n) : ∀ k p f (l : List Nat) z, p + k = 10 → k < f → l ++ tkM (tkF n F) k p = full → z 6 2 = nI l.length → (∀ i, i < l.length → z 7 i = nI (l.getD i 0) ∧ z 8 i = nI i) → (∀ c j, ¬ (6 ≤ c ∧ c ≤ 8) → z c j = y c j) → ∃ Z, pO_begin_7 fu 9 f (nI p) z = some Z ∧ Z 6 2 = nI n ∧ (∀ i, i < n → Z 7 i = nI (full.getD i 0) ∧ Z 8 i = nI i) ∧ (∀ c j, ¬ (6 ≤ c ∧ c ≤ 8) → Z c j = y c j) := by
  have fin : ∀ (l : List Nat) (z : Sg), l = full → z 6 2 = nI l.length → (∀ i, i < l.length → z 7 i = nI (l.getD i 0) ∧ z 8 i = nI i) → z 6 2 = nI n ∧ (∀ i, i < n → z 7 i = nI (full.getD i 0) ∧ z 8 i = nI i) := fun l z e h1 h2 => by
    subst e
    exact ⟨by rw [h1, hfl], fun i hi => h2 i (by omega)⟩
  intro k
  induction k with
  | zero =>
    intro p f l z h1 h2 h3 h4 h5 h6
    obtain ⟨f, rfl⟩ := fuS h2
    have e : l = full := by rw [← h3]; simp [tkM]
    rw [pO_begin_7, if_pos (show (10 : Int32) ≤ nI p from nI_le (a := 10) (by omega) (by omega))]
    obtain ⟨q1, q2⟩ := fin l z e h4 h5
    exact ⟨z, rfl, q1, q2, h6⟩
  | succ k ih =>
    intro p f l z h1 h2 h3 h4 h5 h6
    obtain ⟨f, rfl⟩ := fuS h2
    have hln : l.length + (tkM (tkF n F) (k + 1) p).length = n := by rw [← List.length_append, h3, hfl]
    have hz : rC z 9 n lw F K := hy.at (fun c j hc => h6 c j (by omega))
    rw [pO_begin_7, if_neg (show ¬ (10 : Int32) ≤ nI p from nI_ge (b := 10) (by omega) (by omega)), h4]
    by_cases q6 : 6 ≤ l.length
    · have e : tkM (tkF n F) (k + 1) p = [] := List.eq_nil_of_length_eq_zero (by omega)
      rw [e, List.append_nil] at h3
      rw [if_pos (show (6 : Int32) ≤ nI l.length from nI_le (a := 6) q6 (by omega))]
      obtain ⟨q1, q2⟩ := fin l z h3 h4 h5
      exact ⟨z, rfl, q1, q2, h6⟩
    · rw [if_neg (show ¬ (6 : Int32) ≤ nI l.length from nI_ge (b := 6) (by omega) (by omega)), whoC hz hn hf, pv_bnd]
      unfold pO_begin_63
      rw [pv_letm, nI_1]
      unfold tkM at h3
      rcases who_at (F := F) (n := n) (nI p) with ⟨e, -⟩ | ⟨j, hj, e, -⟩
      · have hfp : tkF n F p = false := by unfold tkF gaO; rw [e]; rfl
        rw [hfp, if_neg (by decide)] at h3
        rw [e, if_pos (by decide)]
        exact ih (p + 1) f l z (by omega) (by omega) h3 h4 h5 h6
      · have hfp : tkF n F p = true := by unfold tkF gaO; rw [e, decide_eq_false (fun w => (pv_neg1 (by omega)).mp w)]; rfl
        rw [hfp, if_pos rfl] at h3
        have z62 : ∀ c j v, c ≠ 6 → (u2 z c j v) 6 2 = nI l.length := fun c j v hc => by rw [pv_u2, if_neg (by omega)]; exact h4
        have z63 : ∀ v w, (u2 (u2 z 7 l.length v) 8 l.length w) 6 2 = nI l.length := fun v w => by rw [pv_u2, if_neg (by omega)]; exact z62 _ _ _ (by omega)
        rw [e, if_neg (nI_pos (by omega)), h4, pv_inb (by omega) (by omega), pv_chk, pv_letm, pv_sa (by omega), z62 _ _ _ (by omega), pv_inb (by omega) (by omega), pv_chk, pv_letm, pv_letm, pv_letm, pv_sa (by omega), z63, nI_1]
        refine ih (p + 1) f (l ++ [p]) _ (by omega) (by omega) (by rw [List.append_assoc]; exact h3) ?_ (fun i hi => ?_) (fun c j hc => ?_)
        · rw [pv_u2, if_pos ⟨rfl, rfl⟩, List.length_append]; rfl
        · rw [List.length_append, List.length_singleton] at hi
          by_cases e : i = l.length
          · subst e
            rw [pv_u2, if_neg (by omega), pv_u2, if_neg (by omega), pv_u2, if_pos ⟨rfl, rfl⟩, pv_u2, if_neg (by omega), pv_u2, if_pos ⟨rfl, rfl⟩]
            simp
          · rw [pv_u2, if_neg (by omega), pv_u2, if_neg (by omega), pv_u2, if_neg (by omega), pv_u2, if_neg (by omega), pv_u2, if_neg (by omega)]
            rw [gd_app _ _ _ (by omega)]
            exact h5 i (by omega)
        · rw [pv_u2, if_neg (by omega), pv_u2, if_neg (by omega), pv_u2, if_neg (by omega)]; exact h6 c j hc
theorem begC (hf : 20 ≤ fu) (hn : n ≤ 6) {z : Sg} (hz : rC z 9 n lw F K) (hl : (tkM (tkF n F) 10 0).length = n) : ∃ Z, pO_begin fu 9 z = some Z ∧ Z 6 2 = nI n ∧ (∀ i, i < n → Z 7 i = nI (tkT n F i) ∧ Z 8 i = nI i) ∧ (∀ c j, ¬ (6 ≤ c ∧ c ≤ 8) → Z c j = z c j) := by
  unfold pO_begin
  rw [pv_letm]
  obtain ⟨Z, h1, h2, h3, h4⟩ := begC_loop (fu := fu) (by omega) hn (y := u2 z 6 2 0) (hz.at (fun c j hc => by rw [pv_u2, if_neg (by omega)])) hl 10 0 fu [] (u2 z 6 2 0) (by omega) (by omega) rfl (by rw [pv_u2, if_pos ⟨rfl, rfl⟩]; rfl) (fun i hi => absurd hi (by simp)) (fun _ _ _ => rfl)
  exact ⟨Z, h1, h2, h3, fun c j hc => by rw [h4 c j hc, pv_u2, if_neg (by omega)]⟩
/-- what the class's orders hold: the order W at the places T -/
def oS (z : Sg) (n : Nat) (T W : Nat → Nat) : Prop := z 6 2 = nI n ∧ (∀ i, i < n → z 7 i = nI (T i)) ∧ ∀ i, i < n → z 8 i = nI (W i)
theorem oS.at {z Z : Sg} {T W : Nat → Nat} (h : oS z n T W) (e : ∀ c j, 6 ≤ c ∧ c ≤ 8 → Z c j = z c j) : oS Z n T W := ⟨by rw [e _ _ (by omega)]; exact h.1, fun i hi => by rw [e _ _ (by omega)]; exact h.2.1 i hi, fun i hi => by rw [e _ _ (by omega)]; exact h.2.2 i hi⟩
theorem seatC_loop (hn : n ≤ 6) {T : Nat → Nat} {x : Nat} (hx : okX n x = true) {y : Sg} (ho : oS y n T (dg n x)) : ∀ k j f z, j + k = n → k < f → rC z 20 n lw (poG T n x F j) K → (∀ c i, c ≠ 23 → z c i = y c i) → ∃ Z, pO_seat_2 fu 20 f (nI j) z = some Z ∧ rC Z 20 n lw (poG T n x F n) K ∧ (∀ c i, c ≠ 23 → Z c i = y c i) := by
  intro k
  induction k with
  | zero =>
    intro j f z h1 h2 h3 h4
    obtain ⟨f, rfl⟩ := fuS h2
    rw [pO_seat_2, h4 6 2 (by omega), ho.1, if_pos (nI_le (by omega) (by omega))]
    have : j = n := by omega
    rw [this] at h3
    exact ⟨z, rfl, h3, h4⟩
  | succ k ih =>
    intro j f z h1 h2 h3 h4
    obtain ⟨f, rfl⟩ := fuS h2
    have d1 := okX_2 hx (i := j) (by omega)
    have e8 : ga z 8 (nI j) = nI (dg n x j) := by rw [pv_ga (by omega), h4 8 j (by omega)]; exact ho.2.2 j (by omega)
    have e7 : ga z 7 (nI j) = nI (T j) := by rw [pv_ga (by omega), h4 7 j (by omega)]; exact ho.2.1 j (by omega)
    rw [pO_seat_2, h4 6 2 (by omega), ho.1, if_neg (nI_ge (by omega) (by omega)), pv_inb (by omega) (by omega), pv_chk, pv_chk, e8, e7, pv_inb (by omega) (by omega), pv_chk, pv_letm, pv_letm, pv_sa (by omega), nI_1]
    refine ih (j + 1) f _ (by omega) (by omega) ((h3.f (w := 0) (m := dg n x j) (v := nI (T j)) (by omega)).cg (fun w m hm => ?_)) (fun c i hc => by rw [pv_u2, if_neg (by omega)]; exact h4 c i hc)
    have m1 := okX_1 hx hm
    unfold sfF poG
    by_cases w0 : w = 0
    · subst w0
      by_cases e : m = dg n x j
      · subst e
        simp only [and_self, if_true, d1.2]
        rw [if_pos (by omega)]
      · have : ixM n x m ≠ j := fun q => e (by rw [← q]; exact m1.2.symm)
        simp only [e, and_false, if_false, if_true]
        by_cases q : ixM n x m < j
        · rw [if_pos q, if_pos (by omega)]
        · rw [if_neg q, if_neg (by omega)]
    · simp only [w0, false_and, if_false]
theorem digC_loop (hn : n ≤ 6) {T : Nat → Nat} {x : Nat} {z : Sg} (ho : oS z n T (dg n x)) : ∀ k i f a, i + k = n → k < f → pO_digits_4 fu f (nI a) (nI i) z = some (nI (hoM n x k i a), z) := by
  intro k
  induction k with
  | zero =>
    intro i f a h1 h2
    obtain ⟨f, rfl⟩ := fuS h2
    rw [pO_digits_4, ho.1, if_pos (nI_le (by omega) (by omega))]
    rfl
  | succ k ih =>
    intro i f a h1 h2
    obtain ⟨f, rfl⟩ := fuS h2
    rw [pO_digits_4, ho.1, if_neg (nI_ge (by omega) (by omega)), pv_inb (by omega) (by omega), pv_chk, pv_letm, pv_letm, pv_ga (by omega), ho.2.2 i (by omega), l_10, pk_mul, nI_1, nI_add, nI_1]
    exact ih (i + 1) f _ (by omega) (by omega)
theorem swpC {z : Sg} {T W : Nat → Nat} (ho : oS z n T W) (hn : n ≤ 6) {i j : Nat} (hi : i < n) (hj : j < n) : ∃ Z, pO_swap fu (nI i) (nI j) z = some Z ∧ oS Z n T (swp W i j) ∧ ∀ c k, c ≠ 8 → Z c k = z c k := by
  unfold pO_swap
  rw [pv_inb (by omega) (by omega), pv_chk, pv_letm, pv_inb (by omega) (by omega), pv_chk, pv_chk, pv_letm, pv_chk, pv_letm, pv_sa (by omega), pv_sa (by omega), pv_ga (by omega), pv_ga (by omega), ho.2.2 i hi, ho.2.2 j hj]
  refine ⟨_, rfl, ⟨by rw [pv_u2, if_neg (by omega), pv_u2, if_neg (by omega)]; exact ho.1, fun k hk => by rw [pv_u2, if_neg (by omega), pv_u2, if_neg (by omega)]; exact ho.2.1 k hk, fun k hk => ?_⟩, fun c k hc => by rw [pv_u2, if_neg (by omega), pv_u2, if_neg (by omega)]⟩
  rw [pv_u2, pv_u2]
  unfold swp
  by_cases e1 : k = j
  · rw [if_pos ⟨rfl, e1⟩, if_pos e1]
  · rw [if_neg (fun q => e1 q.2), if_neg e1]
    by_cases e2 : k = i
    · rw [if_pos ⟨rfl, e2⟩, if_pos e2]
    · rw [if_neg (fun q => e2 q.2), if_neg e2]; exact ho.2.2 k hk
theorem rvC_loop (hn : n ≤ 6) {T : Nat → Nat} {y : Sg} : ∀ q i j f W z, j ≤ i + 2 * q → q < f → i ≤ n → j < n → oS z n T W → (∀ c k, c ≠ 8 → z c k = y c k) → ∃ Z, pO_goesOn_91 fu f (nI i) (nI j) z = some (1, Z) ∧ oS Z n T (rvM q i j W) ∧ ∀ c k, c ≠ 8 → Z c k = y c k := by
  intro q
  induction q with
  | zero =>
    intro i j f W z h1 h2 hi hj ho h3
    obtain ⟨f, rfl⟩ := fuS h2
    rw [pO_goesOn_91, if_pos (nI_le (by omega) (by omega))]
    exact ⟨z, rfl, ho, h3⟩
  | succ q ih =>
    intro i j f W z h1 h2 hi hj ho h3
    obtain ⟨f, rfl⟩ := fuS h2
    unfold rvM
    by_cases e : j ≤ i
    · rw [pO_goesOn_91, if_pos (nI_le e (by omega)), if_pos e]
      exact ⟨z, rfl, ho, h3⟩
    · obtain ⟨Y, y1, y2, y3⟩ := swpC (fu := fu) ho hn (i := i) (j := j) (by omega) hj
      obtain ⟨j, rfl⟩ : ∃ t, j = t + 1 := ⟨j - 1, by omega⟩
      rw [pO_goesOn_91, if_neg (nI_ge (by omega) (by omega)), y1, pv_bndv, pv_letm, pv_letm, nI_1, pk_m1, if_neg e, Nat.add_sub_cancel]
      exact ih (i + 1) j f _ Y (by omega) (by omega) (by omega) (by omega) y2 (fun c k hc => (y3 c k hc).trans (h3 c k hc))
theorem rsM_le (W : Nat → Nat) : ∀ k, rsM W k ≤ k := by
  intro k
  induction k with
  | zero => exact Nat.le_refl _
  | succ k ih => unfold rsM; split <;> omega
theorem hgM_le (W : Nat → Nat) (r : Nat) : ∀ h, hgM W r h ≤ h := by
  intro h
  induction h with
  | zero => exact Nat.le_refl _
  | succ h ih => unfold hgM; split; omega; split <;> omega
theorem goC (hf : 20 ≤ fu) (h0 : 0 < n) (hn : n ≤ 6) {T W : Nat → Nat} (hW : ∀ i, i < n → W i < 10) {z : Sg} (ho : oS z n T W) : ∃ Z, pO_goesOn fu z = some (if nxO n W then 1 else 0, Z) ∧ (nxO n W = true → oS Z n T (nxW n W)) ∧ ∀ c k, c ≠ 8 → Z c k = z c k := by
  have rise : ∀ k f, k ≤ n - 1 → k < f → pO_goesOn_7 fu f (nI k - 1) z = pO_goesOn_34 fu (nI (rsM W k) - 1) z := by
    intro k
    induction k with
    | zero =>
      intro f h1 h2
      obtain ⟨f, rfl⟩ := fuS h2
      rw [pO_goesOn_7, if_pos (show nI 0 - 1 < 0 by decide)]
      rfl
    | succ k ih =>
      intro f h1 h2
      obtain ⟨f, rfl⟩ := fuS h2
      have w1 := hW k (by omega)
      have w2 := hW (k + 1) (by omega)
      rw [pO_goesOn_7, nI_pred, if_neg (nI_pos (by omega)), pv_inb (by omega) (by omega), pv_chk, nI_1, pv_inb (by omega) (by omega), pv_chk, pv_ga (by omega), pv_ga (by omega), ho.2.2 k (by omega), ho.2.2 (k + 1) (by omega), pv_letm, show nI k + (-1) = nI k - 1 from (Int32.sub_eq_add_neg _ _).symm, rsM]
      by_cases q : W k ≤ W (k + 1)
      · rw [if_pos (nI_le q (by omega)), if_pos q, nI_pred]
      · rw [if_neg (nI_ge (by omega) (by omega)), if_neg q]
        exact ih f (by omega) (by omega)
  have high : ∀ r h f, r < n → h ≤ n - 1 → h < f → pO_goesOn_47 fu f (nI r) (nI h) z = pO_goesOn_73 fu (nI r) (nI (hgM W r h)) z := by
    intro r h
    induction h with
    | zero =>
      intro f hr h1 h2
      obtain ⟨f, rfl⟩ := fuS h2
      rw [pO_goesOn_47, if_pos (nI_le (by omega) (by omega))]
      rfl
    | succ h ih =>
      intro f hr h1 h2
      obtain ⟨f, rfl⟩ := fuS h2
      have w1 := hW r hr
      have w2 := hW (h + 1) (by omega)
      unfold hgM
      by_cases q : h + 1 ≤ r
      · rw [pO_goesOn_47, if_pos (nI_le q (by omega)), if_pos q]
      · rw [pO_goesOn_47, if_neg (nI_ge (by omega) (by omega)), if_neg q, pv_inb (by omega) (by omega), pv_chk, pv_inb (by omega) (by omega), pv_chk, pv_ga (by omega), pv_ga (by omega), ho.2.2 r hr, ho.2.2 (h + 1) (by omega), pv_letm, pk_m1]
        by_cases q2 : W r ≤ W (h + 1)
        · rw [if_pos (nI_le q2 (by omega)), if_pos q2]
        · rw [if_neg (nI_ge (by omega) (by omega)), if_neg q2]
          exact ih f hr (by omega) (by omega)
  have e0 : z 6 2 - 2 = nI (n - 1) - 1 := by
    rw [ho.1]
    rcases (show n = 1 ∨ n = 2 ∨ n = 3 ∨ n = 4 ∨ n = 5 ∨ n = 6 by omega) with rfl | rfl | rfl | rfl | rfl | rfl <;> rfl
  unfold pO_goesOn
  rw [pv_letm, e0, rise (n - 1) fu (by omega) (by omega)]
  have hle := rsM_le W (n - 1)
  unfold pO_goesOn_34
  by_cases hr : rsM W (n - 1) = 0
  · have hno : nxO n W = false := by unfold nxO; rw [hr]; rfl
    rw [hr, if_neg (show ¬ (0 : Int32) ≤ nI 0 - 1 by decide), hno]
    exact ⟨z, rfl, fun q => absurd q (by decide), fun _ _ _ => rfl⟩
  · have hyes : nxO n W = true := by unfold nxO; exact decide_eq_true (by omega)
    obtain ⟨r, er⟩ : ∃ r, rsM W (n - 1) = r + 1 := ⟨rsM W (n - 1) - 1, by omega⟩
    have hh := hgM_le W r (n - 1)
    rw [er, nI_pred, if_pos (nI_pos' (by omega)), pv_letm, ho.1, show nI n - 1 = nI (n - 1) from pk_sub (b := 1) (by omega), high r (n - 1) fu (by omega) (by omega) (by omega), hyes]
    unfold pO_goesOn_73
    obtain ⟨Y, y1, y2, y3⟩ := swpC (fu := fu) ho hn (i := r) (j := hgM W r (n - 1)) (by omega) (by omega)
    rw [y1, pv_bndv, pv_letm, pv_letm, nI_1, y2.1, show nI n - 1 = nI (n - 1) from pk_sub (b := 1) (by omega)]
    obtain ⟨Z, z1, z2, z3⟩ := rvC_loop (fu := fu) hn 6 (r + 1) (n - 1) fu _ Y (by omega) (by omega) (by omega) (by omega) y2 y3
    refine ⟨Z, z1, fun _ => ?_, z3⟩
    unfold nxW
    rw [er, Nat.add_sub_cancel]
    exact z2
/-! the class goes through them -/
def orM (val dig : Nat → Int32) : List Nat → Int32 → Int32 → Int32 × Int32
  | [], b, m => (b, m)
  | x :: r, b, m => if val x ≤ m then orM val dig r b m else orM val dig r (dig x) (val x)
def ovM (L : LT) (n q : Nat) (T : Nat → Nat) (F : Nat → Nat → Int32) (K : Nat → Int32) : Nat → Int32 := fun x => suM L n q (poG T n x F n, K) 0
def odg (n : Nat) : Nat → Int32 := fun x => nI (smM n x n 1 0)
theorem ordC_loop (hf : 50000 ≤ fu) (h0 : 0 < n) {y : Sg} (h : InvP y n lw tc ts F K C E) {q : Nat} (hq : q ≤ 6) {T : Nat → Nat} (hT : ∀ i, i < n → T i < 10) {v2 : Int32} : ∀ (L : List Nat) x r way f b m z, L = x :: r → chN n L = true → way + L.length ≤ 720 → L.length < f → EqQ y z → oS z n T (dg n x) → z 5 0 = b ∧ z 5 1 = m → ∃ Z, pS_order_43 fu f (nI q) v2 1 (nI way) z = some (an2 v2 (orM (ovM (saM (C lw) (E lw)) n q T F K) (odg n) L b m), Z) ∧ EqQ y Z := by
  have hn := h.1.2.2.1.1
  intro L
  induction L with
  | nil => intro x r way f b m z e; exact absurd e (by simp)
  | cons x0 r0 ih =>
    intro x r way f b m z e hch hway hfl h3 ho h4
    obtain ⟨rfl, rfl⟩ := List.cons.inj e
    rw [List.length_cons] at hway hfl
    obtain ⟨f, rfl⟩ := fuS (show 0 < f by omega)
    have hx : okX n x0 = true := chN_ok _ hch x0 List.mem_cons_self
    have hz := h.i h3.i
    have hb0 := hz.bs (fu := fu) (by omega)
    have hb : bs fu n lw (poG T n x0 F n) K (C lw) (E lw) := ⟨hb0.1, hb0.2.1, hb0.2.2.1, hb0.2.2.2.1, poG_b hT hx hb0.2.2.2.2⟩
    -- in thought, seated
    obtain ⟨Y, t1, t2, t3, t4⟩ := becC (fu := fu) (r := 20) (r2 := 9) (Or.inr (Or.inl rfl)) (Or.inl rfl) (by omega) (by omega) hn hz.1.1
    have eY : EqQ z Y := t4.q20
    have oY : oS Y n T (dg n x0) := ho.at (fun c j hc => t4 c j (by omega))
    have rY : rC Y 20 n lw (poG T n x0 F 0) K := t2.cg (fun w m hm => by
      unfold poG
      by_cases w0 : w = 0
      · rw [if_pos w0, if_neg (by omega), w0]
      · rw [if_neg w0])
    obtain ⟨S, s1, s2, s3⟩ := seatC_loop (fu := fu) hn hx oY n 0 fu Y (by omega) (by omega) rY (fun _ _ _ => rfl)
    have eS : EqQ Y S := fun c j hc => s3 c j (fun w => hc (by unfold QC; omega))
    have oSs : oS S n T (dg n x0) := oY.at (fun c j hc => s3 c j (by omega))
    have dS := digC_loop (fu := fu) hn oSs n 0 fu 0 (by omega) (by omega)
    have lS : lC S (42 + 4 * lw) (C lw) (E lw) := lc_q hb0.2.1 hz.lC (eY.tr eS)
    obtain ⟨D, d1, d2, d3⟩ := cutC (fu := fu) (Or.inr (Or.inl rfl)) (q := q) (by omega) (poG T n x0 F n, K) hb s2 lS
    have e5 : ∀ j, D 5 j = z 5 j := fun j => by rw [d3 5 j (by unfold SW SC; omega), s3 5 j (by omega), t4 5 j (by omega)]
    have oD : oS D n T (dg n x0) := oSs.at (fun c j hc => d3 c j (by unfold SW SC; omega))
    have eD : EqQ y D := ((h3.tr eY).tr eS).tr d3.q20
    obtain ⟨V, v1, v2', v3, v4⟩ := offC (fu := fu) (p := smM n x0 n 1 0) (x := ovM (saM (C lw) (E lw)) n q T F K x0) (b := b) (m := m) (y := D) (z := D) ⟨by rw [e5]; exact h4.1, by rw [e5]; exact h4.2⟩ EqQ.rf
    have hoff : ∀ c j, c ≠ 5 → V c j = D c j := fun c j hc => by
      unfold pB_offer at v1
      split at v1
      · rw [← Option.some.inj v1]
      · rw [pv_letm, pv_letm] at v1
        rw [← Option.some.inj v1, pv_u2, if_neg (by omega), pv_u2, if_neg (by omega)]
    have oV : oS V n T (dg n x0) := oD.at (fun c j hc => hoff c j (by omega))
    obtain ⟨G, g1, g2, g3⟩ := goC (fu := fu) (by omega) h0 hn (fun i hi => by have := (okX_2 hx hi).1; omega) oV
    have eG : EqQ y G := (eD.tr v2').tr (fun c j hc => g3 c j (fun w => hc (by unfold QC; omega)))
    have g5 : G 5 0 = (if ovM (saM (C lw) (E lw)) n q T F K x0 ≤ m then b else odg n x0) ∧ G 5 1 = (if ovM (saM (C lw) (E lw)) n q T F K x0 ≤ m then m else ovM (saM (C lw) (E lw)) n q T F K x0) := ⟨by rw [g3 5 0 (by omega)]; exact v3, by rw [g3 5 1 (by omega)]; exact v4⟩
    have horM : ∀ r, orM (ovM (saM (C lw) (E lw)) n q T F K) (odg n) (x0 :: r) b m = orM (ovM (saM (C lw) (E lw)) n q T F K) (odg n) r (if ovM (saM (C lw) (E lw)) n q T F K x0 ≤ m then b else odg n x0) (if ovM (saM (C lw) (E lw)) n q T F K x0 ≤ m then m else ovM (saM (C lw) (E lw)) n q T F K x0) := fun r => by
      show (if ovM (saM (C lw) (E lw)) n q T F K x0 ≤ m then _ else _) = _
      split <;> rfl
    have step : pS_order_43 fu (f + 1) (nI q) v2 1 (nI way) z = pS_order_43 fu f (nI q) v2 (if nxO n (dg n x0) then 1 else 0) (nI (way + 1)) G := by
      rw [pS_order_43, if_neg (show ¬ (720 : Int32) ≤ nI way from nI_ge (b := 720) (by omega) (by omega)), if_neg (by decide), t1, pv_bndv]
      unfold pO_seat pO_digits
      rw [show pO_seat_2 fu 20 fu 0 Y = _ from s1, pv_bndv, show pO_digits_4 fu fu 0 0 S = _ from dS, pv_bnd, d1, pv_bnd, (okX_3 hx).1, show pB_offer fu (nI (smM n x0 n 1 0)) (suM (saM (C lw) (E lw)) n q (poG T n x0 F n, K) 0) D = _ from v1, pv_bndv, g1, pv_bnd, pv_letm, nI_1]
    rw [step, horM]
    cases r0 with
    | nil =>
      have hno : nxO n (dg n x0) = false := by
        unfold chN at hch
        rw [Bool.and_eq_true, Bool.not_eq_true'] at hch
        exact hch.2
      obtain ⟨f, rfl⟩ := fuS (show 0 < f by simp at hfl; omega)
      rw [hno, if_neg (by decide), pS_order_43]
      unfold pS_order_113
      rw [telC, pv_bnd, g5.1, g5.2]
      refine ⟨G, ?_, eG⟩
      by_cases w : (720 : Int32) ≤ nI (way + 1)
      · rw [if_pos w]; rfl
      · rw [if_neg w, if_pos rfl]; rfl
    | cons x1 r1 =>
      unfold chN at hch
      rw [Bool.and_eq_true, Bool.and_eq_true, Bool.and_eq_true, List.all_eq_true] at hch
      have hyes := hch.1.1.2
      rw [hyes, if_pos rfl]
      have oG : oS G n T (dg n x1) := by
        obtain ⟨p1, p2, p3⟩ := g2 hyes
        refine ⟨p1, p2, fun i hi => ?_⟩
        rw [p3 i hi]
        have := hch.1.2 i (List.mem_range.mpr hi)
        rw [decide_eq_true_eq] at this
        rw [this]
      exact ih x1 r1 (way + 1) f _ _ G rfl hch.2 (by omega) (by omega) eG oG g5
end ORD
