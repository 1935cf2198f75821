/-! a text's codes, told once for both: names 0 to 5, operations 11 to 19, numbers from 100000 on -/
def oc (c : Nat) : Int32 := if c < 6 then -1 - nI c else if 100000 ≤ c then nI (c - 100000) else if c = 11 then -9 else if c = 12 then -10 else if c = 13 then -7 else if c = 14 then -11 else if c = 15 then -12 else if c = 16 then -13 else if c = 17 then -14 else if c = 18 then -15 else -8
def okc (c : Nat) : Prop := c < 6 ∨ (11 ≤ c ∧ c ≤ 19) ∨ (100000 ≤ c ∧ c < 110000)
def joM (c : Nat) (a b : Int32) : Int32 := if c = 11 then (if a = 0 then (if b = 0 then 0 else 1) else 1) else if c = 12 then (if a = 0 then 0 else if b = 0 then 0 else 1) else if c = 14 then (if b ≤ a then 0 else 1) else if c = 15 then (if a = b then 1 else 0) else if c = 16 then a + b else if c = 17 then a - b else a * b
def un1 (c : Nat) (a : Int32) : Int32 := if c = 13 then (if a = 0 then 1 else 0) else -a
/-- one code at a stack, its top first -/
def st1 (nm : Nat → Int32) (c : Nat) : List Int32 → List Int32
  | [] => if c < 6 then [nm c] else [nI (c - 100000)]
  | [x] => if c < 6 then [nm c, x] else if 100000 ≤ c then [nI (c - 100000), x] else [un1 c x]
  | x :: y :: t => if c < 6 then nm c :: x :: y :: t else if 100000 ≤ c then nI (c - 100000) :: x :: y :: t else if c = 13 then un1 c x :: y :: t else if c = 19 then un1 c x :: y :: t else joM c y x :: t
def evM (C : Nat → Nat) (nm : Nat → Int32) : Nat → Nat → List Int32 → List Int32
  | 0, _, s => s
  | k + 1, i, s => evM C nm k (i + 1) (st1 nm (C i) s)
/-- no code takes from an empty stack; one number is left -/
def wfM (C : Nat → Nat) : Nat → Nat → Nat → Prop
  | 0, _, d => d = 1
  | k + 1, i, d => (C i < 6 ∨ 100000 ≤ C i → wfM C k (i + 1) (d + 1)) ∧ (C i = 13 ∨ C i = 19 → 1 ≤ d ∧ wfM C k (i + 1) d) ∧ (¬ C i < 6 → ¬ 100000 ≤ C i → C i ≠ 13 → C i ≠ 19 → 2 ≤ d ∧ wfM C k (i + 1) (d - 1))
def stk (A : Nat → Int32) : List Int32 → Prop
  | [] => True
  | x :: t => A t.length = x ∧ stk A t
theorem stk_upd {A B : Nat → Int32} : ∀ {s : List Int32}, stk A s → (∀ i, i < s.length → B i = A i) → stk B s
  | [], _, _ => trivial
  | x :: t, h, e => ⟨(e t.length (by simp)).trans h.1, stk_upd h.2 (fun i hi => e i (by simp; omega))⟩
def lo3 (p : Nat) : Int32 := if p = 1 then -99 else 0
def hi3 (p : Nat) : Int32 := if p = 1 then 99 else 11
def cl3 (p : Nat) (v : Int32) : Int32 := if lo3 p ≤ v then (if v ≤ hi3 p then v else hi3 p) else lo3 p
/-- what a law says: codes C, the parts' ends E -/
def saM (C E : Nat → Nat) (p : Nat) (nm : Nat → Int32) : Int32 := cl3 p ((evM C nm (E (p + 1) - E p) (E p) []).headD 0)
def tOK (C E : Nat → Nat) : Prop := E 0 = 0 ∧ E 0 ≤ E 1 ∧ E 1 ≤ E 2 ∧ E 2 ≤ E 3 ∧ E 3 ≤ 160 ∧ (∀ i, i < E 3 → okc (C i)) ∧ wfM C (E 1 - E 0) (E 0) 0 ∧ wfM C (E 2 - E 1) (E 1) 0 ∧ wfM C (E 3 - E 2) (E 2) 0
/-- the class's law at b holds it -/
def lC (z : Sg) (b : Nat) (C E : Nat → Nat) : Prop := z (b + 2) 0 = nI (E 1) ∧ z (b + 2) 1 = nI (E 2) ∧ z (b + 2) 2 = nI (E 3) ∧ ∀ i, i < E 3 → z (b + 1) i = oc (C i)
/-- the reference's text t holds it -/
def lM (z : Sg) (t : Nat) (C E : Nat → Nat) : Prop := z 85 (4 * t) = nI (E 0) ∧ z 85 (4 * t + 1) = nI (E 1) ∧ z 85 (4 * t + 2) = nI (E 2) ∧ z 85 (4 * t + 3) = nI (E 3) ∧ ∀ i, i < E 3 → z 84 (200 * t + i) = nI (C i)
theorem joC {fu c : Nat} {a b : Int32} {z : Sg} (hc : 11 ≤ c ∧ c ≤ 19) (h13 : c ≠ 13) (h19 : c ≠ 19) : pL_joined fu (oc c) a b z = some (joM c a b, z) := by
  rcases (show c = 11 ∨ c = 12 ∨ c = 14 ∨ c = 15 ∨ c = 16 ∨ c = 17 ∨ c = 18 by omega) with rfl | rfl | rfl | rfl | rfl | rfl | rfl <;> simp [pL_joined, pL_joined_48, oc, joM] <;> (repeat' split) <;> simp_all
theorem joMr {fu c : Nat} {a b : Int32} {z : Sg} (hc : 11 ≤ c ∧ c ≤ 19) (h13 : c ≠ 13) (h19 : c ≠ 19) : pM_two fu (nI c) a b z = some (joM c a b, z) := by
  rcases (show c = 11 ∨ c = 12 ∨ c = 14 ∨ c = 15 ∨ c = 16 ∨ c = 17 ∨ c = 18 by omega) with rfl | rfl | rfl | rfl | rfl | rfl | rfl <;> simp [pM_two, pM_two_52, nI, joM] <;> (repeat' split) <;> simp_all
theorem oc_nm : ∀ c, c < 6 → ¬ oc c < -6 ∧ oc c < 0 ∧ (-1) - oc c = nI c := by decide +kernel
theorem oc_un : ∀ c, c = 13 ∨ c = 19 → oc c < -6 ∧ ¬ oc c < -8 := by rintro c (rfl | rfl) <;> decide +kernel
theorem oc_eq8 : oc 13 ≠ -8 ∧ oc 19 = -8 := by decide +kernel
theorem oc_bi : ∀ c, c = 11 ∨ c = 12 ∨ c = 14 ∨ c = 15 ∨ c = 16 ∨ c = 17 ∨ c = 18 → oc c < -6 ∧ oc c < -8 := by rintro c (rfl | rfl | rfl | rfl | rfl | rfl | rfl) <;> decide +kernel
theorem oc_nu {c : Nat} (h : 100000 ≤ c) (h2 : c < 110000) : oc c = nI (c - 100000) ∧ ¬ oc c < -6 ∧ ¬ oc c < 0 := by
  have e : oc c = nI (c - 100000) := by unfold oc; rw [if_neg (by omega), if_pos h]
  have e2 : (oc c).toInt = ((c - 100000 : Nat) : Int) := by rw [e]; exact nI_toInt (by omega)
  refine ⟨e, ?_, ?_⟩ <;> rw [Int32.lt_iff_toInt_lt, e2]
  · have : (-6 : Int32).toInt = -6 := by decide
    omega
  · have : (0 : Int32).toInt = 0 := by decide
    omega
theorem st1_nm {nm : Nat → Int32} {c : Nat} (h : c < 6) (s : List Int32) : st1 nm c s = nm c :: s := by
  rcases s with _ | ⟨x, _ | ⟨y, t⟩⟩ <;> simp [st1, h]
theorem st1_nu {nm : Nat → Int32} {c : Nat} (h : 100000 ≤ c) (s : List Int32) : st1 nm c s = nI (c - 100000) :: s := by
  have h6 : ¬ c < 6 := by omega
  rcases s with _ | ⟨x, _ | ⟨y, t⟩⟩ <;> simp [st1, h, h6]
theorem st1_un {nm : Nat → Int32} {c : Nat} (h : c = 13 ∨ c = 19) (x : Int32) (t : List Int32) : st1 nm c (x :: t) = un1 c x :: t := by
  rcases h with rfl | rfl <;> rcases t with _ | ⟨y, t⟩ <;> simp [st1]
theorem st1_bi {nm : Nat → Int32} {c : Nat} (h : 11 ≤ c ∧ c ≤ 19) (h13 : c ≠ 13) (h19 : c ≠ 19) (x y : Int32) (t : List Int32) : st1 nm c (x :: y :: t) = joM c y x :: t := by
  simp only [st1]
  rw [if_neg (by omega), if_neg (by omega), if_neg h13, if_neg h19]
theorem cl_two {lo hi v : Int32} (h : lo.toInt < hi.toInt) : (if lo < (if v < hi then v else hi) then (if v < hi then v else hi) else lo) = (if lo ≤ v then (if v ≤ hi then v else hi) else lo) := by
  by_cases h1 : v < hi
  · rw [if_pos h1]
    rw [Int32.lt_iff_toInt_lt] at h1
    by_cases h2 : lo < v
    · rw [if_pos h2]
      rw [Int32.lt_iff_toInt_lt] at h2
      rw [if_pos (Int32.le_iff_toInt_le.mpr (by omega)), if_pos (Int32.le_iff_toInt_le.mpr (by omega))]
    · rw [if_neg h2]
      rw [Int32.lt_iff_toInt_lt] at h2
      by_cases h3 : lo ≤ v
      · rw [if_pos h3]
        rw [Int32.le_iff_toInt_le] at h3
        rw [if_pos (Int32.le_iff_toInt_le.mpr (by omega))]
        exact Int32.toInt_inj.mp (by omega)
      · rw [if_neg h3]
  · rw [if_neg h1]
    rw [Int32.lt_iff_toInt_lt] at h1
    rw [if_pos (Int32.lt_iff_toInt_lt.mpr (by omega)), if_pos (Int32.le_iff_toInt_le.mpr (by omega))]
    by_cases h2 : v ≤ hi
    · rw [if_pos h2]
      rw [Int32.le_iff_toInt_le] at h2
      exact Int32.toInt_inj.mp (by omega)
    · rw [if_neg h2]
theorem sa_endC {fu b nc p : Nat} (hp : p < 3) {z : Sg} {v3 : Int32} : (if nI p = 1 then pL_says_190 fu b nc (nI p) (-99) z else pL_says_190 fu b nc (nI p) 0 z) = some (cl3 p (z (b + 3) 0), z) := by
  rcases (show p = 0 ∨ p = 1 ∨ p = 2 by omega) with rfl | rfl | rfl
  · rw [if_neg (by decide)]
    unfold pL_says_190 pL_says_204
    rw [if_neg (by decide), cl_two (by decide)]
    rfl
  · rw [if_pos (by decide)]
    unfold pL_says_190 pL_says_204
    rw [if_pos (by decide), cl_two (by decide)]
    rfl
  · rw [if_neg (by decide)]
    unfold pL_says_190 pL_says_204
    rw [if_neg (by decide), cl_two (by decide)]
    rfl
theorem saC_loop {fu b nc p : Nat} (hp : p < 3) {nm : Nat → Int32} {C E : Nat → Nat} (hE : E (p + 1) ≤ 160) (hok : ∀ i, i < E (p + 1) → okc (C i)) {z0 : Sg} (hz : z0 (b + 2) p = nI (E (p + 1))) (hcd : ∀ i, i < E (p + 1) → z0 (b + 1) i = oc (C i)) (hnm : ∀ j, j < 6 → z0 nc j = nm j) (hne : nc ≠ b + 3) : ∀ k i f s z, i + k = E (p + 1) → k < f → (∀ c j, c ≠ b + 3 → z c j = z0 c j) → stk (z (b + 3)) s → s.length ≤ i → wfM C k i s.length → ∃ Z, pL_says_20 fu b nc f (nI p) (nI s.length) (nI i) z = some (cl3 p ((evM C nm k i s).headD 0), Z) ∧ ∀ c j, c ≠ b + 3 → Z c j = z0 c j := by
  intro k
  induction k with
  | zero =>
    intro i f s z h1 h2 h3 h4 h5 h6
    obtain ⟨f, rfl⟩ := fuS h2
    have hz2 : z (b + 2) p = nI (E (p + 1)) := by rw [h3 _ _ (by omega)]; exact hz
    refine ⟨z, ?_, h3⟩
    rw [pL_says_20, pv_inb (by omega) (by omega), pv_chk, pv_ga (by omega), hz2, if_pos (nI_le (by omega) (by omega)), sa_endC hp (v3 := 0)]
    have h7 : s.length = 1 := h6
    rcases s with _ | ⟨x, _ | ⟨y, t⟩⟩
    · simp at h7
    · have h8 : z (b + 3) 0 = x := h4.1
      rw [h8]
      rfl
    · simp at h7
  | succ k ih =>
    intro i f s z h1 h2 h3 h4 h5 h6
    obtain ⟨f, rfl⟩ := fuS h2
    have hz2 : z (b + 2) p = nI (E (p + 1)) := by rw [h3 _ _ (by omega)]; exact hz
    have hci : z (b + 1) i = oc (C i) := by rw [h3 _ _ (by omega)]; exact hcd i (by omega)
    have hoi := hok i (by omega)
    obtain ⟨w1, w2, w3⟩ := h6
    rw [pL_says_20, pv_inb (by omega) (by omega), pv_chk, pv_ga (by omega), hz2, if_neg (nI_ge (by omega) (by omega)), pv_inb (by omega) (by omega), pv_chk, pv_letm, pv_ga (by omega), hci]
    by_cases hc6 : C i < 6
    · obtain ⟨q1, q2, q3⟩ := oc_nm (C i) hc6
      rw [if_neg q1, if_neg (by rw [l_160, pv_le (by omega) (by omega)]; omega), if_pos q2, q3, pv_inb (by omega) (by omega), pv_chk]
      unfold pL_says_75 pL_says_173
      rw [pv_inb (by omega) (by omega), pv_chk, pv_letm, pv_sa (by omega), pv_letm, pv_letm, pv_ga (by omega), h3 nc _ hne, hnm _ hc6, nI_1, nI_1]
      obtain ⟨Z, e1, e2⟩ := ih (i + 1) f (nm (C i) :: s) (u2 z (b + 3) s.length (nm (C i))) (by omega) (by omega) (fun c j hc => by rw [pv_u2, if_neg (fun q => hc q.1)]; exact h3 c j hc) ⟨by rw [pv_u2, if_pos ⟨rfl, rfl⟩], stk_upd h4 (fun j hj => by rw [pv_u2, if_neg (by omega)])⟩ (by simp; omega) (w1 (Or.inl hc6))
      exact ⟨Z, by rw [List.length_cons] at e1; rw [e1, evM, st1_nm hc6], e2⟩
    · by_cases hcN : 100000 ≤ C i
      · obtain ⟨q1, q2, q3⟩ := oc_nu hcN (by unfold okc at hoi; omega)
        rw [if_neg q2, if_neg (by rw [l_160, pv_le (by omega) (by omega)]; omega), if_neg q3, q1]
        unfold pL_says_75 pL_says_173
        rw [pv_inb (by omega) (by omega), pv_chk, pv_letm, pv_sa (by omega), pv_letm, pv_letm, nI_1, nI_1]
        obtain ⟨Z, e1, e2⟩ := ih (i + 1) f (nI (C i - 100000) :: s) (u2 z (b + 3) s.length (nI (C i - 100000))) (by omega) (by omega) (fun c j hc => by rw [pv_u2, if_neg (fun q => hc q.1)]; exact h3 c j hc) ⟨by rw [pv_u2, if_pos ⟨rfl, rfl⟩], stk_upd h4 (fun j hj => by rw [pv_u2, if_neg (by omega)])⟩ (by simp; omega) (w1 (Or.inr hcN))
        exact ⟨Z, by rw [List.length_cons] at e1; rw [e1, evM, st1_nu hcN], e2⟩
      · by_cases hcu : C i = 13 ∨ C i = 19
        · obtain ⟨q1, q2⟩ := oc_un (C i) hcu
          obtain ⟨w4, w5⟩ := w2 hcu
          rcases s with _ | ⟨x, t⟩
          · simp at w4
          · have hx : z (b + 3) t.length = x := h4.1
            rw [List.length_cons] at w5 h5 ⊢
            rw [if_pos q1, if_neg q2, if_neg (by rw [l_1, pv_lt (by omega) (by omega)]; omega), nI_pred, pv_inb (by omega) (by omega), pv_chk, pv_letm, pv_ga (by omega), hx]
            have hg : ∀ v, pL_says_134 fu b nc (pL_says_20 fu b nc f) (nI p) (nI (t.length + 1)) (nI i) (nI t.length) v z = pL_says_20 fu b nc f (nI p) (nI (t.length + 1)) (nI (i + 1)) (u2 z (b + 3) t.length v) := fun v => by
              unfold pL_says_134 pL_says_173
              rw [pv_inb (by omega) (by omega), pv_chk, pv_letm, pv_sa (by omega), pv_letm, nI_1]
            have hv : (if oc (C i) = -8 then pL_says_134 fu b nc (pL_says_20 fu b nc f) (nI p) (nI (t.length + 1)) (nI i) (nI t.length) (-x) z else if x = 0 then pL_says_134 fu b nc (pL_says_20 fu b nc f) (nI p) (nI (t.length + 1)) (nI i) (nI t.length) 1 z else pL_says_134 fu b nc (pL_says_20 fu b nc f) (nI p) (nI (t.length + 1)) (nI i) (nI t.length) 0 z) = pL_says_134 fu b nc (pL_says_20 fu b nc f) (nI p) (nI (t.length + 1)) (nI i) (nI t.length) (un1 (C i) x) z := by
              rcases hcu with q | q
              · rw [q, if_neg oc_eq8.1]
                unfold un1
                by_cases hx0 : x = 0 <;> simp [hx0]
              · rw [q, if_pos oc_eq8.2]
                rfl
            rw [hv, hg]
            obtain ⟨Z, e1, e2⟩ := ih (i + 1) f (un1 (C i) x :: t) (u2 z (b + 3) t.length (un1 (C i) x)) (by omega) (by omega) (fun c j hc => by rw [pv_u2, if_neg (fun q => hc q.1)]; exact h3 c j hc) ⟨by rw [pv_u2, if_pos ⟨rfl, rfl⟩], stk_upd h4.2 (fun j hj => by rw [pv_u2, if_neg (by omega)])⟩ (by rw [List.length_cons]; omega) w5
            exact ⟨Z, by rw [List.length_cons] at e1; rw [e1, evM, st1_un hcu], e2⟩
        · have hcr : 11 ≤ C i ∧ C i ≤ 19 := by unfold okc at hoi; omega
          have h13 : C i ≠ 13 := fun q => hcu (Or.inl q)
          have h19 : C i ≠ 19 := fun q => hcu (Or.inr q)
          obtain ⟨q1, q2⟩ := oc_bi (C i) (by omega)
          obtain ⟨w4, w5⟩ := w3 hc6 hcN h13 h19
          rcases s with _ | ⟨y, _ | ⟨x, t⟩⟩
          · simp at w4
          · simp at w4
          · have hy : z (b + 3) (t.length + 1) = y := h4.1
            have hx : z (b + 3) t.length = x := h4.2.1
            rw [List.length_cons, List.length_cons] at w5 h5 ⊢
            rw [if_pos q1, if_pos q2, if_neg (by rw [l_2, pv_lt (by omega) (by omega)]; omega), pv_letm, pk_m1, nI_pred, pv_inb (by omega) (by omega), pv_chk, pv_inb (by omega) (by omega), pv_chk, pv_ga (by omega), pv_ga (by omega), hx, hy, joC hcr h13 h19, pv_bnd]
            unfold pL_says_173
            rw [pv_chk, pv_letm, pv_sa (by omega), pv_letm, nI_1]
            obtain ⟨Z, e1, e2⟩ := ih (i + 1) f (joM (C i) x y :: t) (u2 z (b + 3) t.length (joM (C i) x y)) (by omega) (by omega) (fun c j hc => by rw [pv_u2, if_neg (fun q => hc q.1)]; exact h3 c j hc) ⟨by rw [pv_u2, if_pos ⟨rfl, rfl⟩], stk_upd h4.2.2 (fun j hj => by rw [pv_u2, if_neg (by omega)])⟩ (by rw [List.length_cons]; omega) w5
            exact ⟨Z, by rw [List.length_cons] at e1; rw [e1, evM, st1_bi hcr h13 h19], e2⟩
theorem saC {fu b nc p : Nat} (hp : p < 3) (hf : 200 ≤ fu) {nm : Nat → Int32} {C E : Nat → Nat} (ht : tOK C E) {z : Sg} (hl : lC z b C E) (hnm : ∀ j, j < 6 → z nc j = nm j) (hne : nc ≠ b + 3) : ∃ Z, pL_says fu b nc (nI p) z = some (saM C E p nm, Z) ∧ ∀ c j, c ≠ b + 3 → Z c j = z c j := by
  obtain ⟨t1, t2, t3, t4, t5, t6, t7, t8, t9⟩ := ht
  obtain ⟨l1, l2, l3, l4⟩ := hl
  have key : ∀ p, p < 3 → E (p + 1) ≤ 160 → E p ≤ E (p + 1) → E (p + 1) ≤ E 3 → z (b + 2) p = nI (E (p + 1)) → wfM C (E (p + 1) - E p) (E p) 0 → ∃ Z, pL_says_20 fu b nc fu (nI p) 0 (nI (E p)) z = some (saM C E p nm, Z) ∧ ∀ c j, c ≠ b + 3 → Z c j = z c j := by
    intro p hp a1 a2 a3 a5 a6
    exact saC_loop (fu := fu) (b := b) hp a1 (fun i hi => t6 i (by omega)) a5 (fun i hi => l4 i (by omega)) hnm hne (E (p + 1) - E p) (E p) fu [] z (by omega) (by omega) (fun _ _ _ => rfl) trivial (by simp) a6
  rcases (show p = 0 ∨ p = 1 ∨ p = 2 by omega) with rfl | rfl | rfl
  · unfold pL_says pL_says_18
    rw [if_pos (show nI 0 = 0 from rfl)]
    have h := key 0 (by omega) (show E 1 ≤ 160 by omega) (show E 0 ≤ E 1 by omega) (show E 1 ≤ E 3 by omega) l1 t7
    rw [t1] at h
    exact h
  · unfold pL_says pL_says_18
    rw [if_neg (by decide), show nI 1 - 1 = nI 0 from rfl, pv_inb (by omega) (by omega), pv_chk, pv_ga (by omega), l1]
    exact key 1 (by omega) (show E 2 ≤ 160 by omega) (show E 1 ≤ E 2 by omega) (show E 2 ≤ E 3 by omega) l2 t8
  · unfold pL_says pL_says_18
    rw [if_neg (by decide), show nI 2 - 1 = nI 1 from rfl, pv_inb (by omega) (by omega), pv_chk, pv_ga (by omega), l2]
    exact key 2 (by omega) (show E 3 ≤ 160 by omega) (show E 2 ≤ E 3 by omega) (show E 3 ≤ E 3 by omega) l3 t9
theorem saMr_loop {fu lw p : Nat} (hp : p < 3) (hw : lw < 6) {nm : Nat → Int32} {C E : Nat → Nat} (hE : E (p + 1) ≤ 160) (hok : ∀ i, i < E (p + 1) → okc (C i)) {z0 : Sg} (hlw : z0 78 10 = nI lw) (hz : z0 85 (4 * lw + p + 1) = nI (E (p + 1))) (hcd : ∀ i, i < E (p + 1) → z0 84 (200 * lw + i) = nI (C i)) (hnm : ∀ j, j < 6 → z0 95 j = nm j) : ∀ k i f s z, i + k = E (p + 1) → k < f → (∀ c j, c ≠ 94 → z c j = z0 c j) → stk (z 94) s → s.length ≤ i → wfM C k i s.length → ∃ Z, pM_says_16 fu f (nI p) (nI s.length) (nI i) z = some ((evM C nm k i s).headD 0, Z) ∧ ∀ c j, c ≠ 94 → Z c j = z0 c j := by
  intro k
  induction k with
  | zero =>
    intro i f s z h1 h2 h3 h4 h5 h6
    obtain ⟨f, rfl⟩ := fuS h2
    have hlz : z 78 10 = nI lw := by rw [h3 _ _ (by omega)]; exact hlw
    have hz2 : z 85 (4 * lw + p + 1) = nI (E (p + 1)) := by rw [h3 _ _ (by omega)]; exact hz
    refine ⟨z, ?_, h3⟩
    have h7 : s.length = 1 := h6
    rw [pM_says_16, hlz, l_4, pk_mul, nI_add, nI_1, pv_inb (by omega) (by omega), pv_chk, pv_ga (by omega), hz2, if_pos (nI_le (by omega) (by omega))]
    rcases s with _ | ⟨x, _ | ⟨y, t⟩⟩
    · simp at h7
    · have h8 : z 94 0 = x := h4.1
      rw [h8]
      rfl
    · simp at h7
  | succ k ih =>
    intro i f s z h1 h2 h3 h4 h5 h6
    obtain ⟨f, rfl⟩ := fuS h2
    have hlz : z 78 10 = nI lw := by rw [h3 _ _ (by omega)]; exact hlw
    have hz2 : z 85 (4 * lw + p + 1) = nI (E (p + 1)) := by rw [h3 _ _ (by omega)]; exact hz
    have hci : z 84 (200 * lw + i) = nI (C i) := by rw [h3 _ _ (by omega)]; exact hcd i (by omega)
    have hoi := hok i (by omega)
    have hoi2 : C i < 110000 := by unfold okc at hoi; omega
    obtain ⟨w1, w2, w3⟩ := h6
    rw [pM_says_16, hlz, l_4, pk_mul, nI_add, nI_1, pv_inb (by omega) (by omega), pv_chk, pv_ga (by omega), hz2, if_neg (nI_ge (by omega) (by omega)), l_200, pk_mul, nI_add, pv_inb (by omega) (by omega), pv_chk, pv_letm, pv_ga (by omega), hci, l_11, l_13, l_19, l_100000]
    by_cases hc6 : C i < 6
    · rw [if_neg (nI_ge (by omega) (by omega)), if_neg (nI_ge (by omega) (by omega))]
      unfold pM_says_66
      rw [l_11, if_neg (nI_ge (by omega) (by omega)), pv_inb (by omega) (by omega), pv_chk]
      unfold pM_says_93 pM_says_191
      rw [pv_inb (by omega) (by omega), pv_chk, pv_letm, pv_sa (by omega), pv_letm, pv_letm, pv_ga (by omega), h3 95 _ (by omega), hnm _ hc6, nI_1, nI_1]
      obtain ⟨Z, e1, e2⟩ := ih (i + 1) f (nm (C i) :: s) (u2 z 94 s.length (nm (C i))) (by omega) (by omega) (fun c j hc => by rw [pv_u2, if_neg (fun q => hc q.1)]; exact h3 c j hc) ⟨by rw [pv_u2, if_pos ⟨rfl, rfl⟩], stk_upd h4 (fun j hj => by rw [pv_u2, if_neg (by omega)])⟩ (by simp; omega) (w1 (Or.inl hc6))
      exact ⟨Z, by rw [List.length_cons] at e1; rw [e1, evM, st1_nm hc6], e2⟩
    · by_cases hcN : 100000 ≤ C i
      · rw [if_pos (nI_le (by omega) (by omega))]
        unfold pM_says_66
        rw [l_11, if_pos (nI_le (by omega) (by omega)), l_100000, pk_sub hcN]
        unfold pM_says_93 pM_says_191
        rw [pv_inb (by omega) (by omega), pv_chk, pv_letm, pv_sa (by omega), pv_letm, pv_letm, nI_1, nI_1]
        obtain ⟨Z, e1, e2⟩ := ih (i + 1) f (nI (C i - 100000) :: s) (u2 z 94 s.length (nI (C i - 100000))) (by omega) (by omega) (fun c j hc => by rw [pv_u2, if_neg (fun q => hc q.1)]; exact h3 c j hc) ⟨by rw [pv_u2, if_pos ⟨rfl, rfl⟩], stk_upd h4 (fun j hj => by rw [pv_u2, if_neg (by omega)])⟩ (by simp; omega) (w1 (Or.inr hcN))
        exact ⟨Z, by rw [List.length_cons] at e1; rw [e1, evM, st1_nu hcN], e2⟩
      · rw [if_neg (nI_ge (by omega) (by omega)), if_pos (nI_le (by unfold okc at hoi; omega) (by omega))]
        by_cases hcu : C i = 13 ∨ C i = 19
        · obtain ⟨w4, w5⟩ := w2 hcu
          rcases s with _ | ⟨x, t⟩
          · simp at w4
          · have hx : z 94 t.length = x := h4.1
            rw [List.length_cons] at w5 h5 ⊢
            have hv : (if nI (C i) = nI 13 then chk (inb (nI (t.length + 1) - 1) 200) (if ga z 94 (nI (t.length + 1) - 1) = 0 then pM_says_130 fu (pM_says_16 fu f) (nI p) (nI (t.length + 1)) (nI i) (nI (t.length + 1) - 1) 1 z else pM_says_130 fu (pM_says_16 fu f) (nI p) (nI (t.length + 1)) (nI i) (nI (t.length + 1) - 1) 0 z) else if nI (C i) = nI 19 then chk (inb (nI (t.length + 1) - 1) 200) (chk (inb (nI (t.length + 1) - 1) 200) (letm (sa z 94 (nI (t.length + 1) - 1) (-(ga z 94 (nI (t.length + 1) - 1)))) (fun z7 => pM_says_191 fu (pM_says_16 fu f) (nI p) (nI (t.length + 1)) (nI i) z7))) else letm (nI (t.length + 1) + (-1)) (fun x3 => chk (inb (x3 - 1) 200) (chk (inb x3 200) (bnd (pM_two fu (nI (C i)) (ga z 94 (x3 - 1)) (ga z 94 x3) z) (fun x5 z4 => chk (inb (x3 - 1) 200) (letm (sa z4 94 (x3 - 1) x5) (fun z6 => pM_says_191 fu (pM_says_16 fu f) (nI p) x3 (nI i) z6))))))) = pM_says_16 fu f (nI p) (nI (t.length + 1)) (nI (i + 1)) (u2 z 94 t.length (un1 (C i) x)) := by
              rcases hcu with q | q
              · rw [q, if_pos rfl, nI_pred, pv_inb (by omega) (by omega), pv_chk, pv_ga (by omega), hx]
                unfold un1 pM_says_130 pM_says_191
                rw [pv_inb (by omega) (by omega), pv_chk, pv_chk, pv_letm, pv_letm, pv_sa (by omega), pv_letm, pv_letm, pv_sa (by omega), nI_1]
                by_cases hx0 : x = 0 <;> simp [hx0]
              · rw [q, if_neg (by rw [pv_eq (by omega) (by omega)]; omega), if_pos rfl, nI_pred, pv_inb (by omega) (by omega), pv_chk, pv_chk, pv_letm, pv_ga (by omega), hx, pv_sa (by omega)]
                unfold pM_says_191
                rw [pv_letm, nI_1]
                rfl
            rw [hv]
            obtain ⟨Z, e1, e2⟩ := ih (i + 1) f (un1 (C i) x :: t) (u2 z 94 t.length (un1 (C i) x)) (by omega) (by omega) (fun c j hc => by rw [pv_u2, if_neg (fun q => hc q.1)]; exact h3 c j hc) ⟨by rw [pv_u2, if_pos ⟨rfl, rfl⟩], stk_upd h4.2 (fun j hj => by rw [pv_u2, if_neg (by omega)])⟩ (by rw [List.length_cons]; omega) w5
            exact ⟨Z, by rw [List.length_cons] at e1; rw [e1, evM, st1_un hcu], e2⟩
        · have hcr : 11 ≤ C i ∧ C i ≤ 19 := by unfold okc at hoi; omega
          have h13 : C i ≠ 13 := fun q => hcu (Or.inl q)
          have h19 : C i ≠ 19 := fun q => hcu (Or.inr q)
          obtain ⟨w4, w5⟩ := w3 hc6 hcN h13 h19
          rcases s with _ | ⟨y, _ | ⟨x, t⟩⟩
          · simp at w4
          · simp at w4
          · have hy : z 94 (t.length + 1) = y := h4.1
            have hx : z 94 t.length = x := h4.2.1
            rw [List.length_cons, List.length_cons] at w5 h5 ⊢
            rw [if_neg (by rw [pv_eq (by omega) (by omega)]; omega), if_neg (by rw [pv_eq (by omega) (by omega)]; omega), pv_letm, pk_m1, nI_pred, pv_inb (by omega) (by omega), pv_chk, pv_inb (by omega) (by omega), pv_chk, pv_ga (by omega), pv_ga (by omega), hx, hy, joMr hcr h13 h19, pv_bnd]
            unfold pM_says_191
            rw [pv_chk, pv_letm, pv_sa (by omega), pv_letm, nI_1]
            obtain ⟨Z, e1, e2⟩ := ih (i + 1) f (joM (C i) x y :: t) (u2 z 94 t.length (joM (C i) x y)) (by omega) (by omega) (fun c j hc => by rw [pv_u2, if_neg (fun q => hc q.1)]; exact h3 c j hc) ⟨by rw [pv_u2, if_pos ⟨rfl, rfl⟩], stk_upd h4.2.2 (fun j hj => by rw [pv_u2, if_neg (by omega)])⟩ (by rw [List.length_cons]; omega) w5
            exact ⟨Z, by rw [List.length_cons] at e1; rw [e1, evM, st1_bi hcr h13 h19], e2⟩
theorem cl_within {fu : Nat} {v lo hi : Int32} {z : Sg} : pM_within fu v lo hi z = some ((if lo ≤ v then (if v ≤ hi then v else hi) else lo), z) := by
  unfold pM_within
  (repeat' split) <;> rfl
/-- the reference's says, bounded as asksOf bounds it -/
theorem saMr {fu lw p : Nat} (hp : p < 3) (hw : lw < 6) (hf : 200 ≤ fu) {nm : Nat → Int32} {C E : Nat → Nat} (ht : tOK C E) {z : Sg} (hlw : z 78 10 = nI lw) (hl : lM z lw C E) (hnm : ∀ j, j < 6 → z 95 j = nm j) : ∃ v Z, pM_says fu (nI p) z = some (v, Z) ∧ cl3 p v = saM C E p nm ∧ ∀ c j, c ≠ 94 → Z c j = z c j := by
  obtain ⟨t1, t2, t3, t4, t5, t6, t7, t8, t9⟩ := ht
  obtain ⟨l0, l1, l2, l3, l4⟩ := hl
  have key : ∀ p, p < 3 → E (p + 1) ≤ 160 → E p ≤ E (p + 1) → E (p + 1) ≤ E 3 → z 85 (4 * lw + p) = nI (E p) → z 85 (4 * lw + p + 1) = nI (E (p + 1)) → wfM C (E (p + 1) - E p) (E p) 0 → ∃ v Z, pM_says fu (nI p) z = some (v, Z) ∧ cl3 p v = saM C E p nm ∧ ∀ c j, c ≠ 94 → Z c j = z c j := by
    intro p hp a1 a2 a3 a4 a5 a6
    unfold pM_says
    rw [hlw, l_4, pk_mul, nI_add, pv_inb (by omega) (by omega), pv_chk, pv_letm, pv_ga (by omega), a4]
    obtain ⟨Z, e1, e2⟩ := saMr_loop (fu := fu) hp hw a1 (fun i hi => t6 i (by omega)) hlw a5 (fun i hi => l4 i (by omega)) hnm (E (p + 1) - E p) (E p) fu [] z (by omega) (by omega) (fun _ _ _ => rfl) trivial (by simp) a6
    exact ⟨_, Z, e1, rfl, e2⟩
  rcases (show p = 0 ∨ p = 1 ∨ p = 2 by omega) with rfl | rfl | rfl
  · exact key 0 (by omega) (show E 1 ≤ 160 by omega) (show E 0 ≤ E 1 by omega) (show E 1 ≤ E 3 by omega) l0 l1 t7
  · exact key 1 (by omega) (show E 2 ≤ 160 by omega) (show E 1 ≤ E 2 by omega) (show E 2 ≤ E 3 by omega) l1 l2 t8
  · exact key 2 (by omega) (show E 3 ≤ 160 by omega) (show E 2 ≤ E 3 by omega) (show E 3 ≤ E 3 by omega) l2 l3 t9
