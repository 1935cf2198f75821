theorem okD_mono (n : Nat) : ∀ k x M b, okD n k x (M ||| b) = true → okD n k x M = true := by
  intro k
  induction k with
  | zero => intro x M b _; rfl
  | succ k ih =>
    intro x M b h
    unfold okD at h ⊢
    rw [Bool.and_eq_true, Bool.not_eq_true', Nat.testBit_or, Bool.or_eq_false_iff] at h
    rw [Bool.and_eq_true, Bool.not_eq_true']
    refine ⟨h.1.1, ih (x / n) _ b ?_⟩
    rw [Nat.or_assoc, Nat.or_comm (1 <<< (x % n)) b, ← Nat.or_assoc]
    exact h.2
theorem okD_drop (n : Nat) : ∀ d j x M, okD n (d + j) x M = true → okD n j (x / n ^ d) M = true := by
  intro d
  induction d with
  | zero => intro j x M h; rw [Nat.pow_zero, Nat.div_one]; rw [Nat.zero_add] at h; exact h
  | succ d ih =>
    intro j x M h
    rw [show d + 1 + j = (d + j) + 1 by omega] at h
    unfold okD at h
    rw [Bool.and_eq_true] at h
    have h2 := okD_mono n j _ M _ (ih j (x / n) _ h.2)
    rw [Nat.div_div_eq_div_mul, Nat.mul_comm n (n ^ d), ← Nat.pow_succ] at h2
    exact h2
theorem flt_s (n k x : Nat) : fltM n (k + 1) x = if okD n n x 0 then x :: fltM n k (x + 1) else fltM n k (x + 1) := rfl
theorem flt_split (n : Nat) : ∀ a b x, fltM n (a + b) x = fltM n a x ++ fltM n b (x + a) := by
  intro a
  induction a with
  | zero => intro b x; rw [Nat.zero_add]; rfl
  | succ a ih =>
    intro b x
    rw [show a + 1 + b = (a + b) + 1 by omega, flt_s n (a + b) x, flt_s n a x, ih b (x + 1), show x + 1 + a = x + (a + 1) by omega]
    by_cases q : okD n n x 0 = true
    · rw [if_pos q, if_pos q, List.cons_append]
    · rw [if_neg q, if_neg q]
theorem flt_none (n : Nat) : ∀ k x, (∀ y, x ≤ y → y < x + k → okD n n y 0 = false) → fltM n k x = [] := by
  intro k
  induction k with
  | zero => intro x _; rfl
  | succ k ih =>
    intro x h
    unfold fltM
    rw [h x (by omega) (by omega), if_neg (by decide)]
    exact ih (x + 1) (fun y h1 h2 => h y (by omega) (by omega))
theorem flt_tr {n : Nat} (h0 : 0 < n) : ∀ d p, d ≤ n → fltM n (n ^ d) (p * n ^ d) = trM n d p := by
  intro d
  induction d with
  | zero =>
    intro p _
    rw [Nat.pow_zero, Nat.mul_one]
    rfl
  | succ d ih =>
    intro p hd
    have hpos : 0 < n ^ (d + 1) := Nat.pow_pos h0
    unfold trM
    by_cases q : okD n (n - 1 - d) p 0 = true
    · rw [if_pos q]
      have key : ∀ c y, fltM n (c * n ^ d) (y * n ^ d) = trC n (trM n d) c y := by
        intro c
        induction c with
        | zero => intro y; rw [Nat.zero_mul]; rfl
        | succ c ic =>
          intro y
          rw [Nat.succ_mul, Nat.add_comm, flt_split, ih y (by omega), show y * n ^ d + n ^ d = (y + 1) * n ^ d by rw [Nat.succ_mul], ic (y + 1)]
          rfl
      rw [show n ^ (d + 1) = n * n ^ d by rw [Nat.pow_succ, Nat.mul_comm], ← Nat.mul_assoc]
      exact key n (p * n)
    · rw [if_neg q]
      refine flt_none n _ _ (fun y h1 h2 => ?_)
      cases hy : okD n n y 0 with
      | false => rfl
      | true =>
        refine absurd ?_ q
        have h3 := okD_drop n (d + 1) (n - 1 - d) y 0 (by rw [show d + 1 + (n - 1 - d) = n by omega]; exact hy)
        have h4 : y / n ^ (d + 1) = p := by
          rw [Nat.div_eq_iff hpos]
          constructor
          · omega
          · omega
        rw [h4] at h3
        exact h3
theorem LO_flt {n : Nat} (h0 : 0 < n) (hn : n ≤ 6) : fltM n (n ^ n) 0 = LO n := by
  have h := flt_tr h0 n 0 (Nat.le_refl n)
  rw [Nat.zero_mul] at h
  rw [h]
  rcases (show n = 1 ∨ n = 2 ∨ n = 3 ∨ n = 4 ∨ n = 5 ∨ n = 6 by omega) with rfl | rfl | rfl | rfl | rfl | rfl
  · exact LO1_tr
  · exact LO2_tr
  · exact LO3_tr
  · exact LO4_tr
  · exact LO5_tr
  · exact LO6_tr
theorem chN_ok {n : Nat} : ∀ L, chN n L = true → ∀ x, x ∈ L → okX n x = true
  | [], h => by simp [chN] at h
  | [x], h => by
    intro y hy
    rw [List.mem_singleton] at hy
    rw [hy]
    unfold chN at h
    rw [Bool.and_eq_true] at h
    exact h.1
  | x :: y :: r, h => by
    intro w hw
    unfold chN at h
    rw [Bool.and_eq_true, Bool.and_eq_true, Bool.and_eq_true] at h
    rcases List.mem_cons.mp hw with e | e
    · rw [e]; exact h.1.1.1
    · exact chN_ok (y :: r) h.2 w e
theorem mem_flt (n : Nat) : ∀ k x0 x, x0 ≤ x → x < x0 + k → okD n n x 0 = true → x ∈ fltM n k x0 := by
  intro k
  induction k with
  | zero => intro x0 x h1 h2 _; omega
  | succ k ih =>
    intro x0 x h1 h2 h3
    unfold fltM
    by_cases e : x = x0
    · subst e
      rw [if_pos h3]
      exact List.mem_cons_self
    · have := ih (x0 + 1) x (by omega) (by omega) h3
      split
      · exact List.mem_cons_of_mem _ this
      · exact this
theorem okD_X {n x : Nat} (h0 : 0 < n) (hn : n ≤ 6) (hx : x < n ^ n) (h : okD n n x 0 = true) : okX n x = true := by
  have h1 := mem_flt n (n ^ n) 0 x (by omega) (by omega) h
  rw [LO_flt h0 hn] at h1
  exact chN_ok _ (LO_ch h0 hn).1 x h1
/-- an order: every place is one's, everyone has one -/
theorem okX_1 {n x : Nat} (h : okX n x = true) {m : Nat} (hm : m < n) : ixM n x m < n ∧ dg n x (ixM n x m) = m := by
  unfold okX at h
  rw [Bool.and_eq_true, Bool.and_eq_true, Bool.and_eq_true, List.all_eq_true] at h
  have := h.1.1.1 m (List.mem_range.mpr hm)
  rw [Bool.and_eq_true, decide_eq_true_eq, decide_eq_true_eq] at this
  exact this
theorem okX_2 {n x : Nat} (h : okX n x = true) {i : Nat} (hi : i < n) : dg n x i < n ∧ ixM n x (dg n x i) = i := by
  unfold okX at h
  rw [Bool.and_eq_true, Bool.and_eq_true, Bool.and_eq_true, List.all_eq_true, List.all_eq_true] at h
  have := h.1.1.2 i (List.mem_range.mpr hi)
  rw [Bool.and_eq_true, decide_eq_true_eq, decide_eq_true_eq] at this
  exact this
theorem okX_3 {n x : Nat} (h : okX n x = true) : hoM n x n 0 0 = smM n x n 1 0 ∧ smM n x n 1 0 < 1000000 := by
  unfold okX at h
  rw [Bool.and_eq_true, Bool.and_eq_true, decide_eq_true_eq, decide_eq_true_eq] at h
  exact ⟨h.1.2, h.2⟩
/-! the places that are taken -/
def tkM (f : Nat → Bool) : Nat → Nat → List Nat
  | 0, _ => []
  | k + 1, p => if f p then p :: tkM f k (p + 1) else tkM f k (p + 1)
theorem tk_len (f g : Nat → Bool) (a : Nat) : ∀ k p, (∀ x, p ≤ x → x < p + k → g x = (f x || decide (x = a))) → f a = false → (tkM g k p).length = (tkM f k p).length + (if p ≤ a ∧ a < p + k then 1 else 0) := by
  intro k
  induction k with
  | zero => intro p _ _; rw [if_neg (by omega)]; rfl
  | succ k ih =>
    intro p h ha
    have h1 := ih (p + 1) (fun x h1 h2 => h x (by omega) (by omega)) ha
    have h2 := h p (by omega) (by omega)
    unfold tkM
    by_cases e : p = a
    · subst e
      rw [h2, ha, decide_eq_true rfl, Bool.false_or, if_pos rfl, if_neg (by decide), List.length_cons, h1, if_neg (by omega), if_pos (by omega)]
    · rw [h2, decide_eq_false e, Bool.or_false]
      cases f p with
      | true =>
        rw [if_pos rfl, if_pos rfl, List.length_cons, List.length_cons, h1]
        by_cases q : p + 1 ≤ a ∧ a < p + 1 + k
        · rw [if_pos q, if_pos (by omega)]
        · rw [if_neg q, if_neg (by omega)]
      | false =>
        rw [if_neg (by decide), if_neg (by decide), h1]
        by_cases q : p + 1 ≤ a ∧ a < p + 1 + k
        · rw [if_pos q, if_pos (by omega)]
        · rw [if_neg q, if_neg (by omega)]
theorem tk_mem (f : Nat → Bool) : ∀ k p x, x ∈ tkM f k p → p ≤ x ∧ x < p + k := by
  intro k
  induction k with
  | zero => intro p x h; simp [tkM] at h
  | succ k ih =>
    intro p x h
    unfold tkM at h
    cases hf : f p with
    | true =>
      rw [hf, if_pos rfl] at h
      rcases List.mem_cons.mp h with e | e
      · omega
      · have := ih (p + 1) x e; omega
    | false =>
      rw [hf, if_neg (by decide)] at h
      have := ih (p + 1) x h; omega
def tkF (n : Nat) (F : Nat → Nat → Int32) : Nat → Bool := fun p => !gaO n F p
theorem tkF_f {n : Nat} (hn : n ≤ 6) {F : Nat → Nat → Int32} {p : Nat} : tkF n F p = false ↔ ∀ m, m < n → F 0 m ≠ nI p := by
  unfold tkF gaO
  rcases who_at (F := F) (n := n) (nI p) with ⟨e, e2⟩ | ⟨j, hj, e, e2⟩
  · rw [e]; simp only [decide_true, Bool.not_true, true_iff]; exact e2
  · rw [e, decide_eq_false (fun w => (pv_neg1 (by omega)).mp w)]
    simp only [Bool.not_false, Bool.true_eq_false, false_iff]
    exact fun h => h j hj e2
theorem tk_n {F : Nat → Nat → Int32} : ∀ n, n ≤ 6 → (∀ m, m < n → bI 10 (F 0 m)) → (∀ i, i < n → ∀ j, j < n → F 0 i = F 0 j → i = j) → (tkM (tkF n F) 10 0).length = n := by
  intro n
  induction n with
  | zero =>
    intro _ _ _
    have : ∀ k p, tkM (tkF 0 F) k p = [] := by
      intro k
      induction k with
      | zero => intro p; rfl
      | succ k ih =>
        intro p
        unfold tkM
        rw [(tkF_f (by omega)).mpr (fun m hm => absurd hm (by omega)), if_neg (by decide)]
        exact ih (p + 1)
    rw [this]; rfl
  | succ n ih =>
    intro hn hb hd
    obtain ⟨a, ha, ea⟩ := hb n (by omega)
    have h1 := tk_len (tkF n F) (tkF (n + 1) F) a 10 0 (fun x _ hx => ?_) ((tkF_f (by omega)).mpr (fun m hm q => absurd (hd m (by omega) n (by omega) (q.trans ea.symm)) (by omega)))
    · rw [h1, ih (by omega) (fun m hm => hb m (by omega)) (fun i hi j hj => hd i (by omega) j (by omega)), if_pos (by omega)]
    · cases hx2 : tkF (n + 1) F x with
      | false =>
        have h2 := (tkF_f hn).mp hx2
        rw [(tkF_f (by omega)).mpr (fun m hm => h2 m (by omega)), decide_eq_false (fun q => h2 n (by omega) (by rw [ea, q]))]
        rfl
      | true =>
        cases hx3 : tkF n F x with
        | true => rfl
        | false =>
          have h3 := (tkF_f (by omega)).mp hx3
          rw [Bool.false_or]
          refine (decide_eq_true ?_).symm
          refine Classical.byContradiction (fun q => ?_)
          have : tkF (n + 1) F x = false := (tkF_f hn).mpr (fun m hm => by
            by_cases e : m = n
            · rw [e, ea, Ne, pv_eq (by omega) (by omega)]; omega
            · exact h3 m (by omega))
          rw [this] at hx2
          exact absurd hx2 (by decide)
/-- place i of those taken -/
def tkT (n : Nat) (F : Nat → Nat → Int32) (i : Nat) : Nat := (tkM (tkF n F) 10 0).getD i 0
theorem tkT_b {n : Nat} {F : Nat → Nat → Int32} (hl : (tkM (tkF n F) 10 0).length = n) {i : Nat} (hi : i < n) : tkT n F i < 10 := by
  unfold tkT
  have hi2 : i < (tkM (tkF n F) 10 0).length := by omega
  rw [List.getD_eq_getElem?_getD, List.getElem?_eq_getElem hi2]
  have := tk_mem (tkF n F) 10 0 _ (List.getElem_mem hi2)
  show (tkM (tkF n F) 10 0)[i] < 10
  omega
