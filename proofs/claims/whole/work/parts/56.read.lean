/-! the class's reading of a part -/
def cdM (A : Nat → Int32) : List Nat → Prop
  | [] => True
  | c :: t => A t.length = oc c ∧ cdM A t
theorem cdM_upd {A B : Nat → Int32} : ∀ {s : List Nat}, cdM A s → (∀ i, i < s.length → B i = A i) → cdM B s
  | [], _, _ => trivial
  | x :: t, h, e => ⟨(e t.length (by simp)).trans h.1, cdM_upd h.2 (fun i hi => e i (by simp; omega))⟩
def std1 (c d : Nat) : Option Nat := if c < 6 ∨ 100000 ≤ c then some (d + 1) else if c = 13 ∨ c = 19 then (if 1 ≤ d then some d else none) else if 2 ≤ d then some (d - 1) else none
def dpR : List Nat → Nat → Option Nat
  | [], d => some d
  | c :: R, d => (dpR R d).bind (std1 c)
theorem dpR_app : ∀ (A B : List Nat) (d : Nat), dpR (A ++ B) d = (dpR B d).bind (dpR A)
  | [], B, d => by
    show dpR B d = _
    cases dpR B d <;> rfl
  | c :: A, B, d => by
    show (dpR (A ++ B) d).bind (std1 c) = _
    rw [dpR_app A B d]
    cases dpR B d <;> rfl
def wfR (D : List Nat) : Prop := ∀ d, dpR D d = some (d + 1)
theorem wfR_1 {c : Nat} (h : c < 6 ∨ 100000 ≤ c) : wfR [c] := fun d => by
  show std1 c d = _
  unfold std1
  rw [if_pos h]
theorem wfR_u {c : Nat} {D : List Nat} (h : wfR D) (hc : c = 13 ∨ c = 19) : wfR (c :: D) := fun d => by
  show (dpR D d).bind (std1 c) = _
  rw [h d]
  show std1 c (d + 1) = _
  unfold std1
  rw [if_neg (by omega), if_pos hc, if_pos (by omega)]
theorem wfR_b {c : Nat} {D E : List Nat} (h : wfR D) (h2 : wfR E) (hc : 11 ≤ c ∧ c ≤ 18 ∧ c ≠ 13) : wfR (c :: (E ++ D)) := fun d => by
  show (dpR (E ++ D) d).bind (std1 c) = _
  rw [dpR_app, h d]
  show (dpR E (d + 1)).bind (std1 c) = _
  rw [h2 (d + 1)]
  show std1 c (d + 1 + 1) = _
  unfold std1
  rw [if_neg (by omega), if_neg (by omega), if_pos (by omega)]
  rfl
theorem wfR_ne {D : List Nat} (h : wfR D) : 1 ≤ D.length := by
  cases D with
  | nil => exact absurd (h 0) (by decide)
  | cons a t => simp
def okL (D : List Nat) : Prop := ∀ c, c ∈ D → okc c
theorem okL_c {c : Nat} {D : List Nat} (h : okL D) (hc : okc c) : okL (c :: D) := fun x hx => by
  rcases List.mem_cons.mp hx with e | e
  · rw [e]; exact hc
  · exact h x e
theorem okL_a {D E : List Nat} (h : okL D) (h2 : okL E) : okL (D ++ E) := fun x hx => by
  rcases List.mem_append.mp hx with e | e
  · exact h x e
  · exact h2 x e
theorem unM_unM {a b : Nat} (h : a ≤ b) : ∀ H O, unM a (unM b H O).1 (unM b H O).2 = unM a H O
  | [], O => rfl
  | x :: H, O => by
    have e : unM b (x :: H) O = if rkM x < b then (x :: H, O) else unM b H (x :: O) := rfl
    by_cases q : rkM x < b
    · rw [e, if_pos q]
    · have e2 : unM a (x :: H) O = if rkM x < a then (x :: H, O) else unM a H (x :: O) := rfl
      rw [e, if_neg q, e2, if_neg (by omega)]
      exact unM_unM h H _
theorem unM_p {l x : Nat} {H O : List Nat} (h : ¬ rkM x < l) : unM l (x :: H) O = unM l H (x :: O) := by
  have e : unM l (x :: H) O = if rkM x < l then (x :: H, O) else unM l H (x :: O) := rfl
  rw [e, if_neg h]
def tlt (r : Nat) : List Nat → Prop
  | [] => True
  | h :: _ => rkM h < r
theorem unM_k {l : Nat} {H O : List Nat} (h : tlt l H) : unM l H O = (H, O) := by
  cases H with
  | nil => rfl
  | cons x t =>
    have e : unM l (x :: t) O = if rkM x < l then (x :: t, O) else unM l t (x :: O) := rfl
    rw [e, if_pos (show rkM x < l from h)]
theorem tlt_le {a b : Nat} {H : List Nat} (h : tlt a H) (hab : a ≤ b) : tlt b H := by
  cases H with
  | nil => trivial
  | cons x t => exact Nat.lt_of_lt_of_le h hab
theorem unM_eq {a b : Nat} {H O H' O' : List Nat} (h : unM b H O = unM b H' O') (hab : a ≤ b) : unM a H O = unM a H' O' := by
  rw [← unM_unM hab H O, h, unM_unM hab]
section RDC
variable {fu n : Nat} {T : Nat → Int32}
def FG (z Z : Sg) : Prop := ∀ c j, ¬ (c = 3 ∧ 3 ≤ j ∧ j ≤ 7) → ¬ (c = 66 ∧ j = 3) → c ≠ 67 → Z c j = z c j
theorem FG.rf {z : Sg} : FG z z := fun _ _ _ _ _ => rfl
theorem FG.tr {z Z Y : Sg} (h1 : FG z Z) (h2 : FG Z Y) : FG z Y := fun c j a b d => (h2 c j a b d).trans (h1 c j a b d)
theorem FA.g {z Z : Sg} (h : FA z Z) : FG z Z := fun c j a _ _ => h c j (fun q => a (by omega))
theorem tpC.g {z Z : Sg} (h : tpC z n T) (e : FG z Z) : tpC Z n T := ⟨by rw [e _ _ (by omega) (by omega) (by omega)]; exact h.1, h.2.1, fun j hj => by rw [e _ _ (by omega) (by omega) (by omega)]; exact h.2.2.1 j hj, h.2.2.2⟩
def rcC (T : Nat → Int32) (n : Nat) (z : Sg) (t : Tok) (l : List Tok) (C : List Nat) : Prop := tpC z n T ∧ (∃ a, tkL T n (t :: l) a) ∧ cuC z t ∧ z 66 3 = nI C.length ∧ cdM (z 67) C ∧ z 3 7 = -1
def rfC (T : Nat → Int32) (n : Nat) (z : Sg) (q : Nat) : Prop := tpC z n T ∧ z 3 4 = 258 ∧ z 3 7 = nI q ∧ q ≤ 160 ∧ ∃ k, k ≤ 160 ∧ z 66 3 = nI k
theorem rcC.kd {z : Sg} {t : Tok} {l : List Tok} {C : List Nat} (h : rcC T n z t l C) : t.1 < 259 ∧ (t.1 < 12 ∨ t.1 ∈ [40, 41, 59, 43, 45, 42, 60, 61, 256, 257, 258]) ∧ t.2.1 < 10000 ∧ t.2.2.1 ≤ 160 ∧ t.2.2.2 ≤ n := by
  obtain ⟨h1, ⟨a, t1, t2, t3⟩, _⟩ := h
  obtain ⟨b1, b2, b3, b4, b5, b6⟩ := tok_b (T := T) (n := n) t2 h1.2.2.2 h1.2.1
  rw [← t1] at b1 b2 b3 b4 b5 b6
  have := h1.2.1
  refine ⟨?_, b6, b1, by omega, b4⟩
  rcases b6 with h | h
  · omega
  · simp only [List.mem_cons, List.not_mem_nil, or_false] at h
    omega
theorem rcC.eq {z : Sg} {t : Tok} {l : List Tok} {C : List Nat} (h : rcC T n z t l C) {k : Nat} (hk : k < 300) : (z 3 4 = nI k) ↔ t.1 = k := by
  rw [h.2.2.1.1]
  exact pv_eq (by have := h.kd.1; omega) (by omega)
theorem rcC.adv {z : Sg} {t : Tok} {l : List Tok} {C : List Nat} (hf : 300 ≤ fu) (h : rcC T n z t l C) (hk : t.1 ≠ 257) : ∃ Z t' l', pD_advance fu z = some Z ∧ l = t' :: l' ∧ rcC T n Z t' l' C ∧ FG z Z := by
  have hkd := h.kd
  obtain ⟨h1, ⟨a, t1, t2, t3⟩, h3, h4, h5, h6⟩ := h
  rw [if_neg hk] at t3
  obtain ⟨Z, z1, z2, z3⟩ := advC (fu := fu) hf h1 h3.2.2.2 hkd.2.2.2.2
  cases l with
  | nil => exact absurd t3 id
  | cons t' l' =>
    have := t3.1
    rw [← this] at z2
    exact ⟨Z, t', l', z1, rfl, ⟨h1.a z3, ⟨_, t3⟩, z2, by rw [z3 _ _ (by omega)]; exact h4, cdM_upd h5 (fun i _ => z3 _ _ (by omega)), by rw [z3 _ _ (by omega)]; exact h6⟩, z3.g⟩
theorem rcC.fail {z : Sg} {t : Tok} {l : List Tok} {C : List Nat} (h : rcC T n z t l C) (hC : C.length ≤ 160) : ∃ Z, pD_fail fu z = some Z ∧ rfC T n Z t.2.2.1 ∧ FG z Z := by
  have hkd := h.kd
  obtain ⟨h1, _, h3, h4, h5, h6⟩ := h
  unfold pD_fail pD_fail_16
  rw [if_pos h6, pv_letm, pv_letm]
  have hF : FG z (u2 (u2 z 3 7 (z 3 5)) 3 4 258) := fun c j a b d => by rw [pv_u2, if_neg (by omega), pv_u2, if_neg (by omega)]
  exact ⟨_, rfl, ⟨h1.g hF, by rw [pv_u2, if_pos ⟨rfl, rfl⟩], by rw [pv_u2, if_neg (by omega), pv_u2, if_pos ⟨rfl, rfl⟩]; exact h3.2.2.1, hkd.2.2.2.1, _, hC, by rw [pv_u2, if_neg (by omega), pv_u2, if_neg (by omega)]; exact h4⟩, hF⟩
theorem ne_m1 : ∀ q, q ≤ 160 → ¬ nI q = -1 := by decide +kernel
theorem rfC.fail {z : Sg} {q : Nat} (h : rfC T n z q) : ∃ Z, pD_fail fu z = some Z ∧ rfC T n Z q ∧ FG z Z := by
  obtain ⟨h1, h2, h3, h4, k, h5, h6⟩ := h
  unfold pD_fail pD_fail_16
  rw [if_neg (by rw [h3]; exact ne_m1 q h4), pv_letm]
  have hF : FG z (u2 z 3 4 258) := fun c j a b d => by rw [pv_u2, if_neg (by omega)]
  exact ⟨_, rfl, ⟨h1.g hF, by rw [pv_u2, if_pos ⟨rfl, rfl⟩], by rw [pv_u2, if_neg (by omega)]; exact h3, h4, k, h5, by rw [pv_u2, if_neg (by omega)]; exact h6⟩, hF⟩
theorem rcC.add {z : Sg} {t : Tok} {l : List Tok} {C : List Nat} (h : rcC T n z t l C) (hC : C.length < 160) {c : Nat} {v : Int32} (hv : v = oc c) : ∃ Z, pL_add fu 66 v z = some Z ∧ rcC T n Z t l (c :: C) ∧ FG z Z := by
  obtain ⟨h1, h2, h3, h4, h5, h6⟩ := h
  unfold pL_add
  rw [h4, if_neg (show ¬ (160 : Int32) ≤ nI C.length from nI_ge (b := 160) hC (by omega)), pv_inb hC (by omega), pv_chk, pv_letm, pv_letm, pv_sa (by omega)]
  have e3 : ∀ j, (u2 (u2 z (66 + 1) C.length v) 66 3 ((u2 z (66 + 1) C.length v) 66 3 + 1)) 3 j = z 3 j := fun j => by rw [pv_u2, if_neg (by omega), pv_u2, if_neg (by omega)]
  have hF : FG z (u2 (u2 z (66 + 1) C.length v) 66 3 ((u2 z (66 + 1) C.length v) 66 3 + 1)) := fun c j a b d => by rw [pv_u2, if_neg (by omega), pv_u2, if_neg (by omega)]
  refine ⟨_, rfl, ⟨h1.g hF, h2, ?_, ?_, ⟨?_, cdM_upd h5 (fun i hi => ?_)⟩, by rw [e3]; exact h6⟩, hF⟩
  · unfold cuC
    rw [e3, e3, e3, e3]
    exact h3
  · rw [pv_u2, if_pos ⟨rfl, rfl⟩, pv_u2, if_neg (by omega), h4, nI_1, List.length_cons]
  · rw [pv_u2, if_neg (by omega), pv_u2, if_pos ⟨rfl, rfl⟩]; exact hv
  · rw [pv_u2, if_neg (by omega), pv_u2, if_neg (by omega)]
theorem rfC.add {z : Sg} {q : Nat} (h : rfC T n z q) (v : Int32) : ∃ Z, pL_add fu 66 v z = some Z ∧ rfC T n Z q ∧ FG z Z := by
  obtain ⟨h1, h2, h3, h4, k, h5, h6⟩ := h
  unfold pL_add
  rw [h6]
  by_cases q : 160 ≤ k
  · rw [if_pos (show (160 : Int32) ≤ nI k from nI_le (a := 160) q (by omega))]
    exact ⟨z, rfl, ⟨h1, h2, h3, h4, k, h5, h6⟩, FG.rf⟩
  · rw [if_neg (show ¬ (160 : Int32) ≤ nI k from nI_ge (b := 160) (by omega) (by omega)), pv_inb (by omega) (by omega), pv_chk, pv_letm, pv_letm, pv_sa (by omega)]
    have hF : FG z (u2 (u2 z (66 + 1) k v) 66 3 ((u2 z (66 + 1) k v) 66 3 + 1)) := fun c j a b d => by rw [pv_u2, if_neg (by omega), pv_u2, if_neg (by omega)]
    exact ⟨_, rfl, ⟨h1.g hF, by rw [pv_u2, if_neg (by omega), pv_u2, if_neg (by omega)]; exact h2, by rw [pv_u2, if_neg (by omega), pv_u2, if_neg (by omega)]; exact h3, h4, k + 1, by omega, by rw [pv_u2, if_pos ⟨rfl, rfl⟩, pv_u2, if_neg (by omega), h6, nI_1]⟩, hF⟩
theorem rcC.exp {z : Sg} {t : Tok} {l : List Tok} {C : List Nat} (hf : 300 ≤ fu) (h : rcC T n z t l C) (hC : C.length ≤ 160) {k : Nat} (hk : k < 257) : (t.1 = k ∧ ∃ Z t' l', pD_expect fu (nI k) z = some Z ∧ l = t' :: l' ∧ rcC T n Z t' l' C ∧ FG z Z) ∨ (t.1 ≠ k ∧ ∃ Z, pD_expect fu (nI k) z = some Z ∧ rfC T n Z t.2.2.1 ∧ FG z Z) := by
  unfold pD_expect
  by_cases q : t.1 = k
  · rw [if_pos ((h.eq (by omega)).mpr q)]
    obtain ⟨Z, t', l', z1, z2, z3, z4⟩ := h.adv (fu := fu) hf (by omega)
    exact Or.inl ⟨q, Z, t', l', by rw [z1, pv_bndv], z2, z3, z4⟩
  · rw [if_neg (fun e => q ((h.eq (by omega)).mp e))]
    obtain ⟨Z, z1, z2, z3⟩ := h.fail (fu := fu) hC
    exact Or.inr ⟨q, Z, by rw [z1, pv_bndv], z2, z3⟩
theorem rfC.exp {z : Sg} {q k : Nat} (h : rfC T n z q) (hk : k < 258) : ∃ Z, pD_expect fu (nI k) z = some Z ∧ rfC T n Z q ∧ FG z Z := by
  unfold pD_expect
  rw [h.2.1, if_neg (show ¬ (258 : Int32) = nI k from fun e => by have := (pv_eq (a := 258) (by omega) (by omega)).mp e; omega)]
  obtain ⟨Z, z1, z2, z3⟩ := h.fail (fu := fu)
  exact ⟨Z, by rw [z1, pv_bndv], z2, z3⟩
/-- after a fault all is passed through -/
theorem passC (hf : 300 ≤ fu) : ∀ k i d o z q, i + k = 5 → k < d → rfC T n z q → ∃ Z, gRd fu d i o z = some Z ∧ rfC T n Z q ∧ FG z Z := by
  intro k
  induction k with
  | zero =>
    intro i d o z q h1 h2 h
    obtain ⟨d, rfl⟩ := fuS h2
    have : i = 5 := by omega
    subst this
    obtain ⟨Z, z1, z2, z3⟩ := h.fail (fu := fu)
    refine ⟨Z, ?_, z2, z3⟩
    show pD_readOne fu (gRd fu d) o z = _
    unfold pD_readOne pD_readOne_66
    rw [h.2.1, if_neg (by decide), if_neg (by decide), if_pos (by decide), if_neg (by decide), if_neg (by decide), z1, pv_bndv]
  | succ k ih =>
    intro i d o z q h1 h2 h
    obtain ⟨d, rfl⟩ := fuS h2
    obtain ⟨Z, z1, z2, z3⟩ := ih (i + 1) d o z q (by omega) (by omega) h
    have hk := z2.2.1
    obtain ⟨f, hfe⟩ := fuS (show 0 < fu by omega)
    have hi : i = 0 ∨ i = 1 ∨ i = 2 ∨ i = 3 ∨ i = 4 := by omega
    have z160 : ¬ (160 : Int32) ≤ 0 := by decide
    rcases hi with rfl | rfl | rfl | rfl | rfl
    · refine ⟨Z, ?_, z2, z3⟩
      show pD_readEither fu (gRd fu d) o z = _
      unfold pD_readEither
      rw [z1, pv_bndv]
      conv => lhs; arg 3; rw [hfe]
      rw [pD_readEither_7, if_neg z160, hk, if_neg (by decide)]
    · refine ⟨Z, ?_, z2, z3⟩
      show pD_readBoth fu (gRd fu d) o z = _
      unfold pD_readBoth
      rw [z1, pv_bndv]
      conv => lhs; arg 3; rw [hfe]
      rw [pD_readBoth_7, if_neg z160, hk, if_neg (by decide)]
    · refine ⟨Z, ?_, z2, z3⟩
      show pD_readNot fu (gRd fu d) o z = _
      unfold pD_readNot
      rw [h.2.1, if_neg (by decide), z1, pv_bndv, hk, if_neg (by decide), if_neg (by decide)]
    · refine ⟨Z, ?_, z2, z3⟩
      show pD_readSum fu (gRd fu d) o z = _
      unfold pD_readSum
      rw [z1, pv_bndv]
      conv => lhs; arg 3; rw [hfe]
      rw [pD_readSum_7, if_neg z160, hk, if_neg (by decide), if_neg (by decide)]
    · refine ⟨Z, ?_, z2, z3⟩
      show pD_readTerm fu (gRd fu d) o z = _
      unfold pD_readTerm
      rw [z1, pv_bndv]
      conv => lhs; arg 3; rw [hfe]
      rw [pD_readTerm_7, if_neg z160, hk, if_neg (by decide)]
end RDC
