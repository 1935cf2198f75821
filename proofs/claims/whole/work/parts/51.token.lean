/-! THE TAPE's tokens, told once for both -/
def letB (b : Int32) : Bool := !decide (b < 97) && !decide (122 < b)
def digB (b : Int32) : Bool := !decide (b < 48) && !decide (57 < b)
def blaB (b : Int32) : Bool := decide (b = 32) || decide (b = 10)
def sgB (b : Int32) : Bool := decide (b = 40) || decide (b = 41) || decide (b = 59) || decide (b = 43) || decide (b = 45) || decide (b = 42) || decide (b = 60) || decide (b = 61)
/-- over what comes of one sort, from a on, k at most -/
def tspM (Q : Int32 → Bool) (T : Nat → Int32) : Nat → Nat → Nat
  | 0, a => a
  | k + 1, a => if Q (T a) then tspM Q T k (a + 1) else a
theorem tspM_b (Q : Int32 → Bool) (T : Nat → Int32) : ∀ k a, a ≤ tspM Q T k a ∧ tspM Q T k a ≤ a + k ∧ (∀ i, a ≤ i → i < tspM Q T k a → Q (T i) = true) ∧ (tspM Q T k a < a + k → Q (T (tspM Q T k a)) = false) := by
  intro k
  induction k with
  | zero => intro a; exact ⟨Nat.le_refl _, Nat.le_refl _, fun i h1 h2 => absurd h2 (by show ¬ i < a; omega), fun h => absurd h (by show ¬ a < a + 0; omega)⟩
  | succ k ih =>
    intro a
    unfold tspM
    obtain ⟨h1, h2, h3, h4⟩ := ih (a + 1)
    cases hq : Q (T a) with
    | true =>
      rw [if_pos rfl]
      refine ⟨by omega, by omega, fun i i1 i2 => ?_, fun h => h4 (by omega)⟩
      by_cases e : i = a
      · rw [e]; exact hq
      · exact h3 i (by omega) i2
    | false =>
      rw [if_neg (by decide)]
      exact ⟨Nat.le_refl _, by omega, fun i i1 i2 => by omega, fun _ => hq⟩
/-- a number's value, its digits one by one -/
def nuI (T : Nat → Int32) : Nat → Nat → Int32 → Int32
  | 0, _, v => v
  | k + 1, p, v => nuI T k (p + 1) ((v * 10 + T p) - 48)
theorem nuI_b {T : Nat → Int32} : ∀ k p x m, (∀ i, p ≤ i → i < p + k → digB (T i) = true) → x < 10 ^ m → m + k ≤ 4 → ∃ y, y < 10 ^ (m + k) ∧ nuI T k p (nI x) = nI y := by
  intro k
  induction k with
  | zero => intro p x m _ h _; exact ⟨x, h, rfl⟩
  | succ k ih =>
    intro p x m hd hx hm
    have h1 := hd p (by omega) (by omega)
    unfold digB at h1
    simp only [Bool.and_eq_true, Bool.not_eq_true', decide_eq_false_iff_not] at h1
    have z48 : (48 : Int32).toInt = 48 := by decide
    have z0 : (0 : Int32).toInt = 0 := by decide
    obtain ⟨b, hb, eb⟩ := nI_of2 (M := 57) (n := 57) (x := T p) (by decide) (fun q => h1.1 (by rw [Int32.lt_iff_toInt_lt] at q ⊢; omega)) (by
      have := h1.2
      rw [Int32.lt_iff_toInt_lt] at this
      rw [Int32.le_iff_toInt_le]
      omega)
    have hb48 : 48 ≤ b := by
      have := h1.1
      rw [eb, l_48, pv_lt (by omega) (by omega)] at this
      omega
    have hx4 : 10 ^ m ≤ 10 ^ 4 := Nat.pow_le_pow_right (by omega) (by omega)
    have e10 : 10 ^ (m + 1) = 10 ^ m * 10 := Nat.pow_succ 10 m
    unfold nuI
    rw [eb, l_10, pk_mul, nI_add, l_48, pk_sub (by omega)]
    obtain ⟨y, y1, y2⟩ := ih (p + 1) (x * 10 + b - 48) (m + 1) (fun i i1 i2 => hd i (by omega) (by omega)) (by rw [e10]; omega) (by omega)
    exact ⟨y, by rw [show m + (k + 1) = m + 1 + k by omega]; exact y1, y2⟩
/-! words: the twelve, in the class's order -/
def wlN : List (List Nat) := [[115, 119, 105, 110, 103, 115], [116, 105, 114, 101, 115], [107, 101, 101, 112, 115], [111, 114], [97, 110, 100], [110, 111, 116], [98, 101, 97, 116], [115, 119, 105, 110, 103], [108, 101, 102, 116], [114, 105, 103, 104, 116], [116, 105, 114, 101, 100], [109, 111, 114, 101]]
def wSt (w : Nat) : Nat := [0, 7, 13, 19, 22, 26, 30, 35, 41, 46, 52, 58, 63].getD w 0
def wlL (w : Nat) : Nat := (wlN.getD w []).length
/-- whether the word w stands from p to e -/
def cmB (T : Nat → Int32) (p e w : Nat) : Bool := decide (wlL w = e - p) && (List.range (wlL w)).all (fun c => decide (nI ((wlN.getD w []).getD c 0) = T (p + c)))
def wkF (T : Nat → Int32) (p e : Nat) : Nat → Nat
  | 0 => 258
  | k + 1 => if cmB T p e k then k else wkF T p e k
def wkN (T : Nat → Int32) (p e : Nat) : Nat := wkF T p e 12
section TOKC
variable {fu n : Nat} {T : Nat → Int32}
/-- the tape in the class's reader -/
def tpC (z : Sg) (n : Nat) (T : Nat → Int32) : Prop := z 3 1 = nI n ∧ n ≤ 160 ∧ (∀ j, j < n → z 4 j = T j) ∧ ∀ j, j < n → bI 256 (T j)
/-- what a token's reading writes -/
def FA (z Z : Sg) : Prop := ∀ c j, ¬ (c = 3 ∧ 3 ≤ j ∧ j ≤ 6) → Z c j = z c j
theorem FA.rf {z : Sg} : FA z z := fun _ _ _ => rfl
theorem FA.tr {z Z Y : Sg} (h1 : FA z Z) (h2 : FA Z Y) : FA z Y := fun c j h => (h2 c j h).trans (h1 c j h)
theorem FA.u {z Z : Sg} {j : Nat} {v : Int32} (h : FA z Z) (hj : 3 ≤ j ∧ j ≤ 6) : FA z (u2 Z 3 j v) := fun a b hab => by
  rw [pv_u2, if_neg (by omega)]
  exact h a b hab
theorem tpC.a {z Z : Sg} (h : tpC z n T) (e : FA z Z) : tpC Z n T := ⟨by rw [e _ _ (by omega)]; exact h.1, h.2.1, fun j hj => by rw [e _ _ (by omega)]; exact h.2.2.1 j hj, h.2.2.2⟩
theorem letC (v : Int32) (z : Sg) : pD_isLetter fu v z = some (if letB v then 1 else 0, z) := by
  unfold pD_isLetter letB
  by_cases h1 : v < 97
  · simp [h1]
  · by_cases h2 : 122 < v <;> simp [h1, h2]
theorem digC (v : Int32) (z : Sg) : pD_isDigit fu v z = some (if digB v then 1 else 0, z) := by
  unfold pD_isDigit digB
  by_cases h1 : v < 48
  · simp [h1]
  · by_cases h2 : 57 < v <;> simp [h1, h2]
theorem blaC : ∀ k a f z, a + k = n → k < f → tpC z n T → z 3 3 = nI a → ∃ Z, pD_advance_0 fu f z = pD_advance_52 fu Z ∧ Z 3 3 = nI (tspM blaB T k a) ∧ ∀ c j, ¬ (c = 3 ∧ j = 3) → Z c j = z c j := by
  intro k
  induction k with
  | zero =>
    intro a f z h1 h2 h3 h4
    obtain ⟨f, rfl⟩ := fuS h2
    have hn := h3.2.1
    rw [pD_advance_0, h3.1, h4, if_pos (nI_le (by omega) (by omega))]
    exact ⟨z, rfl, h4, fun _ _ _ => rfl⟩
  | succ k ih =>
    intro a f z h1 h2 h3 h4
    obtain ⟨f, rfl⟩ := fuS h2
    have hn := h3.2.1
    have ez : ga z 4 (nI a) = T a := by rw [pv_ga (by omega)]; exact h3.2.2.1 a (by omega)
    have go : ∃ Z, pD_advance_39 fu (pD_advance_0 fu f) z = pD_advance_52 fu Z ∧ Z 3 3 = nI (tspM blaB T k (a + 1)) ∧ ∀ c j, ¬ (c = 3 ∧ j = 3) → Z c j = z c j := by
      unfold pD_advance_39
      rw [pv_letm, h4, nI_1]
      obtain ⟨Z, z1, z2, z3⟩ := ih (a + 1) f (u2 z 3 3 (nI (a + 1))) (by omega) (by omega) (h3.a (FA.rf.u (by omega))) (by rw [pv_u2, if_pos ⟨rfl, rfl⟩])
      exact ⟨Z, z1, z2, fun c j hc => by rw [z3 c j hc, pv_u2, if_neg hc]⟩
    rw [pD_advance_0, h3.1, h4, if_neg (nI_ge (by omega) (by omega)), pv_inb (by omega) (by omega), pv_chk, pv_chk, ez]
    unfold tspM
    by_cases q1 : T a = 32
    · rw [if_pos q1, show blaB (T a) = true from by unfold blaB; rw [decide_eq_true q1]; rfl, if_pos rfl]
      exact go
    · rw [if_neg q1]
      by_cases q2 : T a = 10
      · rw [if_pos q2, show blaB (T a) = true from by unfold blaB; rw [decide_eq_true q2, Bool.or_true], if_pos rfl]
        exact go
      · rw [if_neg q2, show blaB (T a) = false from by unfold blaB; rw [decide_eq_false q1, decide_eq_false q2]; rfl, if_neg (by decide)]
        exact ⟨z, rfl, h4, fun _ _ _ => rfl⟩
theorem lesC : ∀ k a f z, a + k = n → k < f → tpC z n T → z 3 3 = nI a → ∃ Z, pD_advanceWord_0 fu f z = pD_advanceWord_39 fu Z ∧ Z 3 3 = nI (tspM letB T k a) ∧ ∀ c j, ¬ (c = 3 ∧ j = 3) → Z c j = z c j := by
  intro k
  induction k with
  | zero =>
    intro a f z h1 h2 h3 h4
    obtain ⟨f, rfl⟩ := fuS h2
    have hn := h3.2.1
    rw [pD_advanceWord_0, h3.1, h4, if_pos (nI_le (by omega) (by omega))]
    exact ⟨z, rfl, h4, fun _ _ _ => rfl⟩
  | succ k ih =>
    intro a f z h1 h2 h3 h4
    obtain ⟨f, rfl⟩ := fuS h2
    have hn := h3.2.1
    have ez : ga z 4 (nI a) = T a := by rw [pv_ga (by omega)]; exact h3.2.2.1 a (by omega)
    rw [pD_advanceWord_0, h3.1, h4, if_neg (nI_ge (by omega) (by omega)), pv_inb (by omega) (by omega), pv_chk, ez, letC, pv_bnd, h4, nI_1, pv_letm]
    unfold tspM
    cases hq : letB (T a) with
    | true =>
      simp only [eq_self, if_true, show ((1 : Int32) = 0) = False from by decide, if_false]
      obtain ⟨Z, z1, z2, z3⟩ := ih (a + 1) f (u2 z 3 3 (nI (a + 1))) (by omega) (by omega) (h3.a (FA.rf.u (by omega))) (by rw [pv_u2, if_pos ⟨rfl, rfl⟩])
      exact ⟨Z, z1, z2, fun c j hc => by rw [z3 c j hc, pv_u2, if_neg hc]⟩
    | false =>
      simp only [eq_self, if_true, Bool.false_eq_true, if_false]
      exact ⟨z, rfl, h4, fun _ _ _ => rfl⟩
theorem disC : ∀ k a f z, a + k = n → k < f → tpC z n T → z 3 3 = nI a → ∃ Z, pD_advanceNumber_5 fu f z = pD_advanceNumber_68 fu Z ∧ Z 3 3 = nI (tspM digB T k a) ∧ Z 3 6 = nuI T (tspM digB T k a - a) a (z 3 6) ∧ ∀ c j, ¬ (c = 3 ∧ (j = 3 ∨ j = 6)) → Z c j = z c j := by
  intro k
  induction k with
  | zero =>
    intro a f z h1 h2 h3 h4
    obtain ⟨f, rfl⟩ := fuS h2
    have hn := h3.2.1
    rw [pD_advanceNumber_5, h3.1, h4, if_pos (nI_le (by omega) (by omega))]
    refine ⟨z, rfl, h4, ?_, fun _ _ _ => rfl⟩
    show _ = nuI T (a - a) a _
    rw [Nat.sub_self]
    rfl
  | succ k ih =>
    intro a f z h1 h2 h3 h4
    obtain ⟨f, rfl⟩ := fuS h2
    have hn := h3.2.1
    have ez : ga z 4 (nI a) = T a := by rw [pv_ga (by omega)]; exact h3.2.2.1 a (by omega)
    have z6 : ∀ v, (u2 z 3 6 v) 3 3 = nI a := fun v => by rw [pv_u2, if_neg (by omega)]; exact h4
    rw [pD_advanceNumber_5, h3.1, h4, if_neg (nI_ge (by omega) (by omega)), pv_inb (by omega) (by omega), pv_chk, ez, digC, pv_bnd]
    unfold tspM
    cases hq : digB (T a) with
    | true =>
      simp only [eq_self, if_true, show ((1 : Int32) = 0) = False from by decide, if_false]
      rw [h4, pv_inb (by omega) (by omega), pv_chk, pv_letm, pv_letm, ez, z6, nI_1]
      obtain ⟨Z, z1, z2, z3, z4⟩ := ih (a + 1) f (u2 (u2 z 3 6 (z 3 6 * 10 + T a - 48)) 3 3 (nI (a + 1))) (by omega) (by omega) (h3.a ((FA.rf.u (by omega)).u (by omega))) (by rw [pv_u2, if_pos ⟨rfl, rfl⟩])
      refine ⟨Z, z1, z2, ?_, fun c j hc => by rw [z4 c j hc, pv_u2, if_neg (by omega), pv_u2, if_neg (by omega)]⟩
      have hb := (tspM_b digB T k (a + 1)).1
      rw [z3, pv_u2, if_neg (by omega), pv_u2, if_pos ⟨rfl, rfl⟩]
      obtain ⟨d, hd⟩ : ∃ d, tspM digB T k (a + 1) - a = d + 1 := ⟨tspM digB T k (a + 1) - a - 1, by omega⟩
      rw [hd, show tspM digB T k (a + 1) - (a + 1) = d by omega]
      rfl
    | false =>
      simp only [eq_self, if_true, Bool.false_eq_true, if_false]
      refine ⟨z, rfl, h4, ?_, fun _ _ _ => rfl⟩
      rw [Nat.sub_self]
      rfl
/-! the class's list of words -/
theorem wch_tab : ∀ i, i < 63 → ((((jsB 1 (nI i)) &&& 255).toUInt32 % 65536).toInt32) = jsB 1 (nI i) ∧ isC (((((jsB 1 (nI i)) &&& 255).toUInt32 % 65536).toInt32)) = true := by decide +kernel
theorem chaC {i : Nat} (hi : i < 63) (z : Sg) : pJS_charAt fu 1 (nI i) z = some (jsB 1 (nI i), z) := by
  obtain ⟨t1, t2⟩ := wch_tab i hi
  unfold pJS_charAt pJS_isLatin1 pJL_charAt pJS_checkIndex pJP_checkIndex
  rw [if_neg (show ¬ (1 : Int32) = 0 by decide), if_pos (show (0 : Int32) = 0 from rfl), pv_bnd, if_neg (show ¬ (1 : Int32) = 0 by decide), if_neg (nI_pos (by omega)), show (jsLen.getD 1 0) = 63 from rfl, if_pos (nI_lt hi (by omega)), pv_bnd, pv_bndv, pv_inb hi (by omega), pv_chk, t2, pv_chk, pv_bnd, t2, pv_chk, t1]
theorem lenC (z : Sg) : pJS_length fu 1 z = some (nI 63, z) := by
  unfold pJS_length pJS_coder
  rw [if_neg (show ¬ (1 : Int32) = 0 by decide), pv_bnd]
  rfl
def eqW (T : Nat → Int32) (s p : Nat) : Nat → Nat → Bool
  | 0, _ => true
  | k + 1, i => decide (jsB 1 (nI i) = T (p + i - s)) && eqW T s p k (i + 1)
theorem iswC_loop {s p e : Nat} {z : Sg} (h3 : tpC z n T) (h5 : z 3 5 = nI p) (he : e ≤ 63) (hse : s ≤ e) (hp : p + (e - s) ≤ n) : ∀ k i f, i + k = e → k < f → s ≤ i → pD_isWordAt_19 fu f (nI s) (nI e) (nI i) z = some (if eqW T s p k i then 1 else 0, z) := by
  have hn := h3.2.1
  intro k
  induction k with
  | zero =>
    intro i f h1 h2 hs
    obtain ⟨f, rfl⟩ := fuS h2
    rw [pD_isWordAt_19, if_pos (nI_le (by omega) (by omega))]
    rfl
  | succ k ih =>
    intro i f h1 h2 hs
    obtain ⟨f, rfl⟩ := fuS h2
    rw [pD_isWordAt_19, if_neg (nI_ge (by omega) (by omega)), chaC (by omega), pv_bnd, h5, nI_add, pk_sub (by omega), pv_inb (by omega) (by omega), pv_chk, pv_ga (by omega), h3.2.2.1 _ (by omega), pv_letm, nI_1, ih (i + 1) f (by omega) (by omega) (by omega)]
    have ew : eqW T s p (k + 1) i = (decide (jsB 1 (nI i) = T (p + i - s)) && eqW T s p k (i + 1)) := rfl
    rw [ew]
    by_cases q : jsB 1 (nI i) = T (p + i - s)
    · rw [if_pos q, decide_eq_true q, Bool.true_and]
    · rw [if_neg q, decide_eq_false q, Bool.false_and, if_neg (by decide)]
theorem W_tab : ∀ w, w < 12 → wSt (w + 1) = wSt w + wlL w + 1 ∧ jsB 1 (nI (wSt w + wlL w)) = 32 ∧ (∀ c, c < wlL w → jsB 1 (nI (wSt w + c)) = nI ((wlN.getD w []).getD c 0) ∧ ¬ jsB 1 (nI (wSt w + c)) = 32) ∧ wSt w + wlL w < 63 ∧ wlL w ≤ 6 ∧ 1 ≤ wlL w := by decide +kernel
theorem eqW_cm {p w : Nat} (hw : w < 12) : ∀ k c, c + k = wlL w → eqW T (wSt w) p k (wSt w + c) = (List.range' c k).all (fun c => decide (nI ((wlN.getD w []).getD c 0) = T (p + c))) := by
  obtain ⟨t1, t2, t3, t4, t5, t6⟩ := W_tab w hw
  intro k
  induction k with
  | zero => intro c _; rfl
  | succ k ih =>
    intro c hc
    have ew : eqW T (wSt w) p (k + 1) (wSt w + c) = (decide (jsB 1 (nI (wSt w + c)) = T (p + (wSt w + c) - wSt w)) && eqW T (wSt w) p k (wSt w + c + 1)) := rfl
    rw [List.range'_succ, List.all_cons, ew, (t3 c (by omega)).1, show p + (wSt w + c) - wSt w = p + c by omega, show wSt w + c + 1 = wSt w + (c + 1) by omega, ih (c + 1) (by omega)]
theorem iswC {p e w : Nat} {z : Sg} (hf : 100 ≤ fu) (hw : w < 12) (h3 : tpC z n T) (h5 : z 3 5 = nI p) (h6 : z 3 3 = nI e) (hpe : p ≤ e) (hen : e ≤ n) : pD_isWordAt fu (nI (wSt w)) (nI (wSt w + wlL w)) z = some (if cmB T p e w then 1 else 0, z) := by
  have hn := h3.2.1
  obtain ⟨t1, t2, t3, t4, t5, t6⟩ := W_tab w hw
  unfold pD_isWordAt cmB
  rw [h5, h6, pk_sub (by omega), pk_sub hpe, Nat.add_sub_cancel_left]
  by_cases q : wlL w = e - p
  · rw [if_pos (by rw [q]), decide_eq_true q, Bool.true_and, iswC_loop (fu := fu) h3 h5 (by omega) (by omega) (by omega) (wlL w) (wSt w) fu (by omega) (by omega) (Nat.le_refl _)]
    have := eqW_cm (T := T) (p := p) hw (wlL w) 0 (by omega)
    rw [Nat.add_zero] at this
    rw [this, List.range_eq_range']
  · rw [if_neg (by rw [pv_eq (by omega) (by omega)]; exact q), decide_eq_false q, Bool.false_and, if_neg (by decide)]
/-- through the letters of a word of the list -/
theorem wseg {w0 s0 : Int32} {z : Sg} : ∀ k i f, (∀ j, i ≤ j → j < i + k → j < 63 ∧ ¬ jsB 1 (nI j) = 32) → k ≤ f → pD_advanceWord_52 fu f w0 s0 (nI i) z = pD_advanceWord_52 fu (f - k) w0 s0 (nI (i + k)) z := by
  intro k
  induction k with
  | zero => intro i f _ _; rfl
  | succ k ih =>
    intro i f h1 h2
    obtain ⟨f, rfl⟩ := fuS (show 0 < f by omega)
    have hi := h1 i (by omega) (by omega)
    rw [pD_advanceWord_52, lenC, pv_bnd, if_neg (nI_ge hi.1 (by omega)), chaC hi.1, pv_bnd, if_neg hi.2]
    unfold pD_advanceWord_93
    rw [pv_letm, nI_1, ih (i + 1) f (fun j j1 j2 => h1 j (by omega) (by omega)) (by omega), show f + 1 - (k + 1) = f - k by omega, show i + (k + 1) = i + 1 + k by omega]
theorem wloC {p e : Nat} (hf : 100 ≤ fu) (hpe : p ≤ e) (hen : e ≤ n) : ∀ k w f z, w + k = 12 → 63 - wSt w < f → tpC z n T → z 3 5 = nI p → z 3 3 = nI e → z 3 4 = nI (wkF T p e w) → ∃ Z, pD_advanceWord_52 fu f (nI w) (nI (wSt w)) (nI (wSt w)) z = some Z ∧ Z 3 4 = nI (wkN T p e) ∧ ∀ c j, ¬ (c = 3 ∧ j = 4) → Z c j = z c j := by
  intro k
  induction k with
  | zero =>
    intro w f z h1 h2 h3 h4 h5 h6
    have : w = 12 := by omega
    subst this
    obtain ⟨f, rfl⟩ := fuS (show 0 < f by omega)
    rw [pD_advanceWord_52, lenC, pv_bnd, if_pos (nI_le (show 63 ≤ wSt 12 by decide) (by decide))]
    exact ⟨z, rfl, h6, fun _ _ _ => rfl⟩
  | succ k ih =>
    intro w f z h1 h2 h3 h4 h5 h6
    obtain ⟨t1, t2, t3, t4, t5, t6⟩ := W_tab w (by omega)
    rw [wseg (wlL w) (wSt w) f (fun j j1 j2 => by
      obtain ⟨c, rfl⟩ : ∃ c, j = wSt w + c := ⟨j - wSt w, by omega⟩
      exact ⟨by omega, (t3 c (by omega)).2⟩) (by omega)]
    obtain ⟨f', hf'⟩ : ∃ g, f - wlL w = g + 1 := ⟨f - wlL w - 1, by omega⟩
    rw [hf', pD_advanceWord_52, lenC, pv_bnd, if_neg (nI_ge t4 (by omega)), chaC t4, pv_bnd, if_pos t2, iswC (by omega) (by omega) h3 h4 h5 hpe hen, pv_bnd]
    have h86 : ∀ y, pD_advanceWord_86 fu (pD_advanceWord_52 fu f') (nI w) (nI (wSt w + wlL w)) y = pD_advanceWord_52 fu f' (nI (w + 1)) (nI (wSt (w + 1))) (nI (wSt (w + 1))) y := fun y => by
      unfold pD_advanceWord_86 pD_advanceWord_93
      rw [pv_letm, pv_letm, pv_letm, nI_1, nI_1, t1]
    have hfu : 63 - wSt (w + 1) < f' := by omega
    have ek : wkF T p e (w + 1) = if cmB T p e w then w else wkF T p e w := rfl
    cases hc : cmB T p e w with
    | true =>
      simp only [eq_self, if_true, show ((1 : Int32) = 0) = False from by decide, if_false]
      rw [pv_letm, h86]
      rw [hc, if_pos rfl] at ek
      obtain ⟨Z, z1, z2, z3⟩ := ih (w + 1) f' (u2 z 3 4 (nI w)) (by omega) hfu (h3.a (FA.rf.u (by omega))) (by rw [pv_u2, if_neg (by omega)]; exact h4) (by rw [pv_u2, if_neg (by omega)]; exact h5) (by rw [pv_u2, if_pos ⟨rfl, rfl⟩, ek])
      exact ⟨Z, z1, z2, fun c j hcj => by rw [z3 c j hcj, pv_u2, if_neg hcj]⟩
    | false =>
      simp only [eq_self, if_true, Bool.false_eq_true, if_false]
      rw [h86]
      rw [hc, if_neg (by decide)] at ek
      exact ih (w + 1) f' z (by omega) hfu h3 h4 h5 (by rw [ek]; exact h6)
/-! the class's list of signs -/
def fgC (c : Int32) : Nat → Nat → Int32
  | 0, _ => -1
  | k + 1, i => if jsB 2 (nI i) = c then nI i else fgC c k (i + 1)
theorem fgC_loop {c : Int32} {z : Sg} : ∀ k i f, i + k = 8 → k < f → pJL_indexOfChar_7 fu 2 f (nI 8) c (nI i) z = some (fgC c k i, z) := by
  intro k
  induction k with
  | zero =>
    intro i f h1 h2
    obtain ⟨f, rfl⟩ := fuS h2
    rw [pJL_indexOfChar_7, if_pos (nI_le (by omega) (by omega))]
    rfl
  | succ k ih =>
    intro i f h1 h2
    obtain ⟨f, rfl⟩ := fuS h2
    rw [pJL_indexOfChar_7, if_neg (nI_ge (by omega) (by omega)), show jsLen.getD 2 0 = 8 from rfl, pv_inb (by omega) (by omega), pv_chk, pv_letm, nI_1, ih (i + 1) f (by omega) (by omega)]
    have ew : fgC c (k + 1) i = if jsB 2 (nI i) = c then nI i else fgC c k (i + 1) := rfl
    rw [ew]
    by_cases q : jsB 2 (nI i) = c
    · rw [if_pos q, if_pos q]
    · rw [if_neg q, if_neg q]
theorem sig_tab : ∀ x, x < 256 → (((nI x).toUInt32 % 65536).toInt32 = nI x) ∧ (fgC ((nI x).toInt8.toInt32) 8 0 < 0 ↔ sgB (nI x) = false) := by decide +kernel
theorem sigC (hf : 100 ≤ fu) {b : Int32} (hb : bI 256 b) (z : Sg) : ∃ i, pJS_indexOf fu 2 (((b).toUInt32 % 65536).toInt32) z = some (i, z) ∧ (i < 0 ↔ sgB b = false) := by
  obtain ⟨x, hx, rfl⟩ := hb
  obtain ⟨t1, t2⟩ := sig_tab x hx
  refine ⟨_, ?_, t2⟩
  rw [t1]
  unfold pJS_indexOf pJS_indexOf2 pJS_isLatin1 pJS_length pJS_coder pJL_indexOf pJL_canEncode pJL_indexOfChar
  rw [if_neg (show ¬ (1 : Int32) = 0 by decide), if_pos (show (0 : Int32) = 0 from rfl), pv_bnd, if_neg (show ¬ (1 : Int32) = 0 by decide), if_neg (show ¬ (1 : Int32) = 0 by decide), pv_bnd, pv_bnd, if_neg (nI_pos (by omega)), if_neg (show ¬ (255 : Int32) < nI x from nI_nlt (a := 255) (by omega) (by omega)), pv_bnd, if_neg (show ¬ (1 : Int32) = 0 by decide), pv_letm, pv_letm, if_neg (show ¬ (0 : Int32) < 0 by decide), show jsLen.getD 2 0 = 8 from rfl, show nI 8 >>> ((0 : Int32) &&& 31) = nI 8 from by decide, if_neg (show ¬ nI 8 < nI 8 from nI_nlt (Nat.le_refl _) (by omega)), if_pos (show (0 : Int32) < nI 8 by decide), pv_letm, show (0 : Int32) = nI 0 from rfl, fgC_loop (fu := fu) 8 0 fu (by omega) (by omega), pv_bnd, pv_bnd, pv_bnd]
end TOKC
