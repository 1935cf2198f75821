/-! the reference's orders -/
def mkM (n : Nat) : Nat → Nat → Nat → Nat
  | 0, _, M => M
  | k + 1, x, M => mkM n k (x / n) (M ||| 1 <<< (x % n))
def pcN (M : Nat) : Nat := (if M.testBit 0 then 1 else 0) + (if M.testBit 1 then 1 else 0) + (if M.testBit 2 then 1 else 0) + (if M.testBit 3 then 1 else 0) + (if M.testBit 4 then 1 else 0) + (if M.testBit 5 then 1 else 0)
theorem pc_tab : ∀ M, M < 64 → onV (nI M) = nI (pcN M) ∧ pcN M ≤ 6 := by decide +kernel
theorem mk_tab : ∀ M, M < 64 → ∀ m, m < 6 → nI M ||| (1 <<< (nI m &&& 31)) = nI (M ||| 1 <<< m) ∧ (M ||| 1 <<< m) < 64 ∧ pcN (M ||| 1 <<< m) = pcN M + (if M.testBit m then 0 else 1) := by decide +kernel
theorem mkM_ok {n : Nat} (h0 : 0 < n) (hn : n ≤ 6) : ∀ k x M, M < 64 → mkM n k x M < 64 ∧ pcN (mkM n k x M) ≤ pcN M + k ∧ (pcN (mkM n k x M) = pcN M + k ↔ okD n k x M = true) := by
  intro k
  induction k with
  | zero => intro x M hM; exact ⟨hM, Nat.le_refl _, by simp [mkM, okD]⟩
  | succ k ih =>
    intro x M hM
    have hm : x % n < 6 := Nat.lt_of_lt_of_le (Nat.mod_lt _ h0) hn
    obtain ⟨t1, t2, t3⟩ := mk_tab M hM (x % n) hm
    obtain ⟨i1, i2, i3⟩ := ih (x / n) _ t2
    refine ⟨i1, ?_, ?_⟩
    · show pcN (mkM n k (x / n) (M ||| 1 <<< (x % n))) ≤ pcN M + (k + 1)
      rw [t3] at i2
      split at i2 <;> omega
    · show pcN (mkM n k (x / n) (M ||| 1 <<< (x % n))) = pcN M + (k + 1) ↔ (!M.testBit (x % n) && okD n k (x / n) (M ||| 1 <<< (x % n))) = true
      rw [t3] at i2 i3
      cases hb : M.testBit (x % n) with
      | true =>
        rw [hb, if_pos rfl] at i2
        simp only [Bool.not_true, Bool.false_and, Bool.false_eq_true, iff_false]
        omega
      | false =>
        rw [hb, if_neg (by decide)] at i3
        simp only [Bool.not_false, Bool.true_and]
        rw [← i3]
        omega
section ORM
variable {fu n lw tc ts : Nat} {F : Nat → Nat → Int32} {K : Nat → Int32} {C E : Nat → Nat → Nat}
theorem tkMr_loop (hf : 10 ≤ fu) (hn : n ≤ 6) {y : Sg} (hy : rM y n lw F K) {full : List Nat} (hfl : full.length = n) : ∀ k p f (l : List Nat) (z : Sg), p + k = 10 → k < f → l ++ tkM (tkF n F) k p = full → (∀ i, i < l.length → z 98 i = nI (l.getD i 0)) → (∀ c j, c ≠ 98 → z c j = y c j) → ∃ Z, pM_tellsTaken_4 fu f (nI l.length) (nI p) z = some Z ∧ (∀ i, i < n → Z 98 i = nI (full.getD i 0)) ∧ (∀ c j, c ≠ 98 → Z c j = y c j) := by
  intro k
  induction k with
  | zero =>
    intro p f l z h1 h2 h3 h5 h6
    obtain ⟨f, rfl⟩ := fuS h2
    have e : l = full := by rw [← h3]; simp [tkM]
    subst e
    rw [pM_tellsTaken_4, if_pos (show (10 : Int32) ≤ nI p from nI_le (a := 10) (by omega) (by omega))]
    exact ⟨z, rfl, fun i hi => h5 i (by omega), h6⟩
  | succ k ih =>
    intro p f l z h1 h2 h3 h5 h6
    obtain ⟨f, rfl⟩ := fuS h2
    have hln : l.length + (tkM (tkF n F) (k + 1) p).length = n := by rw [← List.length_append, h3, hfl]
    have hz : rM z n lw F K := hy.at (fun c j hc => h6 c j (by omega))
    rw [pM_tellsTaken_4, if_neg (show ¬ (10 : Int32) ≤ nI p from nI_ge (b := 10) (by omega) (by omega)), whoMr hz hn hf, pv_bnd]
    unfold pM_tellsTaken_29
    rw [pv_letm, nI_1]
    unfold tkM at h3 hln
    rcases who_at (F := F) (n := n) (nI p) with ⟨e, -⟩ | ⟨j, hj, e, -⟩
    · have hfp : tkF n F p = false := by unfold tkF gaO; rw [e]; rfl
      rw [hfp, if_neg (by decide)] at h3
      rw [e, if_pos rfl]
      exact ih (p + 1) f l z (by omega) (by omega) h3 h5 h6
    · have hfp : tkF n F p = true := by unfold tkF gaO; rw [e, decide_eq_false (fun w => (pv_neg1 (by omega)).mp w)]; rfl
      rw [hfp, if_pos rfl] at h3 hln
      rw [List.length_cons] at hln
      rw [e, if_neg (fun w => (pv_neg1 (by omega)).mp w), pv_inb (by omega) (by omega), pv_chk, pv_letm, pv_letm, pv_letm, pv_sa (by omega), nI_1]
      have := ih (p + 1) f (l ++ [p]) (u2 z 98 l.length (nI p)) (by omega) (by omega) (by rw [List.append_assoc]; exact h3) (fun i hi => ?_) (fun c j hc => by rw [pv_u2, if_neg (by omega)]; exact h6 c j hc)
      · rw [List.length_append, List.length_singleton] at this
        exact this
      · rw [List.length_append, List.length_singleton] at hi
        by_cases e : i = l.length
        · subst e
          rw [pv_u2, if_pos ⟨rfl, rfl⟩]
          simp
        · rw [pv_u2, if_neg (by omega), gd_app _ _ _ (by omega)]
          exact h5 i (by omega)
theorem tkMr (hf : 20 ≤ fu) (hn : n ≤ 6) {z : Sg} (hz : rM z n lw F K) (hl : (tkM (tkF n F) 10 0).length = n) : ∃ Z, pM_tellsTaken fu z = some Z ∧ (∀ i, i < n → Z 98 i = nI (tkT n F i)) ∧ (∀ c j, c ≠ 98 → Z c j = z c j) := by
  unfold pM_tellsTaken
  exact tkMr_loop (fu := fu) (by omega) hn hz hl 10 0 fu [] z (by omega) (by omega) rfl (fun i hi => absurd hi (by simp)) (fun _ _ _ => rfl)
theorem pw_loop {z : Sg} (h0 : 0 < n) (hn : n ≤ 6) (hz : z 78 0 = nI n) {q v2 : Int32} : ∀ k i f, i + k = n → k < f → pM_order_40 fu f q v2 (nI (n ^ i)) (nI i) z = pM_order_71 fu fu q v2 (nI (n ^ n)) (-1) (-1) 0 z := by
  intro k
  induction k with
  | zero =>
    intro i f h1 h2
    obtain ⟨f, rfl⟩ := fuS h2
    rw [pM_order_40, hz, if_pos (nI_le (by omega) (by omega)), show i = n by omega]
  | succ k ih =>
    intro i f h1 h2
    obtain ⟨f, rfl⟩ := fuS h2
    rw [pM_order_40, hz, if_neg (nI_ge (by omega) (by omega)), pv_letm, pv_letm, pk_mul, nI_1, ← Nat.pow_succ]
    exact ih (i + 1) f (by omega) (by omega)
theorem orsMr_loop (hf : 20 ≤ fu) (h0 : 0 < n) (hn : n ≤ 6) {T : Nat → Nat} {x : Nat} (hxb : x < 2147483648) {y : Sg} (h78 : y 78 0 = nI n) (h98 : ∀ i, i < n → y 98 i = nI (T i)) : ∀ k f M t a z, k ≤ n → k < f → M < 64 → z 78 32 = nI a → (∀ c j, ¬ (c = 81 ∧ j < 18 ∧ j % 3 = 0) → ¬ (c = 78 ∧ j = 32) → z c j = y c j) → (okX n x = true → ∀ m, m < n → z 81 (3 * m) = if k ≤ ixM n x m then nI (T (ixM n x m)) else y 81 (3 * m)) → ∃ Z, pM_orders_20 fu f (nI (x / n ^ (n - k))) (nI M) (nI t) (nI k - 1) z = some (if onV (nI (mkM n k (x / n ^ (n - k)) M)) = nI n then 1 else 0, Z) ∧ Z 78 32 = nI (smM n x k t a) ∧ (∀ c j, ¬ (c = 81 ∧ j < 18 ∧ j % 3 = 0) → ¬ (c = 78 ∧ j = 32) → Z c j = y c j) ∧ (okX n x = true → ∀ m, m < n → Z 81 (3 * m) = nI (T (ixM n x m))) := by
  intro k
  induction k with
  | zero =>
    intro f M t a z hk h2 hM h3 h4 h5
    obtain ⟨f, rfl⟩ := fuS h2
    rw [pM_orders_20, if_pos (show nI 0 - 1 < 0 by decide), on_eq (by omega), pv_bnd, h4 78 0 (by omega) (by omega), h78]
    refine ⟨z, ?_, h3, h4, fun hx m hm => by rw [h5 hx m hm, if_pos (by omega)]⟩
    show (if onV (nI M) = nI n then some ((1 : Int32), z) else some (0, z)) = some ((if onV (nI M) = nI n then 1 else 0), z)
    split <;> rfl
  | succ k ih =>
    intro f M t a z hk h2 hM h3 h4 h5
    obtain ⟨f, rfl⟩ := fuS h2
    have e78 : z 78 0 = nI n := by rw [h4 78 0 (by omega) (by omega)]; exact h78
    have e98 : ga z 98 (nI k) = nI (T k) := by rw [pv_ga (by omega), h4 98 k (by omega) (by omega)]; exact h98 k (by omega)
    have hl : x / n ^ (n - (k + 1)) < 2147483648 := Nat.lt_of_le_of_lt (Nat.div_le_self _ _) hxb
    have hm : x / n ^ (n - (k + 1)) % n < n := Nat.mod_lt _ h0
    have edg : x / n ^ (n - (k + 1)) % n = dg n x k := by unfold dg; rw [show n - 1 - k = n - (k + 1) by omega]
    have hdiv : x / n ^ (n - (k + 1)) / n = x / n ^ (n - k) := by
      rw [Nat.div_div_eq_div_mul, ← Nat.pow_succ, show (n - (k + 1)).succ = n - k by omega]
    obtain ⟨t1, t2, t3⟩ := mk_tab M hM (x / n ^ (n - (k + 1)) % n) (by omega)
    have nz : (!decide (nI n = 0)) = true := by rw [decide_eq_false (nI_ne0 h0 (by omega))]; rfl
    have w5 : (if (0 : Int32) ≤ nI (x / n ^ (n - (k + 1)) % n) then (if nI (x / n ^ (n - (k + 1)) % n) ≤ 5 then nI (x / n ^ (n - (k + 1)) % n) else 5) else 0) = nI (x / n ^ (n - (k + 1)) % n) := by
      rw [if_pos (nI_pos' (by omega)), if_pos (show nI (x / n ^ (n - (k + 1)) % n) ≤ 5 from nI_le (b := 5) (by omega) (by omega))]
    have e32 : ∀ v, (u2 z 81 (3 * (x / n ^ (n - (k + 1)) % n)) v) 78 32 = nI a := fun v => by rw [pv_u2, if_neg (by omega)]; exact h3
    rw [pM_orders_20, nI_pred, if_neg (nI_pos (by omega)), e78, nz, pv_chk, pk_rem hl h0 (by omega), cl_within, pv_bnd, w5, e78, nz, pv_chk, pv_letm, pv_letm, pk_div hl h0 (by omega), hdiv, t1, pv_inb (by omega) (by omega), pv_chk, l_3, pk_mul, pv_inb (by omega) (by omega), pv_chk, pv_letm, pv_letm, pv_letm, pv_letm, pv_sa (by omega), e98, e32, nI_1, pk_mul, nI_add, l_10, pk_mul, show nI k + (-1) = nI k - 1 from (Int32.sub_eq_add_neg _ _).symm]
    have hmk : mkM n (k + 1) (x / n ^ (n - (k + 1))) M = mkM n k (x / n ^ (n - k)) (M ||| 1 <<< (x / n ^ (n - (k + 1)) % n)) := by
      show mkM n k (x / n ^ (n - (k + 1)) / n) _ = _
      rw [hdiv]
    rw [hmk]
    have hsm : smM n x (k + 1) t a = smM n x k (t * 10) (a + t * (x / n ^ (n - (k + 1)) % n + 1)) := by
      show smM n x k (t * 10) (a + t * (dg n x k + 1)) = _
      rw [edg]
    rw [hsm]
    refine ih f _ (t * 10) (a + t * (x / n ^ (n - (k + 1)) % n + 1)) _ (by omega) (by omega) t2 (by rw [pv_u2, if_pos ⟨rfl, rfl⟩]) (fun c j c1 c2 => ?_) (fun hx m hmn => ?_)
    · rw [pv_u2, if_neg c2, pv_u2, if_neg (by omega)]; exact h4 c j c1 c2
    · have d1 := okX_2 hx (i := k) (by omega)
      have m1 := okX_1 hx hmn
      rw [pv_u2, if_neg (by omega), edg]
      by_cases e : m = dg n x k
      · subst e
        rw [pv_u2, if_pos ⟨rfl, rfl⟩, d1.2, if_pos (Nat.le_refl _)]
      · have : ixM n x m ≠ k := fun q => e (by rw [← q]; exact m1.2.symm)
        rw [pv_u2, if_neg (by omega), h5 hx m hmn]
        by_cases q : k ≤ ixM n x m
        · rw [if_pos q, if_pos (by omega)]
        · rw [if_neg q, if_neg (by omega)]
theorem orMr_loop (hf : 50000 ≤ fu) (h0 : 0 < n) {y : Sg} (h : InvP y n lw tc ts F K C E) {q : Nat} (hq : q ≤ 6) {T : Nat → Nat} (hT : ∀ i, i < n → T i < 10) {v2 : Int32} (hNN : n ^ n < 49000) : ∀ k x f b m (z : Sg), x + k = n ^ n → k < f → (∀ c j, ¬ (94 ≤ c ∧ c ≤ 98) → ¬ (c = 78 ∧ j = 32) → z c j = y c j) → (∀ i, i < n → z 98 i = nI (T i)) → ∃ Z, pM_order_71 fu f (nI q) v2 (nI (n ^ n)) b m (nI x) z = some (an2 v2 (orM (ovM (saM (C lw) (E lw)) n q T F K) (odg n) (fltM n k x) b m), Z) ∧ EqR y Z := by
  have hn := h.1.2.2.1.1
  intro k
  induction k with
  | zero =>
    intro x f b m z h1 h2 h3 h4
    obtain ⟨f, rfl⟩ := fuS h2
    rw [pM_order_71, if_pos (nI_le (by omega) (by omega))]
    refine ⟨z, ?_, fun c j hc => h3 c j (fun w => hc (by unfold QM; omega)) (fun w => hc (by unfold QM; omega))⟩
    show _ = some (if v2 = 0 then b else m, z)
    split <;> rfl
  | succ k ih =>
    intro x f b m z h1 h2 h3 h4
    obtain ⟨f, rfl⟩ := fuS h2
    obtain ⟨w, w1, w2⟩ := keepMr (fu := fu) (by omega) z
    have rz : rM z n lw F K := h.1.2.1.at (fun c j hc => h3 c j (by omega) (by omega))
    have lz : lM z lw (C lw) (E lw) := h.lM.at (fun c j hc => h3 c j (by omega) (by omega))
    have rw' := rz.kpt w2
    obtain ⟨O, o1, o2, o3, o4⟩ := orsMr_loop (fu := fu) (by omega) h0 hn (T := T) (x := x) (by omega) (y := u2 w 78 32 0) (by rw [pv_u2, if_neg (by omega)]; exact rw'.1) (fun i hi => by rw [pv_u2, if_neg (by omega), w2.1 98 i (by omega)]; exact h4 i hi) n fu 0 1 0 (u2 w 78 32 0) (Nat.le_refl n) (by omega) (by omega) (by rw [pv_u2, if_pos ⟨rfl, rfl⟩]; rfl) (fun _ _ _ _ => rfl) (fun hx m hm => by rw [if_neg (by have := (okX_1 hx hm).1; omega)])
    rw [Nat.sub_self, Nat.pow_zero, Nat.div_one] at o1
    have hor : pM_orders fu (nI x) w = some (if onV (nI (mkM n n x 0)) = nI n then 1 else 0, O) := by
      unfold pM_orders
      rw [pv_letm, pv_letm, show (u2 w 78 32 0) 78 0 = nI n from by rw [pv_u2, if_neg (by omega)]; exact rw'.1]
      exact o1
    obtain ⟨mk1, mk2, mk3⟩ := mkM_ok h0 hn n x 0 (by omega)
    rw [show pcN 0 = 0 from by decide, Nat.zero_add] at mk2 mk3
    have hon : onV (nI (mkM n n x 0)) = nI n ↔ okD n n x 0 = true := by
      rw [← mk3, (pc_tab _ mk1).1, pv_eq (by omega) (by omega)]
    have eO : ∀ c j, ¬ (c = 81 ∧ j < 18 ∧ j % 3 = 0) → ¬ (c = 78 ∧ j = 32) → O c j = w c j := fun c j c1 c2 => by rw [o3 c j c1 c2, pv_u2, if_neg c2]
    -- laid back
    have back : ∀ Y : Sg, (∀ c j, c ≠ 94 → c ≠ 95 → c ≠ 96 → (c ≠ 81 ∨ 18 ≤ j) → (c ≠ 82 ∨ 4 ≤ j) → ¬ (c = 78 ∧ j = 32) → Y c j = w c j) → ∃ Z, pM_lays fu Y = some Z ∧ ∀ c j, ¬ (94 ≤ c ∧ c ≤ 97) → ¬ (c = 78 ∧ j = 32) → Z c j = z c j := fun Y eY => by
      obtain ⟨Z, z1, z2, z3, z4⟩ := layMr1 (fu := fu) (y := Y) (by omega) 18 0 fu Y (by omega) (by omega) (fun _ _ _ => rfl) (fun j hj => absurd hj (by omega))
      refine ⟨Z, z1, fun c j c1 c2 => ?_⟩
      by_cases e1 : c = 81 ∧ j < 18
      · obtain ⟨rfl, hj⟩ := e1
        rw [z3 j hj, eY 97 j (by omega) (by omega) (by omega) (by omega) (by omega) (by omega)]; exact w2.2.1 j hj
      · by_cases e2 : c = 82 ∧ j < 5
        · obtain ⟨rfl, hj⟩ := e2
          rw [z4 j hj, eY 97 _ (by omega) (by omega) (by omega) (by omega) (by omega) (by omega)]; exact w2.2.2 j hj
        · rw [z2 c j (by omega) (by omega), eY c j (by omega) (by omega) (by omega) (by omega) (by omega) c2]; exact w2.1 c j (by omega)
    have next : ∀ (Y : Sg) b' m', (∀ c j, c ≠ 94 → c ≠ 95 → c ≠ 96 → (c ≠ 81 ∨ 18 ≤ j) → (c ≠ 82 ∨ 4 ≤ j) → ¬ (c = 78 ∧ j = 32) → Y c j = w c j) → ∃ Z, pM_order_131 fu (pM_order_71 fu f) (nI q) v2 (nI (n ^ n)) b' m' (nI x) Y = some (an2 v2 (orM (ovM (saM (C lw) (E lw)) n q T F K) (odg n) (fltM n k (x + 1)) b' m'), Z) ∧ EqR y Z := fun Y b' m' eY => by
      obtain ⟨Z, z1, z2⟩ := back Y eY
      unfold pM_order_131
      rw [z1, pv_bndv, pv_letm, nI_1]
      exact ih (x + 1) f b' m' Z (by omega) (by omega) (fun c j c1 c2 => by rw [z2 c j (by omega) c2]; exact h3 c j c1 c2) (fun i hi => by rw [z2 98 i (by omega) (by omega)]; exact h4 i hi)
    rw [pM_order_71, if_neg (nI_ge (by omega) (by omega)), w1, pv_bndv, hor, pv_bnd, flt_s]
    by_cases hv : okD n n x 0 = true
    · have hx := okD_X h0 hn (by omega) hv
      have hb0 := h.bs (fu := fu) (by omega)
      have hb : bs fu n lw (poG T n x F n) K (C lw) (E lw) := ⟨hb0.1, hb0.2.1, hb0.2.2.1, hb0.2.2.2.1, poG_b hT hx hb0.2.2.2.2⟩
      have rO : rM O n lw (poG T n x F n) K := by
        obtain ⟨a1, a2, a3, a4, a5, a6, a7, a8, a9, a10, a11⟩ := rw'
        refine ⟨by rw [eO _ _ (by omega) (by omega)]; exact a1, by rw [eO _ _ (by omega) (by omega)]; exact a2, fun m hm => ?_, fun m hm => by rw [eO _ _ (by omega) (by omega)]; exact a4 m hm, fun m hm => by rw [eO _ _ (by omega) (by omega)]; exact a5 m hm, fun m hm => by rw [eO _ _ (by omega) (by omega)]; exact a6 m hm, fun m hm => by rw [eO _ _ (by omega) (by omega)]; exact a7 m hm, by rw [eO _ _ (by omega) (by omega)]; exact a8, by rw [eO _ _ (by omega) (by omega)]; exact a9, by rw [eO _ _ (by omega) (by omega)]; exact a10, by rw [eO _ _ (by omega) (by omega)]; exact a11⟩
        rw [o4 hx m hm]
        show _ = if ixM n x m < n then nI (T (ixM n x m)) else F 0 m
        rw [if_pos (okX_1 hx hm).1]
      have lO : lM O lw (C lw) (E lw) := (lz.kpt w2).at (fun c j hc => eO c j (by omega) (by omega))
      obtain ⟨G, g1, g2, g3⟩ := goMr (fu := fu) (q := q) (by omega) (poG T n x F n, K) hb rO lO
      have eG : ∀ c j, c ≠ 94 → c ≠ 95 → c ≠ 96 → (c ≠ 81 ∨ 18 ≤ j) → (c ≠ 82 ∨ 4 ≤ j) → ¬ (c = 78 ∧ j = 32) → G c j = w c j := fun c j c1 c2 c3 c4 c5 c6 => by
        rw [g3 c j c1 c2 c3 c4 c5]; exact eO c j (by omega) c6
      have g32 : G 78 32 = odg n x := by rw [g3 78 32 (by omega) (by omega) (by omega) (by omega) (by omega)]; exact o2
      rw [if_pos (hon.mpr hv), if_neg (by decide), g1, pv_bnd, if_pos hv, g32]
      unfold pM_order_113 pM_order_129
      show ∃ Z, _ = some (an2 v2 (if suM (saM (C lw) (E lw)) n q (poG T n x F n, K) 0 ≤ m then orM (ovM (saM (C lw) (E lw)) n q T F K) (odg n) (fltM n k (x + 1)) b m else orM (ovM (saM (C lw) (E lw)) n q T F K) (odg n) (fltM n k (x + 1)) (odg n x) (suM (saM (C lw) (E lw)) n q (poG T n x F n, K) 0)), Z) ∧ _
      by_cases g : suM (saM (C lw) (E lw)) n q (poG T n x F n, K) 0 ≤ m
      · rw [if_pos g, if_pos g, if_pos g]
        exact next G b m eG
      · rw [if_neg g, if_neg g, if_neg g]
        exact next G _ _ eG
    · rw [if_neg (fun q => hv (hon.mp q)), if_pos rfl, if_neg hv]
      exact next O b m (fun c j _ _ _ c4 _ c6 => eO c j (by omega) c6)
end ORM
theorem LO_hd {n : Nat} (h0 : 0 < n) (hn : n ≤ 6) : ∃ x r, LO n = x :: r ∧ ∀ i, i < n → dg n x i = i := by
  rcases (show n = 1 ∨ n = 2 ∨ n = 3 ∨ n = 4 ∨ n = 5 ∨ n = 6 by omega) with rfl | rfl | rfl | rfl | rfl | rfl
  · exact ⟨_, _, rfl, by decide +kernel⟩
  · exact ⟨_, _, rfl, by decide +kernel⟩
  · exact ⟨_, _, rfl, by decide +kernel⟩
  · exact ⟨_, _, rfl, by decide +kernel⟩
  · exact ⟨_, _, rfl, by decide +kernel⟩
  · exact ⟨_, _, rfl, by decide +kernel⟩
theorem su_0 (L : LT) : ∀ k s, suM L 0 k s 0 = 0 := by
  intro k
  induction k with
  | zero => intro s; rfl
  | succ k ih => intro s; exact ih _
theorem st_order {fu : Nat} (hf : 50000 ≤ fu) (z : Sg) (a1 a2 : Int32) (h : Inv z) : ∃ (r : Int32) (z1 z2 : Sg), pS_order fu a1 a2 z = some (r, z1) ∧ pM_order fu a1 a2 z1 = some (r, z2) ∧ Inv z2 := by
  obtain ⟨n, lw, tc, ts, F, K, C, E, h⟩ := h
  have hI : Inv z := ⟨n, lw, tc, ts, F, K, C, E, h⟩
  have hn := h.1.2.2.1.1
  rcases wi_cases (M := 6) (k := 6) rfl (by omega) a1 with ⟨c1, c2⟩ | ⟨q, hq, rfl, c1, c2⟩
  · exact ⟨-2, z, z, by unfold pS_order; rw [c1, pv_bnd, if_pos rfl], by unfold pM_order; rw [c2, pv_bnd, if_pos rfl], hI⟩
  · rcases wi_cases (M := 1) (k := 1) rfl (by omega) a2 with ⟨e1, e2⟩ | ⟨v, hv, rfl, e1, e2⟩
    · exact ⟨-2, z, z, by unfold pS_order; rw [c1, pv_bnd, if_neg (by decide), e1, pv_bnd, if_pos rfl], by unfold pM_order; rw [c2, pv_bnd, if_neg (by decide), e2, pv_bnd, if_pos rfl], hI⟩
    · have hl : (tkM (tkF n F) 10 0).length = n := tk_n n hn h.1.2.2.1.2.1.1 h.1.2.2.1.2.2.2
      obtain ⟨Y, y1, y2, y3, y4⟩ := clrC (fu := fu) z
      have hY := h.i y2.i
      obtain ⟨B, b1, b2, b3, b4⟩ := begC (fu := fu) (by omega) hn hY.1.1 hl
      have eB : EqQ z B := y2.tr (fun c j hc => b4 c j (fun w => hc (by unfold QC; omega)))
      have b5 : B 5 0 = -1 ∧ B 5 1 = -1 := ⟨by rw [b4 5 0 (by omega)]; exact y3, by rw [b4 5 1 (by omega)]; exact y4⟩
      have pre : pS_order fu (nI q) (nI v) z = pS_order_43 fu fu (nI q) (nI v) 1 0 B := by
        unfold pS_order
        rw [c1, pv_bnd, if_neg (by decide), e1, pv_bnd, if_neg (by decide), y1, pv_bndv, b1, pv_bndv]
      by_cases h0 : n = 0
      · subst h0
        refine ask2 h 0 ?_ (fun y hy _ => ⟨y, ?_, EqR.rf⟩)
        · have hB := h.i eB.i
          obtain ⟨T1, t1, t2, t3, t4⟩ := becC (fu := fu) (r := 20) (r2 := 9) (Or.inr (Or.inl rfl)) (Or.inl rfl) (by omega) (by omega) hn hB.1.1
          have hb := hB.bs (fu := fu) (by omega)
          have lT : lC T1 (42 + 4 * lw) (C lw) (E lw) := lc_q hb.2.1 hB.lC t4.q20
          obtain ⟨D, d1, d2, d3⟩ := cutC (fu := fu) (Or.inr (Or.inl rfl)) (q := q) (by omega) (F, K) hb t2 lT
          have t6 : T1 6 2 = nI 0 := by rw [t4 6 2 (by omega)]; exact b2
          have d6 : D 6 2 = nI 0 := by rw [d3 6 2 (by unfold SW SC; omega)]; exact t6
          have d5 : D 5 0 = -1 ∧ D 5 1 = -1 := ⟨by rw [d3 5 0 (by unfold SW SC; omega), t4 5 0 (by omega)]; exact b5.1, by rw [d3 5 1 (by unfold SW SC; omega), t4 5 1 (by omega)]; exact b5.2⟩
          obtain ⟨f, rfl⟩ : ∃ f, fu = f + 2 := ⟨fu - 2, by omega⟩
          have g6 : (u2 (u2 D 5 0 0) 5 1 0) 6 2 = nI 0 := by rw [pv_u2, if_neg (by omega), pv_u2, if_neg (by omega)]; exact d6
          refine ⟨u2 (u2 D 5 0 0) 5 1 0, ?_, ((eB.tr t4.q20).tr d3.q20).tr (eq_u (eq_u EqQ.rf (by unfold QC; omega)) (by unfold QC; omega))⟩
          rw [pre, pS_order_43, if_neg (by decide), if_neg (by decide), t1, pv_bndv]
          unfold pO_seat pO_digits pB_offer pO_goesOn
          rw [pO_seat_2, t6, if_pos (by decide), pv_bndv, pO_digits_4, t6, if_pos (by decide), pv_bnd, d1, pv_bnd, su_0, if_neg (show ¬ (0 : Int32) ≤ D 5 1 by rw [d5.2]; decide), pv_letm, pv_letm, pv_bndv, pv_letm, g6, pO_goesOn_7, if_pos (show nI 0 - 2 < 0 by decide)]
          unfold pO_goesOn_34
          rw [if_neg (show ¬ (0 : Int32) ≤ nI 0 - 2 by decide), pv_bnd, pv_letm, pS_order_43]
          unfold pS_order_113
          rw [if_neg (show ¬ (720 : Int32) ≤ 0 + 1 by decide), if_pos rfl, telC, pv_bnd, show (u2 (u2 D 5 0 0) 5 1 0) 5 0 = 0 from by rw [pv_u2, if_neg (by omega), pv_u2, if_pos ⟨rfl, rfl⟩], show (u2 (u2 D 5 0 0) 5 1 0) 5 1 = 0 from by rw [pv_u2, if_pos ⟨rfl, rfl⟩]]
          split <;> rfl
        · unfold pM_order
          rw [c2, pv_bnd, if_neg (by decide), e2, pv_bnd, if_neg (by decide), if_pos (show y 78 0 = 0 from hy.1.2.1.1)]
      · have hp : 0 < n := by omega
        obtain ⟨x0, r0, hx0, hid⟩ := LO_hd hp hn
        have hch := LO_ch hp hn
        have hT : ∀ i, i < n → tkT n F i < 10 := fun i hi => tkT_b hl hi
        have hNN : n ^ n < 49000 := by
          rcases (show n = 1 ∨ n = 2 ∨ n = 3 ∨ n = 4 ∨ n = 5 ∨ n = 6 by omega) with rfl | rfl | rfl | rfl | rfl | rfl <;> decide
        refine ask2 h (an2 (nI v) (orM (ovM (saM (C lw) (E lw)) n q (tkT n F) F K) (odg n) (LO n) (-1) (-1))) ?_ (fun y hy _ => ?_)
        · have oB : oS B n (tkT n F) (dg n x0) := ⟨b2, fun i hi => (b3 i hi).1, fun i hi => by rw [(b3 i hi).2, hid i hi]⟩
          obtain ⟨Z, z1, z2⟩ := ordC_loop (fu := fu) hf hp h hq hT (v2 := nI v) (LO n) x0 r0 0 fu (-1) (-1) B hx0 hch.1 (by have := hch.2; omega) (by have := hch.2; omega) eB oB b5
          exact ⟨Z, by rw [pre]; exact z1, z2⟩
        · obtain ⟨W, w1, w2, w3⟩ := tkMr (fu := fu) (by omega) hn hy.1.2.1 hl
          obtain ⟨Z, z1, z2⟩ := orMr_loop (fu := fu) hf hp hy hq hT (v2 := nI v) hNN (n ^ n) 0 fu (-1) (-1) W (by omega) (by omega) (fun c j c1 _ => w3 c j (by omega)) w2
          rw [LO_flt hp hn] at z1
          refine ⟨Z, ?_, z2⟩
          unfold pM_order
          rw [c2, pv_bnd, if_neg (by decide), e2, pv_bnd, if_neg (by decide), if_neg (show ¬ y 78 0 = 0 by rw [hy.1.2.1.1]; exact nI_ne0 hp (by omega)), w1, pv_bndv]
          exact (pw_loop (fu := fu) hp hn (by rw [w3 78 0 (by omega)]; exact hy.1.2.1.1) n 0 fu (by omega) (by omega)).trans z1
