theorem dW_law_0 : decode code 0 = .ok (.new 7, 3) := by decide +kernel
theorem dW_law_3 : decode code 3 = .ok (.dup, 1) := by decide +kernel
theorem dW_law_4 : decode code 4 = .ok (.invokespecial 9, 3) := by decide +kernel
theorem dW_law_7 : decode code 7 = .ok (.astore_n 1, 1) := by decide +kernel
theorem dW_law_8 : decode code 8 = .ok (.new 10, 3) := by decide +kernel
theorem dW_law_11 : decode code 11 = .ok (.dup, 1) := by decide +kernel
theorem dW_law_12 : decode code 12 = .ok (.invokespecial 12, 3) := by decide +kernel
theorem dW_law_15 : decode code 15 = .ok (.astore_n 2, 1) := by decide +kernel
theorem dW_law_16 : decode code 16 = .ok (.iconst 0, 1) := by decide +kernel
theorem dW_law_17 : decode code 17 = .ok (.istore_n 3, 1) := by decide +kernel
theorem kl_7 : Cond.classLink R_law 7 NS ∈ WG := wg_1 17 (by rfl) rfl
theorem kl_10 : Cond.classLink R_law 10 NM ∈ WG := wg_4 33 (by rfl) rfl
theorem kl_9 : Cond.methodLink R_law 9 yS_init ∈ WG := wg_1 19 (by rfl) rfl
theorem kl_12 : Cond.methodLink R_law 12 yM_init ∈ WG := wg_4 35 (by rfl) rfl
def adJ (a1 a2 : Nat → Nat) : Nat → Nat := fun c => if c < 78 then a1 c else a2 c
def zJ (z1 z2 : Sg) : Sg := fun c => if c < 78 then z1 c else z2 c
theorem wsP {G : GT} {D : va_G} {cl : List vw_C} {I : List Nat} {z : Sg} {H : Heap} : va_P D cl (wsI G I z) H ↔ ∀ c, c ∈ I → va_at D cl (gA G c, eW G c (z c)) H := by
  constructor
  · intro h c hc
    obtain ⟨q, hq⟩ := ws_pos hc
    exact h q _ (ws_get hq)
  · intro h k q hq
    unfold wsI at hq
    rw [List.getElem?_map] at hq
    cases hj : I[k]? with
    | none => rw [hj] at hq; cases hq
    | some b => rw [hj] at hq; cases hq; exact h b (List.mem_of_getElem? hj)
theorem vaD_same {A : Nat → Prop} {w1 w2 : va_W} (h : va_D A w1) (e : w1.map (fun q => q.1) = w2.map (fun q => q.1)) : va_D A w2 := by
  have key : ∀ (k : Nat) (q : Nat × va_E), w2[k]? = some q → ∃ q1, w1[k]? = some q1 ∧ q1.1 = q.1 := by
    intro k q hq
    have h1 : (w2.map (fun q => q.1))[k]? = some q.1 := by rw [List.getElem?_map, hq]; rfl
    rw [← e, List.getElem?_map] at h1
    cases hj : w1[k]? with
    | none => rw [hj] at h1; cases h1
    | some x => rw [hj] at h1; exact ⟨x, rfl, Option.some.inj h1⟩
  refine ⟨fun i j x y hi hj hxy => ?_, fun k q hq => ?_⟩
  · obtain ⟨x1, a1, a2⟩ := key i x hi
    obtain ⟨y1, b1, b2⟩ := key j y hj
    exact h.1 i j x1 y1 a1 b1 (a2.trans (hxy.trans b2.symm))
  · obtain ⟨q1, a1, a2⟩ := key k q hq
    rw [← a2]
    exact h.2 k q1 a1
theorem vaP_left {D : va_G} {cl : List vw_C} {w1 w2 : va_W} {H : Heap} (h : va_P D cl (w1 ++ w2) H) : va_P D cl w1 H := fun k q hq => h k q (by rw [List.getElem?_append_left (List.getElem?_eq_some_iff.mp hq).1]; exact hq)
theorem vaP_right {D : va_G} {cl : List vw_C} {w1 w2 : va_W} {H : Heap} (h : va_P D cl (w1 ++ w2) H) : va_P D cl w2 H := fun k q hq => h (w1.length + k) q (by rw [List.getElem?_append_right (Nat.le_add_right _ _), Nat.add_sub_cancel_left]; exact hq)
set_option maxRecDepth 20000 in
theorem join_C {G : GT} {a1 a2 : Nat → Nat} {z1 z2 : Sg} {H : Heap} : ∀ c, c ∈ IC → va_at (gD G) clsG (gA (gW G a1) c, eW (gW G a1) c (z1 c)) H → va_at (gD G) clsG (gA (gW G (adJ a1 a2)) c, eW (gW G (adJ a1 a2)) c (zJ z1 z2 c)) H := by
  unfold IC
  simp only [List.forall_mem_cons]
  exact ⟨fun h => h, fun h => rq_eq h (fun j hj => by rcases (show j = 0 ∨ j = 1 ∨ j = 2 ∨ j = 3 ∨ j = 4 ∨ j = 5 by omega) with rfl | rfl | rfl | rfl | rfl | rfl <;> rfl), fun h => rq_eq h (fun j hj => by rcases (show j = 0 ∨ j = 1 ∨ j = 2 ∨ j = 3 by omega) with rfl | rfl | rfl | rfl <;> rfl), fun h => h, fun h => h, fun h => h, fun h => h, fun h => h, fun h => h, fun h => h, fun h => h, fun h => rq_eq h (fun j hj => by rcases (show j = 0 ∨ j = 1 ∨ j = 2 ∨ j = 3 ∨ j = 4 by omega) with rfl | rfl | rfl | rfl | rfl <;> rfl), fun h => h, fun h => h, fun h => h, fun h => h, fun h => h, fun h => h, fun h => h, fun h => h, fun h => h, fun h => h, fun h => rq_eq h (fun j hj => by rcases (show j = 0 ∨ j = 1 ∨ j = 2 ∨ j = 3 ∨ j = 4 by omega) with rfl | rfl | rfl | rfl | rfl <;> rfl), fun h => h, fun h => h, fun h => h, fun h => h, fun h => h, fun h => h, fun h => h, fun h => h, fun h => h, fun h => h, fun h => rq_eq h (fun j hj => by rcases (show j = 0 ∨ j = 1 ∨ j = 2 ∨ j = 3 ∨ j = 4 by omega) with rfl | rfl | rfl | rfl | rfl <;> rfl), fun h => h, fun h => h, fun h => h, fun h => h, fun h => h, fun h => h, fun h => h, fun h => h, fun h => h, fun h => h, fun h => h, fun h => h, fun h => h, fun h => h, fun h => h, fun h => h, fun h => h, fun h => h, fun h => h, fun h => h, fun h => h, fun h => h, fun h => h, fun h => h, fun h => h, fun h => h, fun h => h, fun h => h, fun h => h, fun h => h, fun h => h, fun h => h, fun h => h, fun h => h, fun h => h, fun h => h, fun h => h, fun h => h, fun h => h, fun h => h, fun h => h, fun h => h, fun h => h, fun h => h, fun c h => absurd h List.not_mem_nil⟩
set_option maxRecDepth 20000 in
theorem join_M {G : GT} {a1 a2 : Nat → Nat} {z1 z2 : Sg} {H : Heap} : ∀ c, c ∈ IM → va_at (gD G) clsG (gA (gW G a2) c, eW (gW G a2) c (z2 c)) H → va_at (gD G) clsG (gA (gW G (adJ a1 a2)) c, eW (gW G (adJ a1 a2)) c (zJ z1 z2 c)) H := by
  unfold IM
  simp only [List.forall_mem_cons]
  exact ⟨fun h => h, fun h => h, fun h => h, fun h => h, fun h => h, fun h => h, fun h => h, fun h => h, fun h => h, fun h => h, fun h => h, fun h => h, fun h => h, fun h => h, fun h => h, fun h => h, fun h => h, fun h => h, fun h => h, fun h => h, fun h => h, fun c h => absurd h List.not_mem_nil⟩
theorem IC_lt : ∀ c, c ∈ IC → c < 78 ∧ IC[c]? = some c := by decide
theorem IM_ge : ∀ c, c ∈ IM → 78 ≤ c := by decide
set_option maxRecDepth 20000 in
theorem IC_nd : va_nd IC = true := by decide +kernel
set_option maxHeartbeats 4000000 in
/-- THE LAW, from its entry: what the pure side owes is given -/
theorem law_start {p : Program} {e : Env} {s : State} {m : MethodId} {below : List Frame} {meth : Method} {c : Code} (l : Launch) {b L : Nat} {xs : Nat → Int32} {fu : Nat} {Inv : Sg → Prop} {Zc Zm : Sg} (hstep : StepOK fu Inv) (hZc : pS_init fu zC = some Zc) (hZm : pM_init fu zM = some Zm) (hI0 : Inv (zJ Zc Zm)) (hL : L ≤ 3584) (C0 : lw_At p s m meth c b L xs) : W p l e room_1 s m #[Value.ref b] below meth c s.heap [] 0 0 (lw_Z below #[Value.ref b] s) (entryFrame m ([Value.ref b] : List Value).toArray 4) := by
  obtain ⟨hx, hb, hr, hml, hown, hts, hX, hbl, hlocks, hgv⟩ := id C0
  obtain ⟨G, hB, hKC⟩ := st_KB hts hgv
  have hw := wg_hts hts
  have hA : ∀ q : Nat, s.heap.size ≤ q → (fun q : Nat => s.heap.size ≤ q) q := fun _ h => h
  have hK := hKC.1
  have hS : va_S (fun q : Nat => s.heap.size ≤ q) s.heap s.heap [] := va_S.rf
  have hP : va_P (gD G) clsG [] s.heap := fun k q h => by simp at h
  have hD : va_D (fun q : Nat => s.heap.size ≤ q) [] := ⟨fun i j p q h => by simp at h, fun k q h => by simp at h⟩
  have hl := lv_entry ([.ref b]) (n := 4) (Nat.le_of_ble_eq_true rfl)
  rw [lg_entry_eq]
  generalize (lg_sl ([.ref b]) ++ List.replicate (4 - (lg_sl ([.ref b])).length) Slot.unset).toArray = ls at hl ⊢
  have hl : lv_has ls 4 [(0, .ref b)] := hl
  refine va_new (ci := 6) (fs := [.null, .null, .null, .null, .null, .null, .null, .null, .int 0, .int 0]) (C := NS) (T := TS) (N := 10) hx hb hw inS tyS tokS hown (hw _ kl_7) (hw _ k_ins_S) (hw _ k_ini_S) hK hP hD hS hA rfl (fun j hj => by rcases (show j = 0 ∨ j = 1 ∨ j = 2 ∨ j = 3 ∨ j = 4 ∨ j = 5 ∨ j = 6 ∨ j = 7 ∨ j = 8 ∨ j = 9 by omega) with rfl | rfl | rfl | rfl | rfl | rfl | rfl | rfl | rfl | rfl <;> rfl) (Nat.le_of_ble_eq_true rfl) (Nat.le_of_ble_eq_true rfl) dW_law_0 (fun q0 H hP hD hS => ?_)
  refine W.widen (k := 1) (n := 10) (by omega) (by omega) ?_
  refine lv_dup hx hb dW_law_3 rfl ?_
  have hP : va_P (gD G) clsG [(q0, .inr (6, [.null, .null, .null, .null, .null, .null, .null, .null, .int 0, .int 0]))] H := hP
  have hD : va_D (fun q : Nat => s.heap.size ≤ q) [(q0, .inr (6, [.null, .null, .null, .null, .null, .null, .null, .null, .int 0, .int 0]))] := hD
  have hF := va_free (wc := [(q0, .inr (6, [.null, .null, .null, .null, .null, .null, .null, .null, .int 0, .int 0]))]) hD hS hA [0] rfl
  have hr1 := va_runI (rest := [.ref q0]) (As := []) (b := q0) (g := F0 m 4 ls [.ref q0, .ref q0]) (locs := []) (cells := 1) (slots := 10) (p := p) (l := l) (e := e) (below := below) (meth := meth) (R := room_1) (H := H) ⟨hx, hb, hml, hown, hw⟩ (cS_init l G q0 H.size hZc) (cwI 0 hw (goodIn_F k_co_S) rfl rfl rfl (hw _ k_ini_S) (hw _ kl_9) (hw _ k_in_S) rfl ⟨by decide, by decide, by decide +kernel⟩ ⟨Nat.le_of_ble_eq_true rfl, Nat.le_of_ble_eq_true rfl⟩) ⟨fun a U g mk h => ⟨h.1, ⟨h.2.1.1, h.2.1.2.1, h.2.1.2.2.1.calling, h.2.1.2.2.2⟩, h.2.2.calling⟩, fun U hU hW => ⟨rfl, ⟨by rw [hU], by rw [hU]; exact hP, hKC.warm hW, hD.weaken (fun _ _ _ _ => trivial)⟩, (hB.step hS hW hU).narrow hF⟩⟩ rfl rfl hl.1 rfl (lv_room (Nat.le_of_ble_eq_true rfl)) dW_law_4 ⟨Nat.le_of_ble_eq_true rfl, Nat.le_of_ble_eq_true rfl⟩
  refine va_callv hr1 hS (fun q _ h => hF q h) hF (fun a1 t H1 locs1 htt hvm hadr hB1 hz1 hk1 hS => ?_)
  obtain ⟨hP1, hD1⟩ := hB1
  rw [htt] at hP1
  refine W.widen (k := 78) (n := 2867) (Nat.le_of_ble_eq_true rfl) (Nat.le_of_ble_eq_true rfl) ?_
  have hD1 : va_D (fun q : Nat => s.heap.size ≤ q) (wsI (gW G a1) IC Zc) := hD1.weaken (fun _ q _ h => hF _ h)
  clear hr1 hP hD hF
  refine lv_astore_n (lv' := [(1, .ref q0), (0, .ref b)]) hx hb dW_law_7 rfl hl (by decide) rfl (fun ls hl => ?_)
  refine va_new (ci := 7) (fs := [.int 0, .null, .null, .null, .null, .null, .int 0, .null, .null, .int 0, .int 0, .int 0, .null, .null, .null, .null, .null, .null, .int 0, .int 0, .int 0, .int 0, .null, .null, .int 0, .int 0, .int 0, .null, .null, .null, .null, .null, .int 0, .int 0]) (C := NM) (T := TM) (N := 34) hx hb hw inM tyM tokM hown (hw _ kl_10) (hw _ k_ins_M) (hw _ k_ini_M) hK hP1 hD1 hS hA rfl (fun j hj => by rcases (show j = 0 ∨ j = 1 ∨ j = 2 ∨ j = 3 ∨ j = 4 ∨ j = 5 ∨ j = 6 ∨ j = 7 ∨ j = 8 ∨ j = 9 ∨ j = 10 ∨ j = 11 ∨ j = 12 ∨ j = 13 ∨ j = 14 ∨ j = 15 ∨ j = 16 ∨ j = 17 ∨ j = 18 ∨ j = 19 ∨ j = 20 ∨ j = 21 ∨ j = 22 ∨ j = 23 ∨ j = 24 ∨ j = 25 ∨ j = 26 ∨ j = 27 ∨ j = 28 ∨ j = 29 ∨ j = 30 ∨ j = 31 ∨ j = 32 ∨ j = 33 by omega) with rfl | rfl | rfl | rfl | rfl | rfl | rfl | rfl | rfl | rfl | rfl | rfl | rfl | rfl | rfl | rfl | rfl | rfl | rfl | rfl | rfl | rfl | rfl | rfl | rfl | rfl | rfl | rfl | rfl | rfl | rfl | rfl | rfl | rfl <;> rfl) (Nat.le_of_ble_eq_true rfl) (Nat.le_of_ble_eq_true rfl) dW_law_8 (fun q1 H hP hD hS => ?_)
  refine W.widen (k := 79) (n := 2901) (Nat.le_of_ble_eq_true rfl) (Nat.le_of_ble_eq_true rfl) ?_
  refine lv_dup hx hb dW_law_11 rfl ?_
  generalize hX9 : wsI (gW G a1) IC Zc = X at hP hD
  have hXl : X.length = 78 := by rw [← hX9]; rfl
  have hC1 : [78].map (fun i => (X ++ [(q1, (.inr (7, [.int 0, .null, .null, .null, .null, .null, .int 0, .null, .null, .int 0, .int 0, .int 0, .null, .null, .null, .null, .null, .null, .int 0, .int 0, .int 0, .int 0, .null, .null, .int 0, .int 0, .int 0, .null, .null, .null, .null, .null, .int 0, .int 0]) : va_E))])[i]?) = [(q1, (.inr (7, [.int 0, .null, .null, .null, .null, .null, .int 0, .null, .null, .int 0, .int 0, .int 0, .null, .null, .null, .null, .null, .null, .int 0, .int 0, .int 0, .int 0, .null, .null, .int 0, .int 0, .int 0, .null, .null, .null, .null, .null, .int 0, .int 0]) : va_E))].map some := by
    show [(X ++ _)[78]?] = _
    rw [List.getElem?_append_right (by omega), hXl]
    rfl
  have hR1 : IC.map (fun i => (X ++ [(q1, (.inr (7, [.int 0, .null, .null, .null, .null, .null, .int 0, .null, .null, .int 0, .int 0, .int 0, .null, .null, .null, .null, .null, .null, .int 0, .int 0, .int 0, .int 0, .null, .null, .int 0, .int 0, .int 0, .null, .null, .null, .null, .null, .int 0, .int 0]) : va_E))])[i]?) = X.map some := by
    rw [← hX9]
    unfold wsI
    rw [List.map_map]
    refine List.map_congr_left (fun i hi => ?_)
    have h1 := IC_lt i hi
    rw [List.getElem?_append_left (by rw [List.length_map]; exact h1.1), List.getElem?_map, h1.2]
    rfl
  have hsub : [78].filterMap (fun i => (X ++ [(q1, (.inr (7, [.int 0, .null, .null, .null, .null, .null, .int 0, .null, .null, .int 0, .int 0, .int 0, .null, .null, .null, .null, .null, .null, .int 0, .int 0, .int 0, .int 0, .null, .null, .int 0, .int 0, .int 0, .null, .null, .null, .null, .null, .int 0, .int 0]) : va_E))])[i]?) = [(q1, (.inr (7, [.int 0, .null, .null, .null, .null, .null, .int 0, .null, .null, .int 0, .int 0, .int 0, .null, .null, .null, .null, .null, .null, .int 0, .int 0, .int 0, .int 0, .null, .null, .int 0, .int 0, .int 0, .null, .null, .null, .null, .null, .int 0, .int 0]) : va_E))] := by
    have h1 : (X ++ [(q1, (.inr (7, [.int 0, .null, .null, .null, .null, .null, .int 0, .null, .null, .int 0, .int 0, .int 0, .null, .null, .null, .null, .null, .null, .int 0, .int 0, .int 0, .int 0, .null, .null, .int 0, .int 0, .int 0, .null, .null, .null, .null, .null, .int 0, .int 0]) : va_E))])[78]? = some (q1, (.inr (7, [.int 0, .null, .null, .null, .null, .null, .int 0, .null, .null, .int 0, .int 0, .int 0, .null, .null, .null, .null, .null, .null, .int 0, .int 0, .int 0, .int 0, .null, .null, .int 0, .int 0, .int 0, .null, .null, .null, .null, .null, .int 0, .int 0]) : va_E)) := by
      rw [List.getElem?_append_right (by omega), hXl]
      rfl
    simp [h1]
  have hF := va_free (wc := [(q1, .inr (7, [.int 0, .null, .null, .null, .null, .null, .int 0, .null, .null, .int 0, .int 0, .int 0, .null, .null, .null, .null, .null, .null, .int 0, .int 0, .int 0, .int 0, .null, .null, .int 0, .int 0, .int 0, .null, .null, .null, .null, .null, .int 0, .int 0]))]) hD hS hA [78] hC1
  have hPc := hP.sub [78] hsub
  have hDc := hD.sub [78] rfl hC1
  have hr2 := va_runI (rest := [.ref q1]) (As := []) (b := q1) (g := F0 m 12 ls [.ref q1, .ref q1]) (locs := locs1) (cells := 79) (slots := 2901) (p := p) (l := l) (e := e) (below := below) (meth := meth) (R := room_1) (H := H) ⟨hx, hb, hml, hown, hw⟩ (cM_init l G q1 H.size hZm) (cwI 0 hw (goodIn_F k_co_M) rfl rfl rfl (hw _ k_ini_M) (hw _ kl_12) (hw _ k_in_M) rfl ⟨by decide, by decide, by decide +kernel⟩ ⟨Nat.le_of_ble_eq_true rfl, Nat.le_of_ble_eq_true rfl⟩) ⟨fun a U g mk h => ⟨h.1, ⟨h.2.1.1, h.2.1.2.1, h.2.1.2.2.1.calling, h.2.1.2.2.2⟩, h.2.2.calling⟩, fun U hU hW => ⟨rfl, ⟨by rw [hU], by rw [hU]; exact hPc, hKC.warm hW, hDc.weaken (fun _ _ _ _ => trivial)⟩, (hB.step hS hW hU).narrow hF⟩⟩ rfl rfl hl.1 rfl (lv_room (Nat.le_of_ble_eq_true rfl)) dW_law_12 ⟨Nat.le_of_ble_eq_true rfl, Nat.le_of_ble_eq_true rfl⟩
  refine va_callv hr2 hS (fun q _ h => hF q h) hF (fun a2 t H2 locs2 htt2 hvm2 hadr2 hB2 hz2 hk2 hS => ?_)
  obtain ⟨hP2, hD2⟩ := hB2
  rw [htt2] at hP2
  obtain ⟨hP3, hD3⟩ := va_join hP hD [78] IC hC1 hR1 IC_nd (fun i hi => by have := (IC_lt i hi).1; simp; omega) hk2 hF hP2 hD2
  refine W.widen (k := 99) (n := 5106) (Nat.le_of_ble_eq_true rfl) (Nat.le_of_ble_eq_true rfl) ?_
  subst hX9
  have hP4 : va_P (gD G) clsG (wsI (gW G (adJ a1 a2)) I99 (zJ Zc Zm)) H2 := by
    refine wsP.mpr (fun k hk => ?_)
    rcases List.mem_append.mp hk with h | h
    · exact join_C k h (wsP.mp (vaP_left hP3) k h)
    · exact join_M k h (wsP.mp (vaP_right hP3) k h)
  have hD4 : va_D (fun q : Nat => s.heap.size ≤ q) (wsI (gW G (adJ a1 a2)) I99 (zJ Zc Zm)) := by
    refine vaD_same hD3 ?_
    unfold wsI I99
    rw [List.map_append, List.map_append, List.map_append, List.map_map, List.map_map, List.map_map, List.map_map]
    have x1 : ∀ k ∈ IC, (a1 k) = (if k < 78 then a1 k else a2 k) := fun k hk => by
      rw [if_pos (IC_lt k hk).1]
    have x2 : ∀ k ∈ IM, (a2 k) = (if k < 78 then a1 k else a2 k) := fun k hk => by
      have h1 := IM_ge k hk
      rw [if_neg (by omega)]
    exact congr (congrArg HAppend.hAppend (List.map_congr_left x1)) (List.map_congr_left x2)
  have hAD : ∀ q, AD (gW G (adJ a1 a2)) I99 q → s.heap.size ≤ q := by
    rintro q ⟨k, hk, rfl⟩
    obtain ⟨i, hi⟩ := ws_pos hk
    exact hD4.2 i _ (ws_get hi)
  have CC : CXA p s m #[.ref b] meth c R_law code 4 ret (gW G (adJ a1 a2)) I99 (fun q => s.heap.size ≤ q) := ⟨hx, hb, hml, hown, hw, hr, ⟨hlocks, hAD⟩, gW_KB hB⟩
  have e0 : q0 = gA (gW G (adJ a1 a2)) 0 := hadr.symm
  have e78 : q1 = gA (gW G (adJ a1 a2)) 78 := hadr2.symm
  rw [e0] at hl
  rw [e78]
  refine lv_astore_n (lv' := [(2, .ref (gA (gW G (adJ a1 a2)) 78)), (1, .ref (gA (gW G (adJ a1 a2)) 0)), (0, .ref b)]) hx hb dW_law_15 rfl hl (by decide) rfl (fun ls hl => ?_)
  refine lv_iconst (v := nI 0) hx hb dW_law_16 (by decide) ?_
  refine lv_istore_n (lv' := [(3, .int (nI 0)), (2, .ref (gA (gW G (adJ a1 a2)) 78)), (1, .ref (gA (gW G (adJ a1 a2)) 0)), (0, .ref b)]) hx hb dW_law_17 rfl hl (by decide) rfl (fun ls hl => ?_)
  exact law_loop CC hX hbl hstep hL (L + 1) 0 (by omega) (by omega) hI0 ⟨hP4, hD4, hS⟩ hl
