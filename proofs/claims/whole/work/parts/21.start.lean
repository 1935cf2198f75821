/-! the law's start: what the tables and the premises give -/
def tmS : Nat → Term := fun i => match i with
  | 0 => .string "ScythesKeepStep" 59
  | 1 => .string "ScythesKeepStep$Reader" 102
  | _ => .string "ScythesKeepStep$Reader" 94
def narrowL : List Cond := flatC (Jvm.Cond.and given_1 narrow_1)
set_option maxRecDepth 100000 in
theorem st_str : (List.range 3).all (fun i => decide (Cond.exactly (tmS i) "java/lang/String" ∈ narrowL) && decide (Cond.eq (.field (tmS i) "java/lang/String" "coder" "B") (.int 0) ∈ narrowL) && decide (Cond.arrayOf (.field (tmS i) "java/lang/String" "value" "[B") .byte ∈ narrowL) && decide (Cond.eq (.length (.field (tmS i) "java/lang/String" "value" "[B")) (.int (Int32.ofNat (jsLen.getD i 0))) ∈ narrowL) && (List.range (jsLen.getD i 0)).all (fun j => decide (Cond.eq (.elem (.field (tmS i) "java/lang/String" "value" "[B") (.int (Int32.ofNat j))) (.int ((jsByt.getD i []).getD j 0)) ∈ narrowL))) = true := by decide +kernel
theorem st_ne : (List.range 3).all (fun i => (List.range 3).all (fun j => decide (i = j) || decide (Cond.not (Cond.eq (tmS i) (tmS j)) ∈ narrowL) || decide (Cond.not (Cond.eq (tmS j) (tmS i)) ∈ narrowL))) = true := by decide +kernel
theorem st_tab : (decide (Cond.arrayOf (.static "ScythesKeepStep" "MARK_MOST" "[I") .int ∈ narrowL) && decide (Cond.eq (.length (.static "ScythesKeepStep" "MARK_MOST" "[I")) (.int (Int32.ofNat 5)) ∈ narrowL) && (List.range 5).all (fun j => decide (Cond.eq (.elem (.static "ScythesKeepStep" "MARK_MOST" "[I") (.int (Int32.ofNat j))) (.int (([9, 11, 11, 999, 9999] : List Int32).getD j 0)) ∈ narrowL)) && decide (Cond.arrayOf (.static "ScythesKeepStep" "KIND_ABOVE" "[I") .int ∈ narrowL) && decide (Cond.eq (.length (.static "ScythesKeepStep" "KIND_ABOVE" "[I")) (.int (Int32.ofNat 6)) ∈ narrowL) && (List.range 6).all (fun j => decide (Cond.eq (.elem (.static "ScythesKeepStep" "KIND_ABOVE" "[I") (.int (Int32.ofNat j))) (.int (([-1, 0, 0, 1, 2, 0] : List Int32).getD j 0)) ∈ narrowL)) && decide (Cond.eq (.static "java/lang/String" "COMPACT_STRINGS" "Z") (.int 1) ∈ narrowL) && decide (Cond.isRef (.static "jdk/internal/util/Preconditions" "SIOOBE_FORMATTER" "Ljava/util/function/BiFunction;") ∈ narrowL)) = true := by decide +kernel
def stW : List Cond := [.laysStatic "java/lang/String" "COMPACT_STRINGS" "Z", .laysStatic "jdk/internal/util/Preconditions" "SIOOBE_FORMATTER" "Ljava/util/function/BiFunction;", .laysStatic "ScythesKeepStep" "MARK_MOST" "[I", .laysStatic "ScythesKeepStep" "KIND_ABOVE" "[I", .initialized "java/lang/String", .initialized "jdk/internal/util/Preconditions", .initialized "ScythesKeepStep", .stringRef "ScythesKeepStep" 59 txF, .stringRef "ScythesKeepStep$Reader" 102 txW, .stringRef "ScythesKeepStep$Reader" 94 txS, .arrayOver (.object "ScythesKeepStep$Law"), .arrayOver (.object "ScythesKeepStep$Sheet"), .arrayOver (.array .int), .arrayClass .int,
   .methodLinkNest NR 46 ⟨NS, "within", "(II)Z"⟩ NS, .methodLinkNest NR 94 ⟨NS, "isA", "(II)Z"⟩ NS, .methodLinkNest NS 23 ⟨ND, "<init>", "()V"⟩ NS, .methodLinkNest ND 11 ⟨NL, "<init>", "()V"⟩ NS, .methodLinkNest NS 30 ⟨NB, "<init>", "()V"⟩ NS, .methodLinkNest NS 37 ⟨NO, "<init>", "()V"⟩ NS, .methodLinkNest NS 42 ⟨NL, "<init>", "()V"⟩ NS, .methodLinkNest NS 43 ⟨NH, "<init>", "()V"⟩ NS]
theorem st_tW : ∀ w ∈ stW, w ∈ lw_tbl := by decide +kernel
theorem st_in : ∀ t ∈ ([(NB, TB, 2), (NL, TL, 4), (NO, TO, 3), (ND, TD, 8), (NR, TR, 9), (NH, TH, 3), (NS, TS, 10), (NM, TM, 34)] : List vw_C), Cond.instantiable t.1 t.2.2 ∈ lw_tbl := by
  intro t ht
  have h : ∀ w ∈ ([.instantiable NB 2, .instantiable NL 4, .instantiable NO 3, .instantiable ND 8, .instantiable NR 9, .instantiable NH 3, .instantiable NS 10, .instantiable NM 34] : List Cond), w ∈ lw_tbl := by decide +kernel
  simp only [List.mem_cons, List.not_mem_nil, or_false] at ht
  rcases ht with rfl | rfl | rfl | rfl | rfl | rfl | rfl | rfl <;> exact h _ (by simp)
theorem st_Kn {args : Array Value} {s : State} (hts : ∀ w ∈ lw_tbl, w.before args s = true) : ∃ D : va_G, ∀ (k : Nat) (q : vw_C), clsG[k]? = some q → u_Kn s q.1 q.2.1 q.2.2 (D.1 k) (D.2 k) := by
  have hw := wg_hts hts
  have hi : ∀ t ∈ clsG, Cond.instantiable t.1 t.2.2 ∈ lw_tbl := st_in
  obtain ⟨c0, i0, h0⟩ := u_known (n := 2) hw inB (hts _ (hi (NB, TB, 2) (by simp [clsG])))
  obtain ⟨c1, i1, h1⟩ := u_known (n := 4) hw inL (hts _ (hi (NL, TL, 4) (by simp [clsG])))
  obtain ⟨c2, i2, h2⟩ := u_known (n := 3) hw inO (hts _ (hi (NO, TO, 3) (by simp [clsG])))
  obtain ⟨c3, i3, h3⟩ := u_known (n := 8) hw inD (hts _ (hi (ND, TD, 8) (by simp [clsG])))
  obtain ⟨c4, i4, h4⟩ := u_known (n := 9) hw inR (hts _ (hi (NR, TR, 9) (by simp [clsG])))
  obtain ⟨c5, i5, h5⟩ := u_known (n := 3) hw inH (hts _ (hi (NH, TH, 3) (by simp [clsG])))
  obtain ⟨c6, i6, h6⟩ := u_known (n := 10) hw inS (hts _ (hi (NS, TS, 10) (by simp [clsG])))
  obtain ⟨c7, i7, h7⟩ := u_known (n := 34) hw inM (hts _ (hi (NM, TM, 34) (by simp [clsG])))
  refine ⟨(fun k => [c0, c1, c2, c3, c4, c5, c6, c7].getD k 0, fun k => [i0, i1, i2, i3, i4, i5, i6, i7].getD k (fun _ => 0)), ?_⟩
  intro k q hq
  match k, hq with
  | 0, hq => cases hq; exact h0
  | 1, hq => cases hq; exact h1
  | 2, hq => cases hq; exact h2
  | 3, hq => cases hq; exact h3
  | 4, hq => cases hq; exact h4
  | 5, hq => cases hq; exact h5
  | 6, hq => cases hq; exact h6
  | 7, hq => cases hq; exact h7
  | k + 8, hq => simp [clsG] at hq
theorem st_ty {args : Array Value} {s : State} (hts : ∀ w ∈ lw_tbl, w.before args s = true) : ∃ T : ClassId × ClassId × ClassId × ClassId, ∀ (k : Nat) (q : ClassId × FieldType), ([(T.1, .int), (T.2.1, .object NL), (T.2.2.1, .object NH), (T.2.2.2, .array .int)] : List (ClassId × FieldType))[k]? = some q → ArrOfT s q.1 q.2 ∧ va_RA s q.1 q.2 := by
  obtain ⟨cI, kI, pI, a1, a2, a3⟩ := Cond.arrayClass_spec (hts (.arrayClass .int) (st_tW _ (List.mem_of_getElem? (i := 13) rfl)))
  obtain ⟨pL, cL, kL, b1, -, b3, b4, b5⟩ := Cond.arrayOver_spec (hts (.arrayOver (.object "ScythesKeepStep$Law")) (st_tW _ (List.mem_of_getElem? (i := 10) rfl)))
  obtain ⟨pH, cH, kH, d1, -, d3, d4, d5⟩ := Cond.arrayOver_spec (hts (.arrayOver (.object "ScythesKeepStep$Sheet")) (st_tW _ (List.mem_of_getElem? (i := 11) rfl)))
  obtain ⟨pF, cF, kF, f1, -, f3, f4, f5⟩ := arrayOver_specB (hts (.arrayOver (.array .int)) (st_tW _ (List.mem_of_getElem? (i := 12) rfl)))
  refine ⟨(cI, cL, cH, cF), ?_⟩
  intro k q hq
  match k, hq with
  | 0, hq => cases hq; exact ⟨fun N z => ⟨(fun k h => by cases h), kI, a2, pI, a3⟩, a1⟩
  | 1, hq => cases hq; exact ⟨fun N z => ⟨(fun k h => by cases h), kL, b3, pL, b4⟩, kL, pL, b3, b4, b1, b5⟩
  | 2, hq => cases hq; exact ⟨fun N z => ⟨(fun k h => by cases h), kH, d3, pH, d4⟩, kH, pH, d3, d4, d1, d5⟩
  | 3, hq => cases hq; exact ⟨fun N z => ⟨(fun k h => by cases h), kF, f3, pF, f4⟩, f5⟩
  | k + 4, hq => simp at hq
theorem st_KB {args : Array Value} {s : State} (hts : ∀ w ∈ lw_tbl, w.before args s = true) (hgv : (Jvm.Cond.and given_1 narrow_1).before args s = true) : ∃ G : GT, KB G (fun q => s.heap.size ≤ q) s ∧ KC G s := by
  have hf : ∀ w ∈ narrowL, w.before args s = true := flat_of_before _ hgv
  obtain ⟨D, hD⟩ := st_Kn hts
  obtain ⟨T, hT⟩ := st_ty hts
  have hA : ∀ a : Nat, a < s.heap.size → ¬ (fun q => s.heap.size ≤ q) a := fun a h => Nat.not_le.mpr h
  have tw : ∀ (i : Nat) (w : Cond), stW[i]? = some w → w.before args s = true := fun i w h => hts w (st_tW w (List.mem_of_getElem? h))
  have hS := st_str
  rw [List.all_eq_true] at hS
  have hs : ∀ i, i < 3 → _ := fun i hi => hS i (List.mem_range.mpr hi)
  simp only [Bool.and_eq_true, decide_eq_true_eq, List.all_eq_true] at hs
  have hne := st_ne
  simp only [List.all_eq_true, Bool.or_eq_true, decide_eq_true_eq] at hne
  obtain ⟨adK, adV, hK, hKe⟩ := vk_Sof (args := args) (s := s) (N := 3) (tm := tmS) (len := jsLen) (byt := jsByt) (A := fun q => s.heap.size ≤ q) (fun i hi => by rcases (show i = 0 ∨ i = 1 ∨ i = 2 by omega) with rfl | rfl | rfl <;> decide)
    (fun i hi => hf _ (hs i hi).1.1.1.1) (fun i hi => hf _ (hs i hi).1.1.1.2) (fun i hi => hf _ (hs i hi).1.1.2) (fun i hi => hf _ (hs i hi).1.2) (fun i hi j hj => hf _ ((hs i hi).2 j (List.mem_range.mpr hj)))
    (fun i j hi hj hij => by
      rcases hne i (List.mem_range.mpr hi) j (List.mem_range.mpr hj) with (h | h) | h
      · exact absurd h hij
      · exact Or.inl (hf _ h)
      · exact Or.inr (hf _ h)) hA
  have ht := st_tab
  simp only [Bool.and_eq_true, decide_eq_true_eq, List.all_eq_true] at ht
  obtain ⟨⟨⟨⟨⟨⟨⟨t1, t2⟩, t3⟩, t4⟩, t5⟩, t6⟩, t7⟩, t8⟩ := ht
  obtain ⟨aM, eM, hM⟩ := va_Tof (N := 5) (f := tabM) (A := fun q => s.heap.size ≤ q) (by decide) (hf _ t1) (va_eqt (hf _ t2)) (fun j hj => va_eqt (hf _ (t3 j (List.mem_range.mpr hj)))) hA
  obtain ⟨aK, eK, hKK⟩ := va_Tof (N := 6) (f := tabK) (A := fun q => s.heap.size ≤ q) (by decide) (hf _ t4) (va_eqt (hf _ t5)) (fun j hj => va_eqt (hf _ (t6 j (List.mem_range.mpr hj)))) hA
  refine ⟨(D, T, fun _ => 0, (aM, aK), adK, adV), ⟨⟨hD, hT⟩, ⟨va_Nw.of rfl (tw 14 _ rfl), va_Nw.of rfl (tw 15 _ rfl)⟩, ⟨va_Zref (tw 2 _ rfl) (tw 6 _ rfl) eM hA, hM⟩, ⟨va_Zref (tw 3 _ rfl) (tw 6 _ rfl) eK hA, hKK⟩, ⟨va_Zof (tw 0 _ rfl) (tw 4 _ rfl) (va_eqi (hf _ t7)) hA, va_Zqof (tw 1 _ rfl) (tw 5 _ rfl) (hf _ t8) hA⟩, hK, ?_, ?_, ?_⟩, ⟨⟨hD, hT⟩, ⟨va_Nw.of rfl (tw 16 _ rfl), va_Nw.of rfl (tw 17 _ rfl), va_Nw.of rfl (tw 18 _ rfl), va_Nw.of rfl (tw 19 _ rfl), va_Nw.of rfl (tw 20 _ rfl), va_Nw.of rfl (tw 21 _ rfl)⟩, tw 10 _ rfl, tw 11 _ rfl, tw 12 _ rfl⟩⟩
  · exact vk_R.of (tw 7 _ rfl) (hKe 0 (by decide))
  · exact vk_R.of (tw 8 _ rfl) (hKe 1 (by decide))
  · exact vk_R.of (tw 9 _ rfl) (hKe 2 (by decide))
