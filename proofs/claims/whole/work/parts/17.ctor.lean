/-! making: rows for the constructors, over a world of listed cells -/
def zf0 : Nat → Int32 := fun _ => 0
def nest6 (U : State) : Prop := va_Nw (.methodLinkNest NS 23 ⟨ND, "<init>", "()V"⟩ NS) U ∧ va_Nw (.methodLinkNest ND 11 ⟨NL, "<init>", "()V"⟩ NS) U ∧ va_Nw (.methodLinkNest NS 30 ⟨NB, "<init>", "()V"⟩ NS) U ∧ va_Nw (.methodLinkNest NS 37 ⟨NO, "<init>", "()V"⟩ NS) U ∧ va_Nw (.methodLinkNest NS 42 ⟨NL, "<init>", "()V"⟩ NS) U ∧ va_Nw (.methodLinkNest NS 43 ⟨NH, "<init>", "()V"⟩ NS) U
/-- what stays while cells are made -/
def KC (G : GT) (U : State) : Prop := va_K (gD G) clsG (tysG G) U ∧ nest6 U ∧ va_AO NL U ∧ va_AO NH U ∧ (Cond.arrayOver (.array .int)).before #[] U = true
theorem nest6.warm {s U : State} (hW : s.WarmedH U.vm) (h : nest6 s) : nest6 U := ⟨va_Nw.warmM hW h.1, va_Nw.warmM hW h.2.1, va_Nw.warmM hW h.2.2.1, va_Nw.warmM hW h.2.2.2.1, va_Nw.warmM hW h.2.2.2.2.1, va_Nw.warmM hW h.2.2.2.2.2⟩
theorem AOA.moved {u U : State} (hvm : u.vm.Alike U.vm) (h : (Cond.arrayOver (.array .int)).before #[] u = true) : (Cond.arrayOver (.array .int)).before #[] U = true := arrayOver_alikeB hvm h
theorem KC.warm {G : GT} {s U : State} (hW : s.WarmedH U.vm) (h : KC G s) : KC G U := ⟨va_K.moved hW.alike h.1, nest6.warm hW h.2.1, va_AO.moved hW.alike h.2.2.1, va_AO.moved hW.alike h.2.2.2.1, AOA.moved hW.alike h.2.2.2.2⟩
theorem KC.calling {G : GT} {U : State} {g : JFrame} {mk : MethodId} {a : Array Value} (h : KC G U) : KC G (U.calling g mk a) := by
  have r := Vm.Alike.refl U.vm
  obtain ⟨h1, ⟨n1, n2, n3, n4, n5, n6⟩, h3, h4, h5⟩ := h
  exact ⟨va_K.moved (U := U.calling g mk a) r h1, ⟨va_Nw.same (U := U.calling g mk a) rfl rfl n1, va_Nw.same (U := U.calling g mk a) rfl rfl n2, va_Nw.same (U := U.calling g mk a) rfl rfl n3, va_Nw.same (U := U.calling g mk a) rfl rfl n4, va_Nw.same (U := U.calling g mk a) rfl rfl n5, va_Nw.same (U := U.calling g mk a) rfl rfl n6⟩, va_AO.moved (U := U.calling g mk a) r h3, va_AO.moved (U := U.calling g mk a) r h4, AOA.moved (U := U.calling g mk a) r h5⟩
/-- two classes of one name are one -/
theorem tys_int {G : GT} {U : State} {cA : ClassId} (h : va_K (gD G) clsG (tysG G ++ [(cA, .int)]) U) : cA = gI G := by
  have h1 := (h.2 0 _ rfl).2
  have h2 := (h.2 4 _ rfl).2
  exact Option.some.inj (Eq.trans (Eq.symm (show U.vm.findClass ("[" ++ (FieldType.int).toString) = some cA from h2)) h1)
theorem tys_L {G : GT} {U : State} {cA : ClassId} (h : va_K (gD G) clsG (tysG G ++ [(cA, .object NL)]) U) : cA = gL G := by
  obtain ⟨_, _, _, _, _, e1⟩ := (h.2 1 _ rfl).2
  obtain ⟨_, _, _, _, _, e2⟩ := (h.2 4 _ rfl).2
  exact Option.some.inj (e2.symm.trans e1)
theorem tys_H {G : GT} {U : State} {cA : ClassId} (h : va_K (gD G) clsG (tysG G ++ [(cA, .object NH)]) U) : cA = gH G := by
  obtain ⟨_, _, _, _, _, e1⟩ := (h.2 2 _ rfl).2
  obtain ⟨_, _, _, _, _, e2⟩ := (h.2 4 _ rfl).2
  exact Option.some.inj (e2.symm.trans e1)
def CK (p : Program) (s : State) (m : MethodId) (args : Array Value) (meth : Method) (c : Code) (own : String) (cc : ByteArray) (nL : Nat) (G : GT) : Prop :=
  p.tables.exec = Jvm.exec ∧ c.code = cc ∧ c.maxLocals = nL ∧ s.vm.findClass own = some m.cls ∧ (∀ w ∈ WG, w.before args s = true) ∧ meth.sig.returnType = none ∧ meth.locks = false ∧ KC G s ∧ meth.name = "<init>"
def CW (G : GT) (ws : va_W) (A : Nat → Prop) (H0 H : Heap) (locs : List Loc) : Prop := va_P (gD G) clsG ws H ∧ va_D A ws ∧ va_S A H0 H locs
section RC
variable {p : Program} {l : Launch} {e : Env} {R : Room} {s : State} {m : MethodId} {args : Array Value} {below : List Frame} {meth : Method} {c : Code} {H : Heap} {locs : List Loc} {cells slots : Nat} {Q : State → Prop}
variable {own : String} {cc : ByteArray} {nL : Nat} {G : GT} {A : Nat → Prop} {ws : va_W} {pc : Nat} {ls : Array Slot} {rest : List Value}
theorem kNewI (C : CK p s m args meth c own cc nL G) (hA : ∀ q, s.heap.size ≤ q → A q) (hG : CW G ws A s.heap H locs) (hw : Cond.arrayClass .int ∈ WG) {n : Int32} {N : Nat} (hn : ¬ n < 0) (hN : n.toNatClampNeg = N) (hb : N * 4 ≤ 536870912) (hc : cells + 1 ≤ R.cells ∧ slots + N ≤ R.slots) (hdg : decode cc pc = .ok (.newarray .int, 2))
    (kk : ∀ (q : Nat) (H1 : Heap), CW G (ws ++ [(q, eI G N zf0)]) A s.heap H1 locs → W p l e R s m args below meth c H1 locs (cells + 1) (slots + N) Q (F0 m (pc + 2) ls (.ref q :: rest))) : W p l e R s m args below meth c H locs cells slots Q (F0 m pc ls (.int n :: rest)) := by
  refine va_newa (atype := .int) C.1 C.2.1 (C.2.2.2.2.1 _ hw) (ty := .int) rfl C.2.2.2.2.2.2.2.1.1 hG.1 hG.2.1 hG.2.2 hA (N' := N) (a0 := (N, .inl zf0)) (fun _ => rfl) hn hN hb hc.1 hc.2 hdg (fun q cA H1 hK hP hD hS => ?_)
  have := tys_int hK
  subst this
  exact kk q H1 ⟨hP, hD, hS⟩
theorem kNewL (C : CK p s m args meth c own cc nL G) (hA : ∀ q, s.heap.size ≤ q → A q) (hG : CW G ws A s.heap H locs) {index : Nat} (hk : Cond.classLink own index NL ∈ WG) {n : Int32} {N : Nat} (hn : ¬ n < 0) (hN : n.toNatClampNeg = N) (hb : N * 4 ≤ 536870912) (hc : cells + 1 ≤ R.cells ∧ slots + N ≤ R.slots) (hdg : decode cc pc = .ok (.anewarray index, 3))
    (kk : ∀ (q : Nat) (H1 : Heap), CW G (ws ++ [(q, eQ (gL G) N (fun _ => none))]) A s.heap H1 locs → W p l e R s m args below meth c H1 locs (cells + 1) (slots + N) Q (F0 m (pc + 3) ls (.ref q :: rest))) : W p l e R s m args below meth c H locs cells slots Q (F0 m pc ls (.int n :: rest)) := by
  refine va_newq C.1 C.2.1 C.2.2.2.1 (C.2.2.2.2.1 _ hk) C.2.2.2.2.2.2.2.1.2.2.1 C.2.2.2.2.2.2.2.1.1 hG.1 hG.2.1 hG.2.2 hA hn hN hb hc.1 hc.2 hdg (fun q cA H1 hK hP hD hS => ?_)
  have := tys_L hK
  subst this
  exact kk q H1 ⟨hP, hD, hS⟩
theorem kNewH (C : CK p s m args meth c own cc nL G) (hA : ∀ q, s.heap.size ≤ q → A q) (hG : CW G ws A s.heap H locs) {index : Nat} (hk : Cond.classLink own index NH ∈ WG) {n : Int32} {N : Nat} (hn : ¬ n < 0) (hN : n.toNatClampNeg = N) (hb : N * 4 ≤ 536870912) (hc : cells + 1 ≤ R.cells ∧ slots + N ≤ R.slots) (hdg : decode cc pc = .ok (.anewarray index, 3))
    (kk : ∀ (q : Nat) (H1 : Heap), CW G (ws ++ [(q, eQ (gH G) N (fun _ => none))]) A s.heap H1 locs → W p l e R s m args below meth c H1 locs (cells + 1) (slots + N) Q (F0 m (pc + 3) ls (.ref q :: rest))) : W p l e R s m args below meth c H locs cells slots Q (F0 m pc ls (.int n :: rest)) := by
  refine va_newq C.1 C.2.1 C.2.2.2.1 (C.2.2.2.2.1 _ hk) C.2.2.2.2.2.2.2.1.2.2.2.1 C.2.2.2.2.2.2.2.1.1 hG.1 hG.2.1 hG.2.2 hA hn hN hb hc.1 hc.2 hdg (fun q cA H1 hK hP hD hS => ?_)
  have := tys_H hK
  subst this
  exact kk q H1 ⟨hP, hD, hS⟩
theorem kNew (C : CK p s m args meth c own cc nL G) (hA : ∀ q, s.heap.size ≤ q → A q) (hG : CW G ws A s.heap H locs) {ci : Nat} {CC : String} {T : u_T} {N : Nat} (hf : clsG[ci]? = some (CC, T, N)) (hin : ∀ w ∈ u_ws CC T N, w ∈ WG) {ty0 : Nat → FieldType} (htk : ∀ k, k < N → parseFieldDescriptor (T k).2.2.1 = some (ty0 k)) {index : Nat} (hk : Cond.classLink own index CC ∈ WG) (hi : Cond.instantiable CC N ∈ WG) (hini : Cond.initialized CC ∈ WG) (fs : List Value) (hfs : ∀ j, j < N → defaultValue (ty0 j) = vp_V fs j) (hc : cells + 1 ≤ R.cells ∧ slots + N ≤ R.slots) (hdg : decode cc pc = .ok (.new index, 3))
    (kk : ∀ (q : Nat) (H1 : Heap), CW G (ws ++ [(q, .inr (ci, fs))]) A s.heap H1 locs → W p l e R s m args below meth c H1 locs (cells + 1) (slots + N) Q (F0 m (pc + 3) ls (.ref q :: rest))) : W p l e R s m args below meth c H locs cells slots Q (F0 m pc ls rest) :=
  va_new C.1 C.2.1 C.2.2.2.2.1 hin ty0 htk C.2.2.2.1 (C.2.2.2.2.1 _ hk) (C.2.2.2.2.1 _ hi) (C.2.2.2.2.1 _ hini) C.2.2.2.2.2.2.2.1.1 hG.1 hG.2.1 hG.2.2 hA hf hfs hc.1 hc.2 hdg (fun q H1 hP hD hS => kk q H1 ⟨hP, hD, hS⟩)
/-- a final field, once -/
theorem kPutF (C : CK p s m args meth c own cc nL G) (hG : CW G ws A s.heap H locs) (q0 : Nat) {a ci : Nat} {fs : List Value} (he : ws[q0]? = some (a, .inr (ci, fs))) {k : Nat} {T : u_T} {N : Nat} (hf : FI ci k own T N) {ty0 : Nat → FieldType} (htk : ∀ k, k < N → parseFieldDescriptor (T k).2.2.1 = some (ty0 k)) (hnm : ∀ a, a < N → ∀ b, b < N → a ≠ b → (T a).2.1 ≠ (T b).2.1) (hfin : (T k).2.2.2 = true) (hdecl : (T k).1 = own) {v : Value} (hn : narrow (ty0 k) v = v) (hfit : fits (ty0 k) v = true) (hl : k < fs.length) {index : Nat} (hk : Cond.fieldLink own index (T k).1 (T k).2.1 (T k).2.2.1 ∈ WG) (hdg : decode cc pc = .ok (.putfield index, 3)) (ws1 : va_W) (hws : ws.set q0 (a, .inr (ci, fs.set k v)) = ws1)
    (kk : ∀ (H1 : Heap) (locs1 : List Loc), CW G ws1 A s.heap H1 locs1 → W p l e R s m args below meth c H1 locs1 cells slots Q (F0 m (pc + 3) ls rest)) : W p l e R s m args below meth c H locs cells slots Q (F0 m pc ls (v :: .ref a :: rest)) := by
  subst hws
  rw [← hdecl] at hk
  exact va_putF C.1 C.2.1 C.2.2.2.2.1 hf.2.1 ty0 htk hnm C.2.2.2.1 C.2.2.2.2.2.2.2.1.1 hG.1 hG.2.1 hG.2.2 q0 he hf.1 k hf.2.2 (C.2.2.2.2.1 _ (hdecl ▸ hk)) (fun _ h9 => h9) hfin C.2.2.2.2.2.2.2.2 hdecl (htk k hf.2.2) hn hfit hl hdg (fun H1 locs1 hP hD hS => kk H1 locs1 ⟨hP, hD, hS⟩)
theorem kPut (C : CK p s m args meth c own cc nL G) (hG : CW G ws A s.heap H locs) (q0 : Nat) {a ci : Nat} {fs : List Value} (he : ws[q0]? = some (a, .inr (ci, fs))) {k : Nat} {CC : String} {T : u_T} {N : Nat} (hf : FI ci k CC T N) {ty0 : Nat → FieldType} (htk : ∀ k, k < N → parseFieldDescriptor (T k).2.2.1 = some (ty0 k)) (hnm : ∀ a, a < N → ∀ b, b < N → a ≠ b → (T a).2.1 ≠ (T b).2.1) (hfin : (T k).2.2.2 = false) {v : Value} (hn : narrow (ty0 k) v = v) (hfit : fits (ty0 k) v = true) (hl : k < fs.length) {index : Nat} (hk : Cond.fieldLink own index (T k).1 (T k).2.1 (T k).2.2.1 ∈ WG) (hdg : decode cc pc = .ok (.putfield index, 3)) (ws1 : va_W) (hws : ws.set q0 (a, .inr (ci, fs.set k v)) = ws1)
    (kk : ∀ (H1 : Heap) (locs1 : List Loc), CW G ws1 A s.heap H1 locs1 → W p l e R s m args below meth c H1 locs1 cells slots Q (F0 m (pc + 3) ls rest)) : W p l e R s m args below meth c H locs cells slots Q (F0 m pc ls (v :: .ref a :: rest)) := by
  subst hws
  exact va_put C.1 C.2.1 C.2.2.2.2.1 hf.2.1 ty0 htk hnm C.2.2.2.1 C.2.2.2.2.2.2.2.1.1 hG.1 hG.2.1 hG.2.2 q0 he hf.1 k hf.2.2 (C.2.2.2.2.1 _ hk) (fun _ h9 => h9) hfin (htk k hf.2.2) hn hfit hl hdg (fun H1 locs1 hP hD hS => kk H1 locs1 ⟨hP, hD, hS⟩)
theorem kGet (C : CK p s m args meth c own cc nL G) (hG : CW G ws A s.heap H locs) (q0 : Nat) {a ci : Nat} {fs : List Value} (he : ws[q0]? = some (a, .inr (ci, fs))) {k : Nat} {CC : String} {T : u_T} {N : Nat} (hf : FI ci k CC T N) {v : Value} (hv : fs[k]? = some v) {index : Nat} (hk : Cond.fieldLink own index (T k).1 (T k).2.1 (T k).2.2.1 ∈ WG) (hdg : decode cc pc = .ok (.getfield index, 3))
    (kk : W p l e R s m args below meth c H locs cells slots Q (F0 m (pc + 3) ls (v :: rest))) : W p l e R s m args below meth c H locs cells slots Q (F0 m pc ls (.ref a :: rest)) :=
  va_get C.1 C.2.1 C.2.2.2.2.1 hf.2.1 C.2.2.2.1 C.2.2.2.2.2.2.2.1.1 hG.1 q0 he hf.1 k hf.2.2 (C.2.2.2.2.1 _ hk) (fun _ h9 => h9) hv hdg kk
theorem kIast (C : CK p s m args meth c own cc nL G) (hG : CW G ws A s.heap H locs) (q0 : Nat) {a n : Nat} {f : Nat → Int32} (he : ws[q0]? = some (a, eI G n f)) {i x : Int32} (j : Nat) (hj : i.toNatClampNeg = j) (hin : inb i n = true) (hdg : decode cc pc = .ok (.iastore, 1)) (ws1 : va_W) (hws : ws.set q0 (a, eI G n (upd f j x)) = ws1)
    (kk : ∀ (H1 : Heap) (locs1 : List Loc), CW G ws1 A s.heap H1 locs1 → W p l e R s m args below meth c H1 locs1 cells slots Q (F0 m (pc + 1) ls rest)) : W p l e R s m args below meth c H locs cells slots Q (F0 m pc ls (.int x :: .int i :: .ref a :: rest)) := by
  subst hws
  subst hj
  exact va_iast C.1 C.2.1 C.2.2.2.2.2.2.2.1.1 hG.1 hG.2.1 hG.2.2 q0 0 he rfl (inb_in hin) hdg (fun H1 locs1 hP hD hS => kk H1 locs1 ⟨hP, hD, hS⟩)
theorem kAast (C : CK p s m args meth c own cc nL G) (hG : CW G ws A s.heap H locs) (q0 t0 qk : Nat) {a n v ci : Nat} {cA : ClassId} {f : Nat → Option Nat} {vs : List Value} (he : ws[q0]? = some (a, eQ cA n f)) {r : vw_C} (ht : (tysG G)[t0]? = some (cA, .object r.1)) (hv : ws[qk]? = some (v, .inr (ci, vs))) (hc : clsG[ci]? = some r) {i : Int32} (j : Nat) (hj : i.toNatClampNeg = j) (hin : inb i n = true) (hdg : decode cc pc = .ok (.aastore, 1)) (ws1 : va_W) (hws : ws.set q0 (a, eQ cA n (va_up f j (some v))) = ws1)
    (kk : ∀ (H1 : Heap) (locs1 : List Loc), CW G ws1 A s.heap H1 locs1 → W p l e R s m args below meth c H1 locs1 cells slots Q (F0 m (pc + 1) ls rest)) : W p l e R s m args below meth c H locs cells slots Q (F0 m pc ls (.ref v :: .int i :: .ref a :: rest)) := by
  subst hws
  subst hj
  exact va_astq C.1 C.2.1 C.2.2.2.2.2.2.2.1.1 hG.1 hG.2.1 hG.2.2 q0 t0 qk ci he ht hv hc (inb_in hin) hdg (fun H1 locs1 hP hD hS => kk H1 locs1 ⟨hP, hD, hS⟩)
theorem kMna (C : CK p s m args meth c own cc nL G) (hA : ∀ q, s.heap.size ≤ q → A q) (hG : CW G ws A s.heap H locs) {index : Nat} (hk : Cond.classLink own index "[[I" ∈ WG) (hw : Cond.arrayClass .int ∈ WG) (hc : cells + 6 ≤ R.cells ∧ slots + 35 ≤ R.slots) (hdg : decode cc pc = .ok (.multianewarray index 2, 4))
    (kk : ∀ (q f0 f1 f2 f3 f4 : Nat) (H1 : Heap), CW G (ws ++ [(q, eQ (gF G) 5 (fun i => ([f0, f1, f2, f3, f4] : List Nat)[i]?)), (f0, eI G 6 zf0), (f1, eI G 6 zf0), (f2, eI G 6 zf0), (f3, eI G 6 zf0), (f4, eI G 6 zf0)]) A s.heap H1 locs → W p l e R s m args below meth c H1 locs (cells + 6) (slots + 35) Q (F0 m (pc + 4) ls (.ref q :: rest))) : W p l e R s m args below meth c H locs cells slots Q (F0 m pc ls (.int 6 :: .int 5 :: rest)) := by
  refine mna_row C.1 C.2.1 C.2.2.2.1 (C.2.2.2.2.1 _ hk) C.2.2.2.2.2.2.2.1.2.2.2.2 (C.2.2.2.2.1 _ hw) hc.1 hc.2 hdg (fun cA cI H1 n1 n2 z1 o1 e1 e2 => ?_)
  have hK := C.2.2.2.2.2.2.2.1.1
  have a1 : cA = gF G := Option.some.inj (n1.symm.trans (hK.2 3 _ rfl).2)
  have a2 : cI = gI G := Option.some.inj (n2.symm.trans (hK.2 0 _ rfl).2)
  subst a1
  subst a2
  have hlt : ∀ (k : Nat) (x : Nat × va_E), ws[k]? = some x → x.1 < H.size := fun k x hx => (hG.1 k x hx).lt
  refine kk H.size (H.size + 1) (H.size + 1 + 1) (H.size + 1 + 2) (H.size + 1 + 3) (H.size + 1 + 4) H1 ⟨?_, ?_, Nat.le_trans hG.2.2.1 (by omega), fun x h1 h2 => (o1 x (Nat.lt_of_lt_of_le h1 hG.2.2.1)).trans (hG.2.2.2.1 x h1 h2), hG.2.2.2.2⟩
  · refine (hG.1.kept (fun k x hx => o1 x.1 (hlt k x hx))).app (fun k x hx => ?_)
    have hk6 : k < 6 := (List.getElem?_eq_some_iff.mp hx).1
    rcases (show k = 0 ∨ k = 1 ∨ k = 2 ∨ k = 3 ∨ k = 4 ∨ k = 5 by omega) with rfl | rfl | rfl | rfl | rfl | rfl
    · cases hx
      show H1[H.size]? = some (vp_cell _ _)
      rw [e1, vp_cell_q, vp_cell_q]
      refine congrArg some ?_
      unfold arrV
      congr 1
    · cases hx; exact e2 0 (by decide)
    · cases hx; exact e2 1 (by decide)
    · cases hx; exact e2 2 (by decide)
    · cases hx; exact e2 3 (by decide)
    · cases hx; exact e2 4 (by decide)
  · have hD := hG.2.1
    have key : ∀ (k : Nat) (x : Nat × va_E), ([(H.size, eQ (gF G) 5 (fun i => ([H.size + 1, H.size + 1 + 1, H.size + 1 + 2, H.size + 1 + 3, H.size + 1 + 4] : List Nat)[i]?)), (H.size + 1, eI G 6 zf0), (H.size + 1 + 1, eI G 6 zf0), (H.size + 1 + 2, eI G 6 zf0), (H.size + 1 + 3, eI G 6 zf0), (H.size + 1 + 4, eI G 6 zf0)] : va_W)[k]? = some x → x.1 = H.size + k := by
      intro k x hx
      have hk6 : k < 6 := (List.getElem?_eq_some_iff.mp hx).1
      rcases (show k = 0 ∨ k = 1 ∨ k = 2 ∨ k = 3 ∨ k = 4 ∨ k = 5 by omega) with rfl | rfl | rfl | rfl | rfl | rfl <;> cases hx <;> dsimp only <;> omega
    refine hD.app ⟨fun i j x y hi hj hxy => ?_, fun k x hx => ?_⟩ (fun i j x y hi hj hxy => ?_)
    · have h1 := key i x hi
      have h2 := key j y hj
      omega
    · rw [key k x hx]
      exact hA _ (Nat.le_trans hG.2.2.1 (by omega))
    · have h1 := hlt i x hi
      have h2 := key j y hj
      omega
theorem kObj (C : CK p s m args meth c own cc nL G) {index : Nat} (hk : Cond.methodLink own index Lib.objectInit ∈ WG) (h1 : Cond.instanceMethod Lib.objectInit ∈ WG) (h2 : Cond.code Lib.objectInit ⟨#[0xb1]⟩ 1 none ∈ WG) (hsize : ls.size = nL) {a : Nat} (hdg : decode cc pc = .ok (.invokespecial index, 3)) (hf : 1 ≤ R.frames) (hl : (rest.map fun v => v.category).sum + 12 ≤ R.locals) (kk : W p l e R s m args below meth c H locs cells slots Q (F0 m (pc + 3) ls rest)) : W p l e R s m args below meth c H locs cells slots Q (F0 m pc ls (.ref a :: rest)) := by
  have ht := C.2.2.2.2.1
  refine W.objInit C.1 C.2.1 C.2.2.2.1 (ht _ hk) (ht _ h1) (ht _ h2) rfl (by rw [C.2.2.1]; exact hsize) rfl hdg hf (by show 2 * 0 + _ + 12 ≤ _; omega) kk
/-- a constructor's contract: out of one cell (and a text's array) a world -/
def PC (G : GT) (ws : va_W) (sz : Nat) (U : State) : Prop := U.heap.size = sz ∧ va_P (gD G) clsG ws U.heap ∧ KC G U ∧ va_D (fun _ => True) ws
def Qn {S : Type} (G : GT) (w1 : S → va_W) (A : Nat → Prop) : Array Value → State → Outcome → State → Prop := va_Qv (fun (_ : S) => True) (fun u t => va_P (gD G) clsG (w1 u) t.heap ∧ va_D A (w1 u)) A
abbrev Mk {S : Type} (l : Launch) (y : MethodName) (rm : Room) (b : ByteArray) (n : Nat) (G : GT) (ws : va_W) (sz : Nat) (av : List Value) (w1 : S → va_W) : Prop := Met l y (wsF y b n none) rm (va_Pc av (PC G ws sz)) (Qn G w1 (va_A ws sz)) rm.cells rm.slots (va_A ws sz)
theorem entK {y : MethodName} {b : ByteArray} {n : Nat} {rm : Room} {av : List Value} {ws : va_W} {sz : Nat} {S : Type} {w1 : S → va_W} (hy : plainName y.cls = true) (hn : (lg_sl av).length ≤ n) (hi : y.name = "<init>")
    (body : ∀ (p : Program) (e : Env) (s : State) (m : MethodId) (below : List Frame) (meth : Method) (c : Code), s.heap.size = sz → CK p s m av.toArray meth c y.cls b n G → (∀ q, s.heap.size ≤ q → va_A ws sz q) → CW G ws (va_A ws sz) s.heap s.heap [] → ∀ ls : Array Slot, lv_has ls n (lv_args 0 av) → W p l e rm s m av.toArray below meth c s.heap [] 0 0 (MQ below (Qn G w1 (va_A ws sz)) av.toArray s rm.cells rm.slots (va_A ws sz)) (F0 m 0 ls [])) :
    Mk l y rm b n G ws sz av w1 := by
  refine Met.ofW (cc := b) (maxL := n) (ret := none) hy rfl ?_
  intro p e s m args below meth c s₁ B hml hv
  obtain ⟨rfl, hz, hP, hK, hD⟩ := hv
  have hts := atoms_spec (ws := wsF y b n none) B.pre
  have C : CK p s m av.toArray meth c y.cls b n G := ⟨B.exec, B.bytes, hml, findClass_of_methodNamed B.named, fun w hw => hts w (List.mem_cons_of_mem _ hw), B.returns, B.notSynchronized, hK, (name_of_methodNamed B.named B.method).1.trans hi⟩
  have hl := lv_entry av (n := n) hn
  rw [lg_entry_eq]
  exact body p e s m below meth c hz C (fun q h => Or.inr (by rw [hz] at h; exact h)) ⟨hP, hD.self, va_S.rf⟩ _ hl
theorem kRet (C : CK p s m args meth c own cc nL G) {ws0 : va_W} {sz : Nat} {S : Type} {w1 : S → va_W} (hG : CW G ws (va_A ws0 sz) s.heap H locs) (u : S) (hu : w1 u = ws) (hdg : decode cc pc = .ok (.return_, 1)) :
    W p l e R s m args below meth c H locs cells slots (MQ below (Qn G w1 (va_A ws0 sz)) args s cells slots (va_A ws0 sz)) (F0 m pc ls []) := by
  subst hu
  exact W.vret C.1 C.2.1 C.2.2.2.2.2.1 (fun t ht hW => ⟨⟨u, rfl, trivial, by rw [ht]; exact hG.1, hG.2.1⟩, hG.2.2.F ht⟩) hG.2.2.2.2 hdg C.2.2.2.2.2.2.1
theorem PC.blind {ws : va_W} {sz : Nat} (av : List Value) : FrameBlind (va_Pc av (PC G ws sz)) := fun _ _ _ _ h => ⟨h.1, h.2.1, h.2.2.1, h.2.2.2.1.calling, h.2.2.2.2⟩
/-- a constructor that a nest mate calls -/
theorem kCallN {y : MethodName} {b : ByteArray} {n : Nat} {rm : Room} {wc : va_W} {S : Type} {w1 : S → va_W} {index : Nat} {host : String} {st0 : List Value} (As rest : List Value) {a k : Nat} (C : CK p s m args meth c own cc nL G) (hA : ∀ q, s.heap.size ≤ q → A q) (hG : CW G ws A s.heap H locs) (isC isR : List Nat) (hM : Mk l y rm b n G wc H.size (.ref a :: As) w1) (hc : Cond.code y b n none ∈ WG) (hini : Cond.initialized y.cls ∈ WG) (hin : Cond.instanceMethod y ∈ WG) (hi : y.name = "<init>") (hno : y.cls ≠ "java/lang/invoke/MethodHandle" ∧ y.cls ≠ "java/lang/invoke/VarHandle" ∧ (parseMethodDescriptor y.desc).map (fun d => d.parameters.length) = some k) (hk : va_Nw (.methodLinkNest own index y host) s)
    (hR : rm.frames + 1 ≤ R.frames ∧ 8 + (n + 11) + rm.locals ≤ R.locals) (hn : As.length = k) (hsize : ls.size = nL) (hw : (rest.map fun v => v.category).sum ≤ 8) (hdg : decode cc pc = .ok (.invokespecial index, 3)) (hf : cells + rm.cells ≤ R.cells ∧ slots + rm.slots ≤ R.slots) (hst : st0 = As.reverse ++ .ref a :: rest)
    (wr : va_W) (hC : isC.map (fun i => ws[i]?) = wc.map some) (hRr : isR.map (fun i => ws[i]?) = wr.map some) (hCn : va_nd isC = true) (hRn : va_nd isR = true) (hdis : ∀ i ∈ isR, i ∉ isC) (hsub : isC.filterMap (fun i => ws[i]?) = wc)
    (kk : ∀ (u : S) (H1 : Heap) (locs1 : List Loc), CW G (wr ++ w1 u) A s.heap H1 locs1 → W p l e R s m args below meth c H1 locs1 (cells + rm.cells) (slots + rm.slots) Q (F0 m (pc + 3) ls rest)) : W p l e R s m args below meth c H locs cells slots Q (F0 m pc ls st0) := by
  subst hst
  have hF := va_free (wc := wc) hG.2.1 hG.2.2 hA isC hC
  have hPc := hG.1.sub isC hsub
  have hDc := hG.2.1.sub isC hCn hC
  have ht := C.2.2.2.2.1
  have hr := va_runIN (rest := rest) (As := As) (b := a) (g := F0 m pc ls (As.reverse ++ .ref a :: rest)) (cells := cells) (slots := slots) (locs := locs) (H := H) (p := p) (l := l) (e := e) (below := below) (meth := meth) (R := R) ⟨C.1, C.2.1, C.2.2.1, C.2.2.2.1, ht⟩ hM ⟨va_cnB k ht (goodIn_F hc) rfl rfl rfl hk (ht _ hini) hno hR, hi, ht _ hin⟩ ⟨PC.blind _, fun U hU hW => ⟨rfl, by rw [hU], by rw [hU]; exact hPc, C.2.2.2.2.2.2.2.1.warm hW, hDc.weaken (fun _ _ _ _ => trivial)⟩⟩ rfl hn hsize rfl (lv_room hw) hdg hf
  refine va_callv hr hG.2.2 (fun q _ h => hF q h) hF (fun u t H1 locs1 htt hvm hwz hB hz1 hk1 hS => ?_)
  obtain ⟨hP1, hD1⟩ := hB
  rw [htt] at hP1
  obtain ⟨hP2, hD2⟩ := va_join hG.1 hG.2.1 isC isR hC hRr hRn hdis hk1 hF hP1 hD1
  exact kk u H1 locs1 ⟨hP2, hD2, hS⟩
/-- the same by the class's own link -/
theorem kCallI {y : MethodName} {b : ByteArray} {n : Nat} {rm : Room} {wc : va_W} {S : Type} {w1 : S → va_W} {index : Nat} {st0 : List Value} (As rest : List Value) {a k : Nat} (C : CK p s m args meth c own cc nL G) (hA : ∀ q, s.heap.size ≤ q → A q) (hG : CW G ws A s.heap H locs) (isC isR : List Nat) (hM : Mk l y rm b n G wc H.size (.ref a :: As) w1) (hc : Cond.code y b n none ∈ WG) (hini : Cond.initialized y.cls ∈ WG) (hin : Cond.instanceMethod y ∈ WG) (hi : y.name = "<init>") (hno : y.cls ≠ "java/lang/invoke/MethodHandle" ∧ y.cls ≠ "java/lang/invoke/VarHandle" ∧ (parseMethodDescriptor y.desc).map (fun d => d.parameters.length) = some k) (hk : Cond.methodLink own index y ∈ WG)
    (hR : rm.frames + 1 ≤ R.frames ∧ 8 + (n + 11) + rm.locals ≤ R.locals) (hn : As.length = k) (hsize : ls.size = nL) (hw : (rest.map fun v => v.category).sum ≤ 8) (hdg : decode cc pc = .ok (.invokespecial index, 3)) (hf : cells + rm.cells ≤ R.cells ∧ slots + rm.slots ≤ R.slots) (hst : st0 = As.reverse ++ .ref a :: rest)
    (wr : va_W) (hC : isC.map (fun i => ws[i]?) = wc.map some) (hRr : isR.map (fun i => ws[i]?) = wr.map some) (hCn : va_nd isC = true) (hRn : va_nd isR = true) (hdis : ∀ i ∈ isR, i ∉ isC) (hsub : isC.filterMap (fun i => ws[i]?) = wc)
    (kk : ∀ (u : S) (H1 : Heap) (locs1 : List Loc), CW G (wr ++ w1 u) A s.heap H1 locs1 → W p l e R s m args below meth c H1 locs1 (cells + rm.cells) (slots + rm.slots) Q (F0 m (pc + 3) ls rest)) : W p l e R s m args below meth c H locs cells slots Q (F0 m pc ls st0) := by
  subst hst
  have hF := va_free (wc := wc) hG.2.1 hG.2.2 hA isC hC
  have hPc := hG.1.sub isC hsub
  have hDc := hG.2.1.sub isC hCn hC
  have ht := C.2.2.2.2.1
  have hr := va_runI (rest := rest) (As := As) (b := a) (g := F0 m pc ls (As.reverse ++ .ref a :: rest)) (cells := cells) (slots := slots) (locs := locs) (H := H) (p := p) (l := l) (e := e) (below := below) (meth := meth) (R := R) ⟨C.1, C.2.1, C.2.2.1, C.2.2.2.1, ht⟩ hM (cwI k ht (goodIn_F hc) rfl rfl rfl (ht _ hini) (ht _ hk) (ht _ hin) hi hno hR) ⟨PC.blind _, fun U hU hW => ⟨rfl, by rw [hU], by rw [hU]; exact hPc, C.2.2.2.2.2.2.2.1.warm hW, hDc.weaken (fun _ _ _ _ => trivial)⟩⟩ rfl hn hsize rfl (lv_room hw) hdg hf
  refine va_callv hr hG.2.2 (fun q _ h => hF q h) hF (fun u t H1 locs1 htt hvm hwz hB hz1 hk1 hS => ?_)
  obtain ⟨hP1, hD1⟩ := hB
  rw [htt] at hP1
  obtain ⟨hP2, hD2⟩ := va_join hG.1 hG.2.1 isC isR hC hRr hRn hdis hk1 hF hP1 hD1
  exact kk u H1 locs1 ⟨hP2, hD2, hS⟩
end RC
