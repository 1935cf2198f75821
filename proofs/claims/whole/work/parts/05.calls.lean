/-! returns, entries, calls over the world -/
section RW2
variable {p : Program} {l : Launch} {e : Env} {R : Room} {s : State} {m : MethodId} {args : Array Value} {below : List Frame} {meth : Method} {c : Code} {H : Heap} {locs : List Loc} {cells slots : Nat} {Q : State → Prop}
variable {own : String} {cc : ByteArray} {nL : Nat} {ret : Option FieldType} {G : GT} {I : List Nat} {A0 : Nat → Prop} {z : Sg} {pc : Nat} {ls : Array Slot} {rest : List Value} {α : Type} {rs : α}
theorem PB.of {U : State} (hA : ∀ q, AD G I q → A0 q) (hB : KB G A0 s) (hG : GWA G I A0 z s.heap H locs) (hW : s.WarmedH U.vm) (hU : U.heap = H) : PB G I z U := ⟨(hB.step hG.2.2 hW hU).narrow hA, by rw [hU]; exact hG.1, ⟨hG.2.1.1, fun k q hq => by
  unfold wsI at hq
  rw [List.getElem?_map] at hq
  cases hj : I[k]? with
  | none => rw [hj] at hq; cases hq
  | some b => rw [hj] at hq; cases hq; exact AD_at (List.mem_of_getElem? hj)⟩⟩
theorem rReti (C : CX p s m args meth c own cc nL (some .int) G I) (hG : GW G I z s.heap H locs) {x R1 : Int32} {Z : Sg} (h : some (x, z) = some (R1, Z)) (hdg : decode cc pc = .ok (.ireturn, 1)) :
    W p l e R s m args below meth c H locs 0 0 (MQ below (Qi G I R1 Z) args s 0 0 (AD G I)) (F0 m pc ls [.int x]) := by
  cases h
  exact W.iret C.1 C.2.1 C.2.2.2.2.2.1 (fun t ht hW => ⟨⟨x, (), rfl, rfl, PB.of C.2.2.2.2.2.2.1.2 C.2.2.2.2.2.2.2 hG hW ht⟩, hG.2.2.F ht⟩) hG.2.2.2.2 hdg C.2.2.2.2.2.2.1.1
/-- an answer of a smaller type, that it holds -/
theorem rRetn (C : CX p s m args meth c own cc nL ret G I) (hG : GW G I z s.heap H locs) {ty : FieldType} (hty : ret = some ty) {x R1 : Int32} {Z : Sg} (hn : narrow ty (.int x) = .int x) (h : some (x, z) = some (R1, Z)) (hdg : decode cc pc = .ok (.ireturn, 1)) :
    W p l e R s m args below meth c H locs 0 0 (MQ below (Qi G I R1 Z) args s 0 0 (AD G I)) (F0 m pc ls [.int x]) := by
  cases h
  exact W.zret C.1 C.2.1 (C.2.2.2.2.2.1.trans hty) hn (fun t ht hW => ⟨⟨x, (), rfl, rfl, PB.of C.2.2.2.2.2.2.1.2 C.2.2.2.2.2.2.2 hG hW ht⟩, hG.2.2.F ht⟩) hG.2.2.2.2 hdg C.2.2.2.2.2.2.1.1
theorem rRetl (C : CX p s m args meth c own cc nL (some .long) G I) (hG : GW G I z s.heap H locs) {x R1 : Int64} {Z : Sg} (h : some (x, z) = some (R1, Z)) (hdg : decode cc pc = .ok (.lreturn, 1)) :
    W p l e R s m args below meth c H locs 0 0 (MQ below (Ql G I R1 Z) args s 0 0 (AD G I)) (F0 m pc ls [.long x]) := by
  cases h
  exact W.lret C.1 C.2.1 C.2.2.2.2.2.1 (fun t ht hW => ⟨⟨x, (), rfl, rfl, PB.of C.2.2.2.2.2.2.1.2 C.2.2.2.2.2.2.2 hG hW ht⟩, hG.2.2.F ht⟩) hG.2.2.2.2 hdg C.2.2.2.2.2.2.1.1
theorem rRetv (C : CX p s m args meth c own cc nL none G I) (hG : GW G I z s.heap H locs) {Z : Sg} (h : some z = some Z) (hdg : decode cc pc = .ok (.return_, 1)) :
    W p l e R s m args below meth c H locs 0 0 (MQ below (Qv G I Z) args s 0 0 (AD G I)) (F0 m pc ls []) := by
  cases h
  exact W.vret C.1 C.2.1 C.2.2.2.2.2.1 (fun t ht hW => ⟨⟨(), rfl, trivial, PB.of C.2.2.2.2.2.2.1.2 C.2.2.2.2.2.2.2 hG hW ht⟩, hG.2.2.F ht⟩) hG.2.2.2.2 hdg C.2.2.2.2.2.2.1.1
/-- a contract out of its body's walk -/
theorem entM {y : MethodName} {b : ByteArray} {n : Nat} {rm : Room} {av : List Value} {Qc : Array Value → State → Outcome → State → Prop} (hy : plainName y.cls = true) (hn : (lg_sl av).length ≤ n)
    (body : ∀ (p : Program) (e : Env) (s : State) (m : MethodId) (below : List Frame) (meth : Method) (c : Code), CX p s m av.toArray meth c y.cls b n ret G I → GW G I z s.heap s.heap [] → ∀ ls : Array Slot, lv_has ls n (lv_args 0 av) → W p l e rm s m av.toArray below meth c s.heap [] 0 0 (MQ below Qc av.toArray s 0 0 (AD G I)) (F0 m 0 ls [])) :
    Mt l y rm b n ret G I z av Qc := by
  refine Met.ofW (cc := b) (maxL := n) (ret := ret) hy rfl ?_
  intro p e s m args below meth c s₁ B hml hv
  obtain ⟨rfl, hB, hP, hD⟩ := hv
  have hts := atoms_spec (ws := wsF y b n ret) B.pre
  have C : CX p s m av.toArray meth c y.cls b n ret G I := ⟨B.exec, B.bytes, hml, findClass_of_methodNamed B.named, fun w hw => hts w (List.mem_cons_of_mem _ hw), B.returns, ⟨B.notSynchronized, fun _ h => h⟩, hB⟩
  have hG : GW G I z s.heap s.heap [] := ⟨hP, hD, va_S.rf⟩
  have hl := lv_entry av (n := n) hn
  rw [lg_entry_eq]
  exact body p e s m below meth c C hG _ hl
/-- the same for a member of a class that the machine has entries of -/
theorem entMF {y : MethodName} {b : ByteArray} {n : Nat} {rm : Room} {av : List Value} {Qc : Array Value → State → Outcome → State → Prop} (hy : plainFor y = true) (hn : (lg_sl av).length ≤ n)
    (body : ∀ (p : Program) (e : Env) (s : State) (m : MethodId) (below : List Frame) (meth : Method) (c : Code), CX p s m av.toArray meth c y.cls b n ret G I → GW G I z s.heap s.heap [] → ∀ ls : Array Slot, lv_has ls n (lv_args 0 av) → W p l e rm s m av.toArray below meth c s.heap [] 0 0 (MQ below Qc av.toArray s 0 0 (AD G I)) (F0 m 0 ls [])) :
    Mt l y rm b n ret G I z av Qc := by
  refine va_MetF (cc := b) (maxL := n) (ret := ret) hy rfl ?_
  intro p e s m args below meth c s₁ B hml hv
  obtain ⟨rfl, hB, hP, hD⟩ := hv
  have hts := atoms_spec (ws := wsF y b n ret) B.pre
  have C : CX p s m av.toArray meth c y.cls b n ret G I := ⟨B.exec, B.bytes, hml, findClass_of_methodNamed B.named, fun w hw => hts w (List.mem_cons_of_mem _ hw), B.returns, ⟨B.notSynchronized, fun _ h => h⟩, hB⟩
  have hG : GW G I z s.heap s.heap [] := ⟨hP, hD, va_S.rf⟩
  have hl := lv_entry av (n := n) hn
  rw [lg_entry_eq]
  exact body p e s m below meth c C hG _ hl
/-- what a call needs of the words, but its link -/
def MV (y : MethodName) (b : ByteArray) (n : Nat) (r : Option FieldType) (k : Nat) : Prop :=
  (Cond.instanceMethod y ∈ WG ∧ Cond.selects y.cls y y ∈ WG) ∧ Cond.code y b n r ∈ WG ∧ Cond.initialized y.cls ∈ WG ∧ y.cls ≠ "java/lang/invoke/MethodHandle" ∧ y.cls ≠ "java/lang/invoke/VarHandle" ∧ (parseMethodDescriptor y.desc).map (fun d => d.parameters.length) = some k
def MS (y : MethodName) (b : ByteArray) (n : Nat) (r : Option FieldType) (k : Nat) : Prop :=
  Cond.static y ∈ WG ∧ Cond.code y b n r ∈ WG ∧ Cond.initialized y.cls ∈ WG ∧ y.cls ≠ "java/lang/invoke/MethodHandle" ∧ y.cls ≠ "java/lang/invoke/VarHandle" ∧ (parseMethodDescriptor y.desc).map (fun d => d.parameters.length) = some k
theorem goodIn_F {y : MethodName} {b : ByteArray} {n : Nat} {r : Option FieldType} (h : Cond.code y b n r ∈ WG) : GoodIn WG (wsF y b n r) := by
  intro w hw
  rcases List.mem_cons.mp hw with rfl | hw
  · exact ⟨h, wg_good h⟩
  · exact ⟨hw, wg_good hw⟩
section CW
variable {y : MethodName} {b : ByteArray} {n k : Nat} {r : Option FieldType} {index : Nat} {rm : Room} {Qc : Array Value → State → Outcome → State → Prop} {As : List Value} {a : Nat}
theorem rRunV (C : CXA p s m args meth c own cc nL ret G I A0) (hG : GWA G I A0 z s.heap H locs) (hM : Mt l y rm b n r G I z (.ref a :: As) Qc) (mv : MV y b n r k) (hk : Cond.methodLink own index y ∈ WG) (hR : rm.frames + 1 ≤ R.frames ∧ 8 + (n + 11) + rm.locals ≤ R.locals) (hc : rm.cells = 0 ∧ rm.slots = 0)
    (hv : ∃ cellB : Cell, H[a]? = some cellB ∧ cellB.vm.isStatics = false ∧ s.vm.findClass y.cls = some cellB.cls) (hn : As.length = k) (hsize : ls.size = nL) (hw : (rest.map fun v => v.category).sum ≤ 8) (hdg : decode cc pc = .ok (.invokevirtual index, 3)) (hf : cells ≤ R.cells ∧ slots ≤ R.slots) :
    va_Run p l e R s m args below meth c H locs cells slots 0 0 (F0 m pc ls (As.reverse ++ .ref a :: rest)) rest (Qc (Value.ref a :: As).toArray) (AD G I) := by
  have ht := C.2.2.2.2.1
  obtain ⟨⟨v1, v2⟩, v3, v4, v5, v6, v7⟩ := mv
  refine va_runV (Ts := WG) (C := y.cls) (n := k) ⟨C.1, C.2.1, C.2.2.1, C.2.2.2.1, ht⟩ hM ⟨callB_of k ht (goodIn_F v3) rfl hc.1 hc.2 (ht _ v4) (ht _ hk) ⟨v5, v6, v7⟩ hR, ht _ v1, ht _ v2⟩ ⟨PB.blind _, hv, fun U hU hW => ⟨rfl, PB.of C.2.2.2.2.2.2.1.2 C.2.2.2.2.2.2.2 hG hW hU⟩⟩ rfl hn hsize rfl (lv_room hw) hdg hf
theorem rRunS (C : CXA p s m args meth c own cc nL ret G I A0) (hG : GWA G I A0 z s.heap H locs) (hM : Mt l y rm b n r G I z As Qc) (mv : MS y b n r k) (hk : Cond.methodLink own index y ∈ WG) (hR : rm.frames + 1 ≤ R.frames ∧ 8 + (n + 11) + rm.locals ≤ R.locals) (hc : rm.cells = 0 ∧ rm.slots = 0)
    (hn : As.length = k) (hsize : ls.size = nL) (hw : (rest.map fun v => v.category).sum ≤ 8) (hdg : decode cc pc = .ok (.invokestatic index, 3)) (hf : cells ≤ R.cells ∧ slots ≤ R.slots) :
    va_Run p l e R s m args below meth c H locs cells slots 0 0 (F0 m pc ls (As.reverse ++ rest)) rest (Qc As.toArray) (AD G I) := by
  have ht := C.2.2.2.2.1
  obtain ⟨v1, v3, v4, v5, v6, v7⟩ := mv
  refine va_runS (Ts := WG) (n := k) ⟨C.1, C.2.1, C.2.2.1, C.2.2.2.1, ht⟩ hM ⟨callB_of k ht (goodIn_F v3) rfl hc.1 hc.2 (ht _ v4) (ht _ hk) ⟨v5, v6, v7⟩ hR, ht _ v1⟩ ⟨PB.blind _, fun U hU hW => ⟨rfl, PB.of C.2.2.2.2.2.2.1.2 C.2.2.2.2.2.2.2 hG hW hU⟩⟩ rfl hn hsize rfl (lv_room hw) hdg hf
theorem rRunSN {host : String} (C : CXA p s m args meth c own cc nL ret G I A0) (hG : GWA G I A0 z s.heap H locs) (hM : Mt l y rm b n r G I z As Qc) (mv : MS y b n r k) (hk : va_Nw (.methodLinkNest own index y host) s) (hR : rm.frames + 1 ≤ R.frames ∧ 8 + (n + 11) + rm.locals ≤ R.locals) (hc : rm.cells = 0 ∧ rm.slots = 0)
    (hn : As.length = k) (hsize : ls.size = nL) (hw : (rest.map fun v => v.category).sum ≤ 8) (hdg : decode cc pc = .ok (.invokestatic index, 3)) (hf : cells ≤ R.cells ∧ slots ≤ R.slots) :
    va_Run p l e R s m args below meth c H locs cells slots 0 0 (F0 m pc ls (As.reverse ++ rest)) rest (Qc As.toArray) (AD G I) := by
  have ht := C.2.2.2.2.1
  obtain ⟨v1, v3, v4, v5, v6, v7⟩ := mv
  refine va_runSN (Ts := WG) (n := k) ⟨C.1, C.2.1, C.2.2.1, C.2.2.2.1, ht⟩ hM ⟨va_cnB k ht (goodIn_F v3) rfl hc.1 hc.2 hk (ht _ v4) ⟨v5, v6, v7⟩ hR, ht _ v1, trivial⟩ ⟨PB.blind _, fun U hU hW => ⟨rfl, PB.of C.2.2.2.2.2.2.1.2 C.2.2.2.2.2.2.2 hG hW hU⟩⟩ rfl hn hsize rfl (lv_room hw) hdg hf
end CW
/-- behind a call: the world with the new ints -/
theorem rBacki (hA : ∀ q, AD G I q → A0 q) (hG : GWA G I A0 z s.heap H locs) {R1 : Int32} {Z : Sg} {a : Array Value} {st0 : List Value} (hr : va_Run p l e R s m args below meth c H locs cells slots 0 0 (F0 m pc ls st0) rest (Qi G I R1 Z a) (AD G I))
    (kk : ∀ (H1 : Heap) (locs1 : List Loc), GWA G I A0 Z s.heap H1 locs1 → W p l e R s m args below meth c H1 locs1 cells slots Q (F0 m (pc + 3) ls (.int R1 :: rest))) : W p l e R s m args below meth c H locs cells slots Q (F0 m pc ls st0) := by
  refine va_calli hr hG.2.2 (fun q _ h => hA q h) (fun q h => hA q h) (fun r u t H1 locs1 ht hvm hw hB hz hk hS => ?_)
  subst hw
  obtain ⟨-, hP, hD⟩ := hB
  rw [ht] at hP
  exact kk H1 locs1 ⟨hP, hD.weaken (fun _ q _ h => hA _ h), hS⟩
theorem rBackl (hA : ∀ q, AD G I q → A0 q) (hG : GWA G I A0 z s.heap H locs) {R1 : Int64} {Z : Sg} {a : Array Value} {st0 : List Value} (hr : va_Run p l e R s m args below meth c H locs cells slots 0 0 (F0 m pc ls st0) rest (Ql G I R1 Z a) (AD G I))
    (kk : ∀ (H1 : Heap) (locs1 : List Loc), GWA G I A0 Z s.heap H1 locs1 → W p l e R s m args below meth c H1 locs1 cells slots Q (F0 m (pc + 3) ls (.long R1 :: rest))) : W p l e R s m args below meth c H locs cells slots Q (F0 m pc ls st0) := by
  refine va_calll hr hG.2.2 (fun q _ h => hA q h) (fun q h => hA q h) (fun r u t H1 locs1 ht hvm hw hB hz hk hS => ?_)
  subst hw
  obtain ⟨-, hP, hD⟩ := hB
  rw [ht] at hP
  exact kk H1 locs1 ⟨hP, hD.weaken (fun _ q _ h => hA _ h), hS⟩
theorem rBackv (hA : ∀ q, AD G I q → A0 q) (hG : GWA G I A0 z s.heap H locs) {Z : Sg} {a : Array Value} {st0 : List Value} (hr : va_Run p l e R s m args below meth c H locs cells slots 0 0 (F0 m pc ls st0) rest (Qv G I Z a) (AD G I))
    (kk : ∀ (H1 : Heap) (locs1 : List Loc), GWA G I A0 Z s.heap H1 locs1 → W p l e R s m args below meth c H1 locs1 cells slots Q (F0 m (pc + 3) ls rest)) : W p l e R s m args below meth c H locs cells slots Q (F0 m pc ls st0) := by
  refine va_callv hr hG.2.2 (fun q _ h => hA q h) (fun q h => hA q h) (fun u t H1 locs1 ht hvm hw hB hz hk hS => ?_)
  obtain ⟨-, hP, hD⟩ := hB
  rw [ht] at hP
  exact kk H1 locs1 ⟨hP, hD.weaken (fun _ q _ h => hA _ h), hS⟩
/-- a receiver: an object of the world -/
theorem rRecv (C : CXA p s m args meth c own cc nL ret G I A0) (hG : GWA G I A0 z s.heap H locs) {b ci : Nat} {fl : (Nat → Int32) → List Value} (hm : b ∈ I) (hs : ∀ g, eW G b g = .inr (ci, fl g)) {CC : String} {T : u_T} {N : Nat} (hc : clsG[ci]? = some (CC, T, N)) : ∃ cellB : Cell, H[gA G b]? = some cellB ∧ cellB.vm.isStatics = false ∧ s.vm.findClass CC = some cellB.cls := by
  obtain ⟨q, hq⟩ := ws_pos hm
  have he := ws_get (G := G) (z := z) hq
  rw [hs] at he
  exact va_recv C.2.2.2.2.2.2.2.1 hG.1 hc he
end RW2
