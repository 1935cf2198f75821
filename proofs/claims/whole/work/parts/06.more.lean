/-! calls out of the pure function; constants, tables, copies, Math -/
def kaM (i : Int32) : Int32 := ([9, 11, 11, 999, 9999] : List Int32).getD i.toNatClampNeg 0
def kaK (i : Int32) : Int32 := ([-1, 0, 0, 1, 2, 0] : List Int32).getD i.toNatClampNeg 0
/-- a run of n numbers copied within bounds -/
def cpb (sp dp n : Int32) (n0 n1 : Nat) : Bool := !(decide (sp < 0) || decide (dp < 0) || decide (n < 0)) && decide (sp.toNatClampNeg + n.toNatClampNeg ≤ n0) && decide (dp.toNatClampNeg + n.toNatClampNeg ≤ n1)
def cpy (z : Sg) (a : Nat) (sp : Int32) (b : Nat) (dp n : Int32) : Sg := ur z b (va_cpy (z a) (z b) sp.toNatClampNeg dp.toNatClampNeg n.toNatClampNeg)
section RW3
variable {p : Program} {l : Launch} {e : Env} {R : Room} {s : State} {m : MethodId} {args : Array Value} {below : List Frame} {meth : Method} {c : Code} {H : Heap} {locs : List Loc} {cells slots : Nat} {Q : State → Prop}
variable {own : String} {cc : ByteArray} {nL : Nat} {ret : Option FieldType} {G : GT} {I : List Nat} {A0 : Nat → Prop} {z : Sg} {pc : Nat} {ls : Array Slot} {st0 : List Value} {α : Type} {rs : α}
section CW2
variable {y : MethodName} {b : ByteArray} {n k : Nat} {r : Option FieldType} {index : Nat} {rm : Room}
theorem rCVi (As : List Value) (rest : List Value) {a : Nat} (C : CXA p s m args meth c own cc nL ret G I A0) (hG : GWA G I A0 z s.heap H locs) {P : Option (Int32 × Sg)} {K : Int32 → Sg → Option α} (h : bnd P K = some rs) (hM : ∀ {x : Int32} {z1 : Sg}, P = some (x, z1) → Mt l y rm b n r G I z (.ref a :: As) (Qi G I x z1)) (mv : MV y b n r k) (hk : Cond.methodLink own index y ∈ WG) (hR : rm.frames + 1 ≤ R.frames ∧ 8 + (n + 11) + rm.locals ≤ R.locals) (hc : rm.cells = 0 ∧ rm.slots = 0)
    (hv : ∃ cellB : Cell, H[a]? = some cellB ∧ cellB.vm.isStatics = false ∧ s.vm.findClass y.cls = some cellB.cls) (hn : As.length = k) (hsize : ls.size = nL) (hw : (rest.map fun v => v.category).sum ≤ 8) (hdg : decode cc pc = .ok (.invokevirtual index, 3)) (hf : cells ≤ R.cells ∧ slots ≤ R.slots) (hst : st0 = As.reverse ++ .ref a :: rest)
    (kk : ∀ (H1 : Heap) (locs1 : List Loc) (x : Int32) (z1 : Sg), K x z1 = some rs → GWA G I A0 z1 s.heap H1 locs1 → W p l e R s m args below meth c H1 locs1 cells slots Q (F0 m (pc + 3) ls (.int x :: rest))) : W p l e R s m args below meth c H locs cells slots Q (F0 m pc ls st0) := by
  subst hst
  obtain ⟨x, z1, h1, h2⟩ := bnd_some h
  exact rBacki C.2.2.2.2.2.2.1.2 hG (rRunV C hG (hM h1) mv hk hR hc hv hn hsize hw hdg hf) (fun H1 locs1 hG1 => kk H1 locs1 x z1 h2 hG1)
theorem rCVv (As : List Value) (rest : List Value) {a : Nat} (C : CXA p s m args meth c own cc nL ret G I A0) (hG : GWA G I A0 z s.heap H locs) {P : Option Sg} {K : Sg → Option α} (h : bndv P K = some rs) (hM : ∀ {z1 : Sg}, P = some z1 → Mt l y rm b n r G I z (.ref a :: As) (Qv G I z1)) (mv : MV y b n r k) (hk : Cond.methodLink own index y ∈ WG) (hR : rm.frames + 1 ≤ R.frames ∧ 8 + (n + 11) + rm.locals ≤ R.locals) (hc : rm.cells = 0 ∧ rm.slots = 0)
    (hv : ∃ cellB : Cell, H[a]? = some cellB ∧ cellB.vm.isStatics = false ∧ s.vm.findClass y.cls = some cellB.cls) (hn : As.length = k) (hsize : ls.size = nL) (hw : (rest.map fun v => v.category).sum ≤ 8) (hdg : decode cc pc = .ok (.invokevirtual index, 3)) (hf : cells ≤ R.cells ∧ slots ≤ R.slots) (hst : st0 = As.reverse ++ .ref a :: rest)
    (kk : ∀ (H1 : Heap) (locs1 : List Loc) (z1 : Sg), K z1 = some rs → GWA G I A0 z1 s.heap H1 locs1 → W p l e R s m args below meth c H1 locs1 cells slots Q (F0 m (pc + 3) ls rest)) : W p l e R s m args below meth c H locs cells slots Q (F0 m pc ls st0) := by
  subst hst
  obtain ⟨z1, h1, h2⟩ := bndv_some h
  exact rBackv C.2.2.2.2.2.2.1.2 hG (rRunV C hG (hM h1) mv hk hR hc hv hn hsize hw hdg hf) (fun H1 locs1 hG1 => kk H1 locs1 z1 h2 hG1)
theorem rCVl (As : List Value) (rest : List Value) {a : Nat} (C : CXA p s m args meth c own cc nL ret G I A0) (hG : GWA G I A0 z s.heap H locs) {P : Option (Int64 × Sg)} {K : Int64 → Sg → Option α} (h : bnd P K = some rs) (hM : ∀ {x : Int64} {z1 : Sg}, P = some (x, z1) → Mt l y rm b n r G I z (.ref a :: As) (Ql G I x z1)) (mv : MV y b n r k) (hk : Cond.methodLink own index y ∈ WG) (hR : rm.frames + 1 ≤ R.frames ∧ 8 + (n + 11) + rm.locals ≤ R.locals) (hc : rm.cells = 0 ∧ rm.slots = 0)
    (hv : ∃ cellB : Cell, H[a]? = some cellB ∧ cellB.vm.isStatics = false ∧ s.vm.findClass y.cls = some cellB.cls) (hn : As.length = k) (hsize : ls.size = nL) (hw : (rest.map fun v => v.category).sum ≤ 8) (hdg : decode cc pc = .ok (.invokevirtual index, 3)) (hf : cells ≤ R.cells ∧ slots ≤ R.slots) (hst : st0 = As.reverse ++ .ref a :: rest)
    (kk : ∀ (H1 : Heap) (locs1 : List Loc) (x : Int64) (z1 : Sg), K x z1 = some rs → GWA G I A0 z1 s.heap H1 locs1 → W p l e R s m args below meth c H1 locs1 cells slots Q (F0 m (pc + 3) ls (.long x :: rest))) : W p l e R s m args below meth c H locs cells slots Q (F0 m pc ls st0) := by
  subst hst
  obtain ⟨x, z1, h1, h2⟩ := bnd_some h
  exact rBackl C.2.2.2.2.2.2.1.2 hG (rRunV C hG (hM h1) mv hk hR hc hv hn hsize hw hdg hf) (fun H1 locs1 hG1 => kk H1 locs1 x z1 h2 hG1)
theorem rCSi (As : List Value) (rest : List Value) (C : CXA p s m args meth c own cc nL ret G I A0) (hG : GWA G I A0 z s.heap H locs) {P : Option (Int32 × Sg)} {K : Int32 → Sg → Option α} (h : bnd P K = some rs) (hM : ∀ {x : Int32} {z1 : Sg}, P = some (x, z1) → Mt l y rm b n r G I z As (Qi G I x z1)) (mv : MS y b n r k) (hk : Cond.methodLink own index y ∈ WG) (hR : rm.frames + 1 ≤ R.frames ∧ 8 + (n + 11) + rm.locals ≤ R.locals) (hc : rm.cells = 0 ∧ rm.slots = 0)
    (hn : As.length = k) (hsize : ls.size = nL) (hw : (rest.map fun v => v.category).sum ≤ 8) (hdg : decode cc pc = .ok (.invokestatic index, 3)) (hf : cells ≤ R.cells ∧ slots ≤ R.slots) (hst : st0 = As.reverse ++ rest)
    (kk : ∀ (H1 : Heap) (locs1 : List Loc) (x : Int32) (z1 : Sg), K x z1 = some rs → GWA G I A0 z1 s.heap H1 locs1 → W p l e R s m args below meth c H1 locs1 cells slots Q (F0 m (pc + 3) ls (.int x :: rest))) : W p l e R s m args below meth c H locs cells slots Q (F0 m pc ls st0) := by
  subst hst
  obtain ⟨x, z1, h1, h2⟩ := bnd_some h
  exact rBacki C.2.2.2.2.2.2.1.2 hG (rRunS C hG (hM h1) mv hk hR hc hn hsize hw hdg hf) (fun H1 locs1 hG1 => kk H1 locs1 x z1 h2 hG1)
theorem rCSl (As : List Value) (rest : List Value) (C : CXA p s m args meth c own cc nL ret G I A0) (hG : GWA G I A0 z s.heap H locs) {P : Option (Int64 × Sg)} {K : Int64 → Sg → Option α} (h : bnd P K = some rs) (hM : ∀ {x : Int64} {z1 : Sg}, P = some (x, z1) → Mt l y rm b n r G I z As (Ql G I x z1)) (mv : MS y b n r k) (hk : Cond.methodLink own index y ∈ WG) (hR : rm.frames + 1 ≤ R.frames ∧ 8 + (n + 11) + rm.locals ≤ R.locals) (hc : rm.cells = 0 ∧ rm.slots = 0)
    (hn : As.length = k) (hsize : ls.size = nL) (hw : (rest.map fun v => v.category).sum ≤ 8) (hdg : decode cc pc = .ok (.invokestatic index, 3)) (hf : cells ≤ R.cells ∧ slots ≤ R.slots) (hst : st0 = As.reverse ++ rest)
    (kk : ∀ (H1 : Heap) (locs1 : List Loc) (x : Int64) (z1 : Sg), K x z1 = some rs → GWA G I A0 z1 s.heap H1 locs1 → W p l e R s m args below meth c H1 locs1 cells slots Q (F0 m (pc + 3) ls (.long x :: rest))) : W p l e R s m args below meth c H locs cells slots Q (F0 m pc ls st0) := by
  subst hst
  obtain ⟨x, z1, h1, h2⟩ := bnd_some h
  exact rBackl C.2.2.2.2.2.2.1.2 hG (rRunS C hG (hM h1) mv hk hR hc hn hsize hw hdg hf) (fun H1 locs1 hG1 => kk H1 locs1 x z1 h2 hG1)
theorem rCSv (As : List Value) (rest : List Value) (C : CXA p s m args meth c own cc nL ret G I A0) (hG : GWA G I A0 z s.heap H locs) {P : Option Sg} {K : Sg → Option α} (h : bndv P K = some rs) (hM : ∀ {z1 : Sg}, P = some z1 → Mt l y rm b n r G I z As (Qv G I z1)) (mv : MS y b n r k) (hk : Cond.methodLink own index y ∈ WG) (hR : rm.frames + 1 ≤ R.frames ∧ 8 + (n + 11) + rm.locals ≤ R.locals) (hc : rm.cells = 0 ∧ rm.slots = 0)
    (hn : As.length = k) (hsize : ls.size = nL) (hw : (rest.map fun v => v.category).sum ≤ 8) (hdg : decode cc pc = .ok (.invokestatic index, 3)) (hf : cells ≤ R.cells ∧ slots ≤ R.slots) (hst : st0 = As.reverse ++ rest)
    (kk : ∀ (H1 : Heap) (locs1 : List Loc) (z1 : Sg), K z1 = some rs → GWA G I A0 z1 s.heap H1 locs1 → W p l e R s m args below meth c H1 locs1 cells slots Q (F0 m (pc + 3) ls rest)) : W p l e R s m args below meth c H locs cells slots Q (F0 m pc ls st0) := by
  subst hst
  obtain ⟨z1, h1, h2⟩ := bndv_some h
  exact rBackv C.2.2.2.2.2.2.1.2 hG (rRunS C hG (hM h1) mv hk hR hc hn hsize hw hdg hf) (fun H1 locs1 hG1 => kk H1 locs1 z1 h2 hG1)
theorem rCNi {host : String} (As : List Value) (rest : List Value) (C : CXA p s m args meth c own cc nL ret G I A0) (hG : GWA G I A0 z s.heap H locs) {P : Option (Int32 × Sg)} {K : Int32 → Sg → Option α} (h : bnd P K = some rs) (hM : ∀ {x : Int32} {z1 : Sg}, P = some (x, z1) → Mt l y rm b n r G I z As (Qi G I x z1)) (mv : MS y b n r k) (hk : va_Nw (.methodLinkNest own index y host) s) (hR : rm.frames + 1 ≤ R.frames ∧ 8 + (n + 11) + rm.locals ≤ R.locals) (hc : rm.cells = 0 ∧ rm.slots = 0)
    (hn : As.length = k) (hsize : ls.size = nL) (hw : (rest.map fun v => v.category).sum ≤ 8) (hdg : decode cc pc = .ok (.invokestatic index, 3)) (hf : cells ≤ R.cells ∧ slots ≤ R.slots) (hst : st0 = As.reverse ++ rest)
    (kk : ∀ (H1 : Heap) (locs1 : List Loc) (x : Int32) (z1 : Sg), K x z1 = some rs → GWA G I A0 z1 s.heap H1 locs1 → W p l e R s m args below meth c H1 locs1 cells slots Q (F0 m (pc + 3) ls (.int x :: rest))) : W p l e R s m args below meth c H locs cells slots Q (F0 m pc ls st0) := by
  subst hst
  obtain ⟨x, z1, h1, h2⟩ := bnd_some h
  exact rBacki C.2.2.2.2.2.2.1.2 hG (rRunSN C hG (hM h1) mv hk hR hc hn hsize hw hdg hf) (fun H1 locs1 hG1 => kk H1 locs1 x z1 h2 hG1)
end CW2
variable {rest : List Value}
theorem rGetsM (C : CXA p s m args meth c NS cc nL ret G I A0) (hG : GWA G I A0 z s.heap H locs) {index : Nat} (hk : Cond.fieldLink NS index NS "MARK_MOST" "[I" ∈ WG) (hdg : decode cc pc = .ok (.getstatic index, 3)) (kk : W p l e R s m args below meth c H locs cells slots Q (F0 m (pc + 3) ls (.ref (gM G) :: rest))) : W p l e R s m args below meth c H locs cells slots Q (F0 m pc ls rest) :=
  va_gets C.1 C.2.1 C.2.2.2.2.2.2.2.2.2.1.1 hG.2.2 C.2.2.2.1 (C.2.2.2.2.1 _ hk) (fun _ h => h) hdg kk
theorem rGetsK (C : CXA p s m args meth c NS cc nL ret G I A0) (hG : GWA G I A0 z s.heap H locs) {index : Nat} (hk : Cond.fieldLink NS index NS "KIND_ABOVE" "[I" ∈ WG) (hdg : decode cc pc = .ok (.getstatic index, 3)) (kk : W p l e R s m args below meth c H locs cells slots Q (F0 m (pc + 3) ls (.ref (gK G) :: rest))) : W p l e R s m args below meth c H locs cells slots Q (F0 m pc ls rest) :=
  va_gets C.1 C.2.1 C.2.2.2.2.2.2.2.2.2.2.1.1 hG.2.2 C.2.2.2.1 (C.2.2.2.2.1 _ hk) (fun _ h => h) hdg kk
theorem rTabM (C : CXA p s m args meth c own cc nL ret G I A0) (hG : GWA G I A0 z s.heap H locs) {i : Int32} {K : Option α} (h : chk (inb i 5) K = some rs) (hdg : decode cc pc = .ok (.iaload, 1)) (kk : K = some rs → W p l e R s m args below meth c H locs cells slots Q (F0 m (pc + 1) ls (.int (kaM i) :: rest))) : W p l e R s m args below meth c H locs cells slots Q (F0 m pc ls (.int i :: .ref (gM G) :: rest)) :=
  va_ti C.1 C.2.1 C.2.2.2.2.2.2.2.2.2.1.2 hG.2.2 (inb_in (chk_some h).1) (v := .int (kaM i)) rfl hdg (kk (chk_some h).2)
theorem rTabK (C : CXA p s m args meth c own cc nL ret G I A0) (hG : GWA G I A0 z s.heap H locs) {i : Int32} {K : Option α} (h : chk (inb i 6) K = some rs) (hdg : decode cc pc = .ok (.iaload, 1)) (kk : K = some rs → W p l e R s m args below meth c H locs cells slots Q (F0 m (pc + 1) ls (.int (kaK i) :: rest))) : W p l e R s m args below meth c H locs cells slots Q (F0 m pc ls (.int i :: .ref (gK G) :: rest)) :=
  va_ti C.1 C.2.1 C.2.2.2.2.2.2.2.2.2.2.1.2 hG.2.2 (inb_in (chk_some h).1) (v := .int (kaK i)) rfl hdg (kk (chk_some h).2)
/-- what System.arraycopy needs of the words -/
def CPW : Prop := Cond.native arraycopyName ∈ WG ∧ Cond.static arraycopyName ∈ WG ∧ Cond.initialized "java/lang/System" ∈ WG
theorem rCopy (C : CXA p s m args meth c own cc nL ret G I A0) (hG : GWA G I A0 z s.heap H locs) {a b n0 n1 : Nat} (ha : a ∈ I) (hb : b ∈ I) (ea : ∀ g, eW G a g = eI G n0 g) (eb : ∀ g, eW G b g = eI G n1 g) {index : Nat} (hk : Cond.methodLink own index arraycopyName ∈ WG) (hw : CPW) {sp dp n : Int32} {K : Sg → Option α} (h : chk (cpb sp dp n n0 n1) (letm (cpy z a sp b dp n) K) = some rs) (hsize : ls.size = nL)
    (hframes : 1 ≤ R.frames) (hlocals : (rest.map fun v => v.category).sum + (nativeFrameWords "java/lang/System" "arraycopy" 5 + 11) ≤ R.locals) (hdg : decode cc pc = .ok (.invokestatic index, 3))
    (kk : ∀ (H1 : Heap) (locs1 : List Loc) (z1 : Sg), K z1 = some rs → GWA G I A0 z1 s.heap H1 locs1 → W p l e R s m args below meth c H1 locs1 cells slots Q (F0 m (pc + 3) ls rest)) : W p l e R s m args below meth c H locs cells slots Q (F0 m pc ls (.int n :: .int dp :: .ref (gA G b) :: .int sp :: .ref (gA G a) :: rest)) := by
  obtain ⟨q0, hq0⟩ := ws_pos ha
  obtain ⟨q1, hq1⟩ := ws_pos hb
  have h0 := ws_get (G := G) (z := z) hq0
  have h1 := ws_get (G := G) (z := z) hq1
  rw [ea] at h0
  rw [eb] at h1
  obtain ⟨hc, hK⟩ := chk_some h
  simp only [cpb, Bool.and_eq_true, Bool.not_eq_true', Bool.or_eq_false_iff, decide_eq_false_iff_not, decide_eq_true_eq] at hc
  obtain ⟨⟨⟨⟨c1, c2⟩, c3⟩, c4⟩, c5⟩ := hc
  have e1 : (wsI G I z).set q1 (gA G b, .inl (gI G, n1, .inl (va_cpy (z a) (z b) sp.toNatClampNeg dp.toNatClampNeg n.toNatClampNeg))) = wsI G I (cpy z a sp b dp n) := by
    have := ws_set hG.2.1 hq1 (va_cpy (z a) (z b) sp.toNatClampNeg dp.toNatClampNeg n.toNatClampNeg)
    rw [eb] at this
    exact this
  have ht := C.2.2.2.2.1
  refine va_copyi C.1 C.2.1 (by rw [C.2.2.1, hsize]) C.2.2.2.1 (ht _ hk) (ht _ hw.1) (ht _ hw.2.1) (ht _ hw.2.2) C.2.2.2.2.2.2.2.1 hG.1 hG.2.1 hG.2.2 q0 q1 0 0 h0 h1 rfl rfl rfl c1 c2 c3 c4 c5 (fun _ _ => rfl) hframes hlocals hdg (fun H1 locs1 hP hD hS => ?_)
  rw [e1] at hP hD
  exact kk H1 locs1 _ hK ⟨hP, hD, hS⟩
/-- Math.max, min, abs -/
def MTW (nm : MethodName) (cd : ByteArray) (k : Nat) : Prop := Cond.static nm ∈ WG ∧ Cond.initialized "java/lang/Math" ∈ WG ∧ Cond.code nm cd k (some .int) ∈ WG
theorem rMax (C : CXA p s m args meth c own cc nL ret G I A0) {index : Nat} (hk : Cond.methodLink own index Lib.Math.max.name ∈ WG) (hw : MTW Lib.Math.max.name Lib.Math.max.code 2) (hsize : ls.size = nL) (hframes : 1 ≤ R.frames) (hlocals : (rest.map fun v => v.category).sum + 13 ≤ R.locals) (hf : cells ≤ R.cells ∧ slots ≤ R.slots) {x y : Int32} (hdg : decode cc pc = .ok (.invokestatic index, 3)) (kk : W p l e R s m args below meth c H locs cells slots Q (F0 m (pc + 3) ls (.int (if x < y then y else x) :: rest))) : W p l e R s m args below meth c H locs cells slots Q (F0 m pc ls (.int y :: .int x :: rest)) :=
  va_mmax C.1 C.2.1 (by rw [C.2.2.1, hsize]) C.2.2.2.1 (C.2.2.2.2.1 _ hk) (C.2.2.2.2.1 _ hw.1) (C.2.2.2.2.1 _ hw.2.1) (C.2.2.2.2.1 _ hw.2.2) hframes hlocals hf.1 hf.2 hdg kk
theorem rMin (C : CXA p s m args meth c own cc nL ret G I A0) {index : Nat} (hk : Cond.methodLink own index Lib.Math.min.name ∈ WG) (hw : MTW Lib.Math.min.name Lib.Math.min.code 2) (hsize : ls.size = nL) (hframes : 1 ≤ R.frames) (hlocals : (rest.map fun v => v.category).sum + 13 ≤ R.locals) (hf : cells ≤ R.cells ∧ slots ≤ R.slots) {x y : Int32} (hdg : decode cc pc = .ok (.invokestatic index, 3)) (kk : W p l e R s m args below meth c H locs cells slots Q (F0 m (pc + 3) ls (.int (if y < x then y else x) :: rest))) : W p l e R s m args below meth c H locs cells slots Q (F0 m pc ls (.int y :: .int x :: rest)) :=
  va_mmin C.1 C.2.1 (by rw [C.2.2.1, hsize]) C.2.2.2.1 (C.2.2.2.2.1 _ hk) (C.2.2.2.2.1 _ hw.1) (C.2.2.2.2.1 _ hw.2.1) (C.2.2.2.2.1 _ hw.2.2) hframes hlocals hf.1 hf.2 hdg kk
theorem rAbs (C : CXA p s m args meth c own cc nL ret G I A0) {index : Nat} (hk : Cond.methodLink own index Lib.Math.abs.name ∈ WG) (hw : MTW Lib.Math.abs.name Lib.Math.abs.code 1) (hsize : ls.size = nL) (hframes : 1 ≤ R.frames) (hlocals : (rest.map fun v => v.category).sum + 13 ≤ R.locals) (hf : cells ≤ R.cells ∧ slots ≤ R.slots) {x : Int32} (hdg : decode cc pc = .ok (.invokestatic index, 3)) (kk : W p l e R s m args below meth c H locs cells slots Q (F0 m (pc + 3) ls (.int (if 0 ≤ x then x else 0 - x) :: rest))) : W p l e R s m args below meth c H locs cells slots Q (F0 m pc ls (.int x :: rest)) :=
  va_mabs C.1 C.2.1 (by rw [C.2.2.1, hsize]) C.2.2.2.1 (C.2.2.2.2.1 _ hk) (C.2.2.2.2.1 _ hw.1) (C.2.2.2.2.1 _ hw.2.1) (C.2.2.2.2.1 _ hw.2.2) hframes hlocals hf.1 hf.2 hdg kk
/-! switches: one case after the other -/
theorem rSwT (C : CXA p s m args meth c own cc nL ret G I A0) {dflt lo hi : Int} {offs : Array Int} {len : Nat} {x : Int32} (hdg : decode cc pc = .ok (.tableswitch dflt lo hi offs, len)) (v : Int32) {off : Int} {tgt : Nat} (hx : x = v) (h1 : ¬ v.toInt < lo ∧ ¬ hi < v.toInt) (ho : offs[(v.toInt - lo).toNat]? = some off) (ht : (pc : Int) + off = (tgt : Int)) (kk : W p l e R s m args below meth c H locs cells slots Q (F0 m tgt ls rest)) : W p l e R s m args below meth c H locs cells slots Q (F0 m pc ls (.int x :: rest)) := by
  subst hx
  exact lv_tableIn C.1 C.2.1 hdg h1.1 h1.2 ho ht kk
theorem rSwD (C : CXA p s m args meth c own cc nL ret G I A0) {dflt lo hi : Int} {offs : Array Int} {len : Nat} {x : Int32} (hdg : decode cc pc = .ok (.tableswitch dflt lo hi offs, len)) {tgt : Nat} (hx : x.toInt < lo ∨ hi < x.toInt) (ht : (pc : Int) + dflt = (tgt : Int)) (kk : W p l e R s m args below meth c H locs cells slots Q (F0 m tgt ls rest)) : W p l e R s m args below meth c H locs cells slots Q (F0 m pc ls (.int x :: rest)) :=
  lv_tableOut C.1 C.2.1 hdg hx ht kk
theorem ne_toInt {x v : Int32} {k : Int} (h : ¬ x = v) (hk : v.toInt = k) : ¬ x.toInt = k := lv_neT h hk
theorem ifP {cnd : Prop} [Decidable cnd] {A B : Option α} (q : cnd) (h : (if cnd then A else B) = some rs) : A = some rs := by rw [if_pos q] at h; exact h
theorem ifN {cnd : Prop} [Decidable cnd] {A B : Option α} (q : ¬ cnd) (h : (if cnd then A else B) = some rs) : B = some rs := by rw [if_neg q] at h; exact h
end RW3
