/-! the words that every method has, the world, and a row an instruction over it -/
def WG : List Cond := lw_tbl.filter goodWord
theorem wg_t {w : Cond} (h : w ∈ tables_1) (g : goodWord w = true) : w ∈ WG := List.mem_filter.mpr ⟨List.mem_append_right _ h, g⟩
theorem wg_1 {w : Cond} (i : Nat) (h : tables_1_1[i]? = some w) (g : goodWord w = true) : w ∈ WG := wg_t (List.mem_append_left _ (List.mem_of_getElem? h)) g
theorem wg_2 {w : Cond} (i : Nat) (h : tables_1_2[i]? = some w) (g : goodWord w = true) : w ∈ WG := wg_t (List.mem_append_right _ (List.mem_append_left _ (List.mem_of_getElem? h))) g
theorem wg_3 {w : Cond} (i : Nat) (h : tables_1_3[i]? = some w) (g : goodWord w = true) : w ∈ WG := wg_t (List.mem_append_right _ (List.mem_append_right _ (List.mem_append_left _ (List.mem_of_getElem? h)))) g
theorem wg_4 {w : Cond} (i : Nat) (h : tables_1_4[i]? = some w) (g : goodWord w = true) : w ∈ WG := wg_t (List.mem_append_right _ (List.mem_append_right _ (List.mem_append_right _ (List.mem_append_left _ (List.mem_of_getElem? h))))) g
theorem wg_5 {w : Cond} (i : Nat) (h : tables_1_5[i]? = some w) (g : goodWord w = true) : w ∈ WG := wg_t (List.mem_append_right _ (List.mem_append_right _ (List.mem_append_right _ (List.mem_append_right _ (List.mem_of_getElem? h))))) g
theorem wg_s {y : MethodName} {n : Nat} (h : (y, n) ∈ lw_privs) : Cond.selects y.cls y y ∈ WG :=
  List.mem_filter.mpr ⟨List.mem_append_left _ (List.mem_map.mpr ⟨(y, n), h, rfl⟩), rfl⟩
theorem wg_good {w : Cond} (h : w ∈ WG) : (w.onTables && w.keeps) = true ∨ ∃ ty, w = .arrayClass ty := good_of_word (List.mem_filter.mp h).2
theorem wg_hts {args : Array Value} {s : State} (h : ∀ w ∈ lw_tbl, w.before args s = true) : ∀ w ∈ WG, w.before args s = true := fun w hw => h w (List.mem_filter.mp hw).1
abbrev wsF (y : MethodName) (b : ByteArray) (n : Nat) (r : Option FieldType) : List Cond := .code y b n r :: WG
/-! the world's positions -/
section WS
variable {G : GT} {I : List Nat} {z : Sg} {A : Nat → Prop} {c q : Nat}
theorem ws_pos (hc : c ∈ I) : ∃ q : Nat, I[q]? = some c := List.mem_iff_getElem?.mp hc
theorem ws_get (hq : I[q]? = some c) : (wsI G I z)[q]? = some (gA G c, eW G c (z c)) := by
  unfold wsI
  rw [List.getElem?_map, hq]
  rfl
theorem ws_set (hD : va_D A (wsI G I z)) (hq : I[q]? = some c) (g : Nat → Int32) : (wsI G I z).set q (gA G c, eW G c g) = wsI G I (ur z c g) := by
  have hl : q < (wsI G I z).length := (List.getElem?_eq_some_iff.mp (ws_get (G := G) (z := z) hq)).1
  apply List.ext_getElem?
  intro k
  by_cases hk : k = q
  · subst hk
    rw [List.getElem?_set_self hl, ws_get hq]
    simp [ur]
  · rw [List.getElem?_set_ne (Ne.symm hk)]
    cases hj : I[k]? with
    | none => unfold wsI; rw [List.getElem?_map, List.getElem?_map, hj]; rfl
    | some c' =>
      have hne : c' ≠ c := fun e => hk (hD.1 k q _ _ (ws_get hj) (ws_get hq) (by rw [e]))
      rw [ws_get hj, ws_get hj]
      simp [ur, hne]
theorem AD_at (hc : c ∈ I) : AD G I (gA G c) := ⟨c, hc, rfl⟩
end WS
/-- what stays all the time: the tables' facts, the nest mates, the static tables, the string constants -/
def tabM : Nat → Value := fun j => .int (([9, 11, 11, 999, 9999] : List Int32).getD j 0)
def tabK : Nat → Value := fun j => .int (([-1, 0, 0, 1, 2, 0] : List Int32).getD j 0)
def jsLen : List Nat := [51, 63, 8]
def jsByt : List (List Int32) := [[115, 119, 105, 110, 103, 115, 32, 51, 32, 43, 32, 40, 98, 101, 97, 116, 32, 61, 32, 115, 119, 105, 110, 103, 41, 32, 59, 32, 116, 105, 114, 101, 115, 32, 49, 32, 59, 32, 107, 101, 101, 112, 115, 32, 98, 101, 97, 116, 32, 59, 32],
  [115, 119, 105, 110, 103, 115, 32, 116, 105, 114, 101, 115, 32, 107, 101, 101, 112, 115, 32, 111, 114, 32, 97, 110, 100, 32, 110, 111, 116, 32, 98, 101, 97, 116, 32, 115, 119, 105, 110, 103, 32, 108, 101, 102, 116, 32, 114, 105, 103, 104, 116, 32, 116, 105, 114, 101, 100, 32, 109, 111, 114, 101, 32],
  [40, 41, 59, 43, 45, 42, 60, 61]]
abbrev txF : String := "swings 3 + (beat = swing) ; tires 1 ; keeps beat ; "
abbrev txW : String := "swings tires keeps or and not beat swing left right tired more "
abbrev txS : String := "();+-*<="
def KB (G : GT) (A : Nat → Prop) (U : State) : Prop :=
  va_K (gD G) clsG (tysG G) U ∧
  (va_Nw (.methodLinkNest NR 46 ⟨NS, "within", "(II)Z"⟩ NS) U ∧ va_Nw (.methodLinkNest NR 94 ⟨NS, "isA", "(II)Z"⟩ NS) U) ∧
  (va_Z NS "MARK_MOST" "[I" (.ref (gM G)) A U U.heap ∧ va_T .int (gM G) 5 tabM A U U.heap) ∧
  (va_Z NS "KIND_ABOVE" "[I" (.ref (gK G)) A U U.heap ∧ va_T .int (gK G) 6 tabK A U U.heap) ∧
  (va_Z NJS "COMPACT_STRINGS" "Z" (.int 1) A U U.heap ∧ va_Zq NJP "SIOOBE_FORMATTER" "Ljava/util/function/BiFunction;" A U U.heap) ∧
  vk_S 3 jsLen jsByt (gS G) (gV G) A U U.heap ∧
  vk_R NS 59 txF (gS G 0) U ∧ vk_R ND 102 txW (gS G 1) U ∧ vk_R ND 94 txS (gS G 2) U
/-- the same facts at another state: the tables alike, the heap changed within A alone -/
theorem KB.step {G : GT} {A : Nat → Prop} {s U : State} {H : Heap} {locs : List Loc} (h : KB G A s) (hS : va_S A s.heap H locs) (hW : s.WarmedH U.vm) (hU : U.heap = H) : KB G A U := by
  obtain ⟨h1, ⟨h2, h3⟩, ⟨h4, h5⟩, ⟨h6, h7⟩, ⟨h8, h9⟩, h10, h11, h12, h13⟩ := h
  have q := hS.2.1
  rw [← hU] at q
  exact ⟨va_K.moved hW.alike h1, ⟨va_Nw.warmM hW h2, va_Nw.warmM hW h3⟩, ⟨(va_Z.moved hW.alike h4).kept q, (va_T.moved hW.alike h5).kept q⟩, ⟨(va_Z.moved hW.alike h6).kept q, (va_T.moved hW.alike h7).kept q⟩,
    ⟨(va_Z.moved hW.alike h8).kept q, (va_Zq.moved hW.alike h9).kept q⟩, (vk_S.moved hW.alike h10).kept q, vk_R.warm hW h11, vk_R.warm hW h12, vk_R.warm hW h13⟩
theorem KB.calling {G : GT} {A : Nat → Prop} {U : State} {g : JFrame} {mk : MethodId} {a : Array Value} (h : KB G A U) : KB G A (U.calling g mk a) := by
  obtain ⟨h1, ⟨h2, h3⟩, ⟨h4, h5⟩, ⟨h6, h7⟩, ⟨h8, h9⟩, h10, h11, h12, h13⟩ := h
  have r := Vm.Alike.refl U.vm
  exact ⟨va_K.moved (U := U.calling g mk a) r h1, ⟨va_Nw.same (U := U.calling g mk a) rfl rfl h2, va_Nw.same (U := U.calling g mk a) rfl rfl h3⟩,
    ⟨va_Z.moved (U := U.calling g mk a) r h4, va_T.moved (U := U.calling g mk a) r h5⟩, ⟨va_Z.moved (U := U.calling g mk a) r h6, va_T.moved (U := U.calling g mk a) r h7⟩,
    ⟨va_Z.moved (U := U.calling g mk a) r h8, va_Zq.moved (U := U.calling g mk a) r h9⟩, vk_S.moved (U := U.calling g mk a) r h10, vk_R.same (U := U.calling g mk a) rfl h11, vk_R.same (U := U.calling g mk a) rfl h12, vk_R.same (U := U.calling g mk a) rfl h13⟩
theorem KB.narrow {G : GT} {A B : Nat → Prop} {U : State} (h : KB G A U) (hAB : ∀ q, B q → A q) : KB G B U := by
  obtain ⟨h1, h2, ⟨h4, h5⟩, ⟨h6, h7⟩, ⟨h8, h9⟩, h10, h11⟩ := h
  exact ⟨h1, h2, ⟨h4.narrow hAB, h5.narrow hAB⟩, ⟨h6.narrow hAB, h7.narrow hAB⟩, ⟨h8.narrow hAB, h9.narrow hAB⟩, h10.narrow hAB, h11⟩
/-- a method's start: the facts, the cells with the ints z -/
def PB (G : GT) (I : List Nat) (z : Sg) (U : State) : Prop := KB G (AD G I) U ∧ va_P (gD G) clsG (wsI G I z) U.heap ∧ va_D (AD G I) (wsI G I z)
theorem PB.blind {G : GT} {I : List Nat} {z : Sg} (av : List Value) : FrameBlind (va_Pc av (PB G I z)) := fun _ _ _ _ h => ⟨h.1, h.2.1.calling, h.2.2.1, h.2.2.2⟩
/-- a method's way: the world now, against the start's heap -/
def GWA (G : GT) (I : List Nat) (A : Nat → Prop) (z : Sg) (H0 H : Heap) (locs : List Loc) : Prop := va_P (gD G) clsG (wsI G I z) H ∧ va_D A (wsI G I z) ∧ va_S A H0 H locs
abbrev GW (G : GT) (I : List Nat) (z : Sg) (H0 H : Heap) (locs : List Loc) : Prop := GWA G I (AD G I) z H0 H locs
/-- contracts: the ints' new row is Z, the answer R -/
def Qi (G : GT) (I : List Nat) (R : Int32) (Z : Sg) : Array Value → State → Outcome → State → Prop := va_Qi (fun (r : Int32) (_ : Unit) => r = R) (fun _ t => PB G I Z t) (AD G I)
def Ql (G : GT) (I : List Nat) (R : Int64) (Z : Sg) : Array Value → State → Outcome → State → Prop := va_Ql (fun (r : Int64) (_ : Unit) => r = R) (fun _ t => PB G I Z t) (AD G I)
def Qv (G : GT) (I : List Nat) (Z : Sg) : Array Value → State → Outcome → State → Prop := va_Qv (fun (_ : Unit) => True) (fun _ t => PB G I Z t) (AD G I)
abbrev Mt (l : Launch) (y : MethodName) (rm : Room) (b : ByteArray) (n : Nat) (ret : Option FieldType) (G : GT) (I : List Nat) (z : Sg) (av : List Value) (Q : Array Value → State → Outcome → State → Prop) : Prop := Met l y (wsF y b n ret) rm (va_Pc av (PB G I z)) Q 0 0 (AD G I)
/-- what a frame of a method has all along -/
def CXA (p : Program) (s : State) (m : MethodId) (args : Array Value) (meth : Method) (c : Code) (own : String) (cc : ByteArray) (nL : Nat) (ret : Option FieldType) (G : GT) (I : List Nat) (A : Nat → Prop) : Prop :=
  p.tables.exec = Jvm.exec ∧ c.code = cc ∧ c.maxLocals = nL ∧ s.vm.findClass own = some m.cls ∧ (∀ w ∈ WG, w.before args s = true) ∧ meth.sig.returnType = ret ∧ (meth.locks = false ∧ ∀ q, AD G I q → A q) ∧ KB G A s
abbrev CX (p : Program) (s : State) (m : MethodId) (args : Array Value) (meth : Method) (c : Code) (own : String) (cc : ByteArray) (nL : Nat) (ret : Option FieldType) (G : GT) (I : List Nat) : Prop := CXA p s m args meth c own cc nL ret G I (AD G I)
/-! the words of the pure functions -/
def chk {α : Type} (b : Bool) (k : Option α) : Option α := if b then k else none
def inb (i : Int32) (n : Nat) : Bool := !(decide (i < 0) || decide (n ≤ i.toNatClampNeg))
theorem inb_in {i : Int32} {n : Nat} (h : inb i n = true) : vp_in i n := by
  intro q
  rcases q with q | q <;> simp [inb, q] at h
theorem inb_of {i : Int32} {n : Nat} (h : vp_in i n) : inb i n = true := by
  unfold vp_in at h
  have h1 : ¬ i < 0 := fun q => h (Or.inl q)
  have h2 : ¬ n ≤ i.toNatClampNeg := fun q => h (Or.inr q)
  simp [inb, h1, h2]
def letm {α β : Type} (x : α) (k : α → β) : β := k x
def bnd {α β : Type} (p : Option (α × Sg)) (k : α → Sg → Option β) : Option β := match p with
  | none => none
  | some q => k q.1 q.2
def bndv {β : Type} (p : Option Sg) (k : Sg → Option β) : Option β := match p with
  | none => none
  | some q => k q
theorem chk_some {α : Type} {b : Bool} {k : Option α} {r : α} (h : chk b k = some r) : b = true ∧ k = some r := by
  cases b
  · cases h
  · exact ⟨rfl, h⟩
theorem bnd_some {α β : Type} {p : Option (α × Sg)} {k : α → Sg → Option β} {r : β} (h : bnd p k = some r) : ∃ x z, p = some (x, z) ∧ k x z = some r := by
  cases p with
  | none => cases h
  | some q => exact ⟨q.1, q.2, rfl, h⟩
theorem bndv_some {β : Type} {p : Option Sg} {k : Sg → Option β} {r : β} (h : bndv p k = some r) : ∃ z, p = some z ∧ k z = some r := by
  cases p with
  | none => cases h
  | some q => exact ⟨q, rfl, h⟩
/-- a field of a class: its place in the classes' list, its own place, the class's words -/
def FI (ci k : Nat) (C : String) (T : u_T) (N : Nat) : Prop := clsG[ci]? = some (C, T, N) ∧ (∀ w ∈ u_ws C T N, w ∈ WG) ∧ k < N
