theorem k_401 : Cond.methodLink R_law 13 yS_count ∈ WG := wg_2 161 (by rfl) rfl
theorem k_909 : Cond.methodLink R_law 17 yM_count ∈ WG := wg_4 189 (by rfl) rfl
theorem k_419 : Cond.methodLink R_law 18 yS_sets ∈ WG := wg_2 179 (by rfl) rfl
theorem k_920 : Cond.methodLink R_law 22 yM_sets ∈ WG := wg_4 200 (by rfl) rfl
theorem k_432 : Cond.methodLink R_law 23 yS_row ∈ WG := wg_2 192 (by rfl) rfl
theorem k_928 : Cond.methodLink R_law 26 yM_row ∈ WG := wg_4 208 (by rfl) rfl
theorem k_436 : Cond.methodLink R_law 27 yS_feed ∈ WG := wg_2 196 (by rfl) rfl
theorem k_932 : Cond.methodLink R_law 31 yM_feed ∈ WG := wg_4 212 (by rfl) rfl
theorem k_440 : Cond.methodLink R_law 32 yS_text ∈ WG := wg_2 200 (by rfl) rfl
theorem k_939 : Cond.methodLink R_law 36 yM_text ∈ WG := wg_4 219 (by rfl) rfl
theorem k_444 : Cond.methodLink R_law 37 yS_force ∈ WG := wg_2 204 (by rfl) rfl
theorem k_940 : Cond.methodLink R_law 40 yM_force ∈ WG := wg_4 220 (by rfl) rfl
theorem k_448 : Cond.methodLink R_law 41 yS_asks ∈ WG := wg_2 208 (by rfl) rfl
theorem k_944 : Cond.methodLink R_law 44 yM_asks ∈ WG := wg_4 224 (by rfl) rfl
theorem k_474 : Cond.methodLink R_law 45 yS_mower ∈ WG := wg_2 234 (by rfl) rfl
theorem k_978 : Cond.methodLink R_law 48 yM_mower ∈ WG := wg_5 18 (by rfl) rfl
theorem k_491 : Cond.methodLink R_law 49 yS_put ∈ WG := wg_3 11 (by rfl) rfl
theorem k_986 : Cond.methodLink R_law 53 yM_put ∈ WG := wg_5 26 (by rfl) rfl
theorem k_500 : Cond.methodLink R_law 54 yS_told ∈ WG := wg_3 20 (by rfl) rfl
theorem k_990 : Cond.methodLink R_law 57 yM_told ∈ WG := wg_5 30 (by rfl) rfl
theorem k_536 : Cond.methodLink R_law 58 yS_stroke ∈ WG := wg_3 56 (by rfl) rfl
theorem k_1013 : Cond.methodLink R_law 61 yM_stroke ∈ WG := wg_5 53 (by rfl) rfl
theorem k_548 : Cond.methodLink R_law 62 yS_run ∈ WG := wg_3 68 (by rfl) rfl
theorem k_1021 : Cond.methodLink R_law 65 yM_run ∈ WG := wg_5 61 (by rfl) rfl
theorem k_566 : Cond.methodLink R_law 66 yS_when ∈ WG := wg_3 86 (by rfl) rfl
theorem k_1045 : Cond.methodLink R_law 69 yM_when ∈ WG := wg_5 85 (by rfl) rfl
theorem k_578 : Cond.methodLink R_law 70 yS_often ∈ WG := wg_3 98 (by rfl) rfl
theorem k_1053 : Cond.methodLink R_law 73 yM_often ∈ WG := wg_5 93 (by rfl) rfl
theorem k_582 : Cond.methodLink R_law 74 yS_gap ∈ WG := wg_3 102 (by rfl) rfl
theorem k_1057 : Cond.methodLink R_law 77 yM_gap ∈ WG := wg_5 97 (by rfl) rfl
theorem k_598 : Cond.methodLink R_law 78 yS_stands ∈ WG := wg_3 118 (by rfl) rfl
theorem k_1065 : Cond.methodLink R_law 81 yM_stands ∈ WG := wg_5 105 (by rfl) rfl
theorem k_602 : Cond.methodLink R_law 82 yS_tempo ∈ WG := wg_3 122 (by rfl) rfl
theorem k_1069 : Cond.methodLink R_law 85 yM_tempo ∈ WG := wg_5 109 (by rfl) rfl
theorem k_606 : Cond.methodLink R_law 86 yS_order ∈ WG := wg_3 126 (by rfl) rfl
theorem k_1073 : Cond.methodLink R_law 89 yM_order ∈ WG := wg_5 113 (by rfl) rfl
theorem k_631 : Cond.methodLink R_law 90 yS_mean ∈ WG := wg_3 151 (by rfl) rfl
theorem k_1085 : Cond.methodLink R_law 94 yM_mean ∈ WG := wg_5 125 (by rfl) rfl
theorem k_639 : Cond.methodLink R_law 95 yS_judge ∈ WG := wg_3 159 (by rfl) rfl
theorem k_1093 : Cond.methodLink R_law 98 yM_judge ∈ WG := wg_5 133 (by rfl) rfl
theorem k_659 : Cond.methodLink R_law 99 yS_kinds ∈ WG := wg_3 179 (by rfl) rfl
theorem k_1109 : Cond.methodLink R_law 102 yM_kinds ∈ WG := wg_5 149 (by rfl) rfl
theorem k_667 : Cond.methodLink R_law 103 yS_states ∈ WG := wg_3 187 (by rfl) rfl
theorem k_1113 : Cond.methodLink R_law 106 yM_states ∈ WG := wg_5 153 (by rfl) rfl
theorem k_675 : Cond.methodLink R_law 107 yS_weary ∈ WG := wg_3 195 (by rfl) rfl
theorem k_1129 : Cond.methodLink R_law 110 yM_weary ∈ WG := wg_5 169 (by rfl) rfl
theorem k_679 : Cond.methodLink R_law 111 yS_whose ∈ WG := wg_3 199 (by rfl) rfl
theorem k_1133 : Cond.methodLink R_law 114 yM_whose ∈ WG := wg_5 173 (by rfl) rfl
theorem k_683 : Cond.methodLink R_law 115 yS_laws ∈ WG := wg_3 203 (by rfl) rfl
theorem k_1137 : Cond.methodLink R_law 118 yM_laws ∈ WG := wg_5 177 (by rfl) rfl
theorem k_687 : Cond.methodLink R_law 119 yS_film ∈ WG := wg_3 207 (by rfl) rfl
theorem k_1141 : Cond.methodLink R_law 122 yM_film ∈ WG := wg_5 181 (by rfl) rfl
theorem k_699 : Cond.methodLink R_law 123 yS_drawn ∈ WG := wg_3 219 (by rfl) rfl
theorem k_1145 : Cond.methodLink R_law 126 yM_drawn ∈ WG := wg_5 185 (by rfl) rfl
theorem k_715 : Cond.methodLink R_law 127 yS_odds ∈ WG := wg_3 235 (by rfl) rfl
theorem k_1158 : Cond.methodLink R_law 131 yM_odds ∈ WG := wg_5 198 (by rfl) rfl
theorem k_719 : Cond.methodLink R_law 132 yS_image ∈ WG := wg_3 239 (by rfl) rfl
theorem k_1162 : Cond.methodLink R_law 135 yM_image ∈ WG := wg_5 202 (by rfl) rfl
theorem k_723 : Cond.methodLink R_law 136 yS_back ∈ WG := wg_4 3 (by rfl) rfl
theorem k_1166 : Cond.methodLink R_law 139 yM_back ∈ WG := wg_5 206 (by rfl) rfl
theorem k_727 : Cond.methodLink R_law 140 yS_sheet ∈ WG := wg_4 7 (by rfl) rfl
theorem k_1170 : Cond.methodLink R_law 143 yM_sheet ∈ WG := wg_5 210 (by rfl) rfl
theorem k_731 : Cond.methodLink R_law 144 yS_cell ∈ WG := wg_4 11 (by rfl) rfl
theorem k_1174 : Cond.methodLink R_law 147 yM_cell ∈ WG := wg_5 214 (by rfl) rfl
theorem k_735 : Cond.methodLink R_law 148 yS_copy ∈ WG := wg_4 15 (by rfl) rfl
theorem k_1178 : Cond.methodLink R_law 152 yM_copy ∈ WG := wg_5 218 (by rfl) rfl
theorem k_744 : Cond.methodLink R_law 153 yS_mowersBy ∈ WG := wg_4 24 (by rfl) rfl
theorem k_1182 : Cond.methodLink R_law 157 yM_mowersBy ∈ WG := wg_5 222 (by rfl) rfl
theorem k_748 : Cond.methodLink R_law 158 yS_taken ∈ WG := wg_4 28 (by rfl) rfl
theorem k_1187 : Cond.methodLink R_law 161 yM_taken ∈ WG := wg_5 227 (by rfl) rfl
/-- THE LAW'S LOOP. What the pure side owes: every pair of calls answers alike and keeps Inv -/
def StepOK (fu : Nat) (Inv : Sg → Prop) : Prop :=
  (∀ (z : Sg) (a1 : Int32), Inv z → ∃ (r : Int32) (z1 z2 : Sg), pS_count fu a1 z = some (r, z1) ∧ pM_count fu a1 z1 = some (r, z2) ∧ Inv z2) ∧
  (∀ (z : Sg) (a1 : Int32) (a2 : Int32), Inv z → ∃ (r : Int32) (z1 z2 : Sg), pS_sets fu a1 a2 z = some (r, z1) ∧ pM_sets fu a1 a2 z1 = some (r, z2) ∧ Inv z2) ∧
  (∀ (z : Sg) (a1 : Int32), Inv z → ∃ (r : Int32) (z1 z2 : Sg), pS_row fu a1 z = some (r, z1) ∧ pM_row fu a1 z1 = some (r, z2) ∧ Inv z2) ∧
  (∀ (z : Sg) (a1 : Int32) (a2 : Int32) (a3 : Int32) (a4 : Int32) (a5 : Int32) (a6 : Int32), Inv z → ∃ (r : Int32) (z1 z2 : Sg), pS_feed fu a1 a2 a3 a4 a5 a6 z = some (r, z1) ∧ pM_feed fu a1 a2 a3 a4 a5 a6 z1 = some (r, z2) ∧ Inv z2) ∧
  (∀ (z : Sg), Inv z → ∃ (r : Int32) (z1 z2 : Sg), pS_text fu z = some (r, z1) ∧ pM_text fu z1 = some (r, z2) ∧ Inv z2) ∧
  (∀ (z : Sg) (a1 : Int32), Inv z → ∃ (r : Int32) (z1 z2 : Sg), pS_force fu a1 z = some (r, z1) ∧ pM_force fu a1 z1 = some (r, z2) ∧ Inv z2) ∧
  (∀ (z : Sg) (a1 : Int32) (a2 : Int32), Inv z → ∃ (r : Int32) (z1 z2 : Sg), pS_asks fu a1 a2 z = some (r, z1) ∧ pM_asks fu a1 a2 z1 = some (r, z2) ∧ Inv z2) ∧
  (∀ (z : Sg) (a1 : Int32) (a2 : Int32), Inv z → ∃ (r : Int32) (z1 z2 : Sg), pS_mower fu a1 a2 z = some (r, z1) ∧ pM_mower fu a1 a2 z1 = some (r, z2) ∧ Inv z2) ∧
  (∀ (z : Sg) (a1 : Int32) (a2 : Int32) (a3 : Int32), Inv z → ∃ (r : Int32) (z1 z2 : Sg), pS_put fu a1 a2 a3 z = some (r, z1) ∧ pM_put fu a1 a2 a3 z1 = some (r, z2) ∧ Inv z2) ∧
  (∀ (z : Sg) (a1 : Int32) (a2 : Int32), Inv z → ∃ (r : Int32) (z1 z2 : Sg), pS_told fu a1 a2 z = some (r, z1) ∧ pM_told fu a1 a2 z1 = some (r, z2) ∧ Inv z2) ∧
  (∀ (z : Sg), Inv z → ∃ (r : Int32) (z1 z2 : Sg), pS_stroke fu z = some (r, z1) ∧ pM_stroke fu z1 = some (r, z2) ∧ Inv z2) ∧
  (∀ (z : Sg) (a1 : Int32) (a2 : Int32), Inv z → ∃ (r : Int32) (z1 z2 : Sg), pS_run fu a1 a2 z = some (r, z1) ∧ pM_run fu a1 a2 z1 = some (r, z2) ∧ Inv z2) ∧
  (∀ (z : Sg) (a1 : Int32), Inv z → ∃ (r : Int32) (z1 z2 : Sg), pS_when fu a1 z = some (r, z1) ∧ pM_when fu a1 z1 = some (r, z2) ∧ Inv z2) ∧
  (∀ (z : Sg) (a1 : Int32) (a2 : Int32) (a3 : Int32), Inv z → ∃ (r : Int32) (z1 z2 : Sg), pS_often fu a1 a2 a3 z = some (r, z1) ∧ pM_often fu a1 a2 a3 z1 = some (r, z2) ∧ Inv z2) ∧
  (∀ (z : Sg) (a1 : Int32) (a2 : Int32), Inv z → ∃ (r : Int32) (z1 z2 : Sg), pS_gap fu a1 a2 z = some (r, z1) ∧ pM_gap fu a1 a2 z1 = some (r, z2) ∧ Inv z2) ∧
  (∀ (z : Sg) (a1 : Int32) (a2 : Int32) (a3 : Int32), Inv z → ∃ (r : Int32) (z1 z2 : Sg), pS_stands fu a1 a2 a3 z = some (r, z1) ∧ pM_stands fu a1 a2 a3 z1 = some (r, z2) ∧ Inv z2) ∧
  (∀ (z : Sg) (a1 : Int32) (a2 : Int32), Inv z → ∃ (r : Int32) (z1 z2 : Sg), pS_tempo fu a1 a2 z = some (r, z1) ∧ pM_tempo fu a1 a2 z1 = some (r, z2) ∧ Inv z2) ∧
  (∀ (z : Sg) (a1 : Int32) (a2 : Int32), Inv z → ∃ (r : Int32) (z1 z2 : Sg), pS_order fu a1 a2 z = some (r, z1) ∧ pM_order fu a1 a2 z1 = some (r, z2) ∧ Inv z2) ∧
  (∀ (z : Sg) (a1 : Int32) (a2 : Int32), Inv z → ∃ (r : Int64) (z1 z2 : Sg), pS_mean fu a1 a2 z = some (r, z1) ∧ pM_mean fu a1 a2 z1 = some (r, z2) ∧ Inv z2) ∧
  (∀ (z : Sg) (a1 : Int32) (a2 : Int32), Inv z → ∃ (r : Int32) (z1 z2 : Sg), pS_judge fu a1 a2 z = some (r, z1) ∧ pM_judge fu a1 a2 z1 = some (r, z2) ∧ Inv z2) ∧
  (∀ (z : Sg) (a1 : Int32) (a2 : Int32) (a3 : Int32), Inv z → ∃ (r : Int32) (z1 z2 : Sg), pS_kinds fu a1 a2 a3 z = some (r, z1) ∧ pM_kinds fu a1 a2 a3 z1 = some (r, z2) ∧ Inv z2) ∧
  (∀ (z : Sg) (a1 : Int32) (a2 : Int32) (a3 : Int32), Inv z → ∃ (r : Int32) (z1 z2 : Sg), pS_states fu a1 a2 a3 z = some (r, z1) ∧ pM_states fu a1 a2 a3 z1 = some (r, z2) ∧ Inv z2) ∧
  (∀ (z : Sg) (a1 : Int32) (a2 : Int32) (a3 : Int32), Inv z → ∃ (r : Int32) (z1 z2 : Sg), pS_weary fu a1 a2 a3 z = some (r, z1) ∧ pM_weary fu a1 a2 a3 z1 = some (r, z2) ∧ Inv z2) ∧
  (∀ (z : Sg) (a1 : Int32), Inv z → ∃ (r : Int32) (z1 z2 : Sg), pS_whose fu a1 z = some (r, z1) ∧ pM_whose fu a1 z1 = some (r, z2) ∧ Inv z2) ∧
  (∀ (z : Sg) (a1 : Int32) (a2 : Int32), Inv z → ∃ (r : Int32) (z1 z2 : Sg), pS_laws fu a1 a2 z = some (r, z1) ∧ pM_laws fu a1 a2 z1 = some (r, z2) ∧ Inv z2) ∧
  (∀ (z : Sg) (a1 : Int32) (a2 : Int32) (a3 : Int32), Inv z → ∃ (r : Int32) (z1 z2 : Sg), pS_film fu a1 a2 a3 z = some (r, z1) ∧ pM_film fu a1 a2 a3 z1 = some (r, z2) ∧ Inv z2) ∧
  (∀ (z : Sg) (a1 : Int32) (a2 : Int32), Inv z → ∃ (r : Int32) (z1 z2 : Sg), pS_drawn fu a1 a2 z = some (r, z1) ∧ pM_drawn fu a1 a2 z1 = some (r, z2) ∧ Inv z2) ∧
  (∀ (z : Sg) (a1 : Int32) (a2 : Int32) (a3 : Int32) (a4 : Int32), Inv z → ∃ (r : Int64) (z1 z2 : Sg), pS_odds fu a1 a2 a3 a4 z = some (r, z1) ∧ pM_odds fu a1 a2 a3 a4 z1 = some (r, z2) ∧ Inv z2) ∧
  (∀ (z : Sg), Inv z → ∃ (r : Int32) (z1 z2 : Sg), pS_image fu z = some (r, z1) ∧ pM_image fu z1 = some (r, z2) ∧ Inv z2) ∧
  (∀ (z : Sg), Inv z → ∃ (r : Int32) (z1 z2 : Sg), pS_back fu z = some (r, z1) ∧ pM_back fu z1 = some (r, z2) ∧ Inv z2) ∧
  (∀ (z : Sg) (a1 : Int32) (a2 : Int32) (a3 : Int32), Inv z → ∃ (r : Int32) (z1 z2 : Sg), pS_sheet fu a1 a2 a3 z = some (r, z1) ∧ pM_sheet fu a1 a2 a3 z1 = some (r, z2) ∧ Inv z2) ∧
  (∀ (z : Sg) (a1 : Int32) (a2 : Int32) (a3 : Int32), Inv z → ∃ (r : Int32) (z1 z2 : Sg), pS_cell fu a1 a2 a3 z = some (r, z1) ∧ pM_cell fu a1 a2 a3 z1 = some (r, z2) ∧ Inv z2) ∧
  (∀ (z : Sg) (a1 : Int32) (a2 : Int32) (a3 : Int32) (a4 : Int32) (a5 : Int32), Inv z → ∃ (r : Int32) (z1 z2 : Sg), pS_copy fu a1 a2 a3 a4 a5 z = some (r, z1) ∧ pM_copy fu a1 a2 a3 a4 a5 z1 = some (r, z2) ∧ Inv z2) ∧
  (∀ (z : Sg) (a1 : Int32) (a2 : Int32) (a3 : Int32) (a4 : Int32), Inv z → ∃ (r : Int32) (z1 z2 : Sg), pS_mowersBy fu a1 a2 a3 a4 z = some (r, z1) ∧ pM_mowersBy fu a1 a2 a3 a4 z1 = some (r, z2) ∧ Inv z2) ∧
  (∀ (z : Sg) (a1 : Int32) (a2 : Int32), Inv z → ∃ (r : Int32) (z1 z2 : Sg), pS_taken fu a1 a2 z = some (r, z1) ∧ pM_taken fu a1 a2 z1 = some (r, z2) ∧ Inv z2)
def I99 : List Nat := IC ++ IM
theorem cI99 : cI I99 := fun c h => List.mem_append_left _ (IC_in c h)
theorem mI99 : mI I99 := fun c h1 h2 => List.mem_append_right _ (IM_in c h1 h2)
theorem lg_cmp_self (r : Int64) : lg_cmp r r = 0 := by simp [lg_cmp]
section RWL
variable {p : Program} {l : Launch} {e : Env} {R : Room} {s : State} {m : MethodId} {args : Array Value} {below : List Frame} {meth : Method} {c : Code} {H : Heap} {locs : List Loc} {cells slots : Nat} {Q : State → Prop}
variable {own : String} {cc : ByteArray} {nL : Nat} {ret : Option FieldType} {G : GT} {I : List Nat} {A0 : Nat → Prop} {z : Sg} {pc : Nat} {ls : Array Slot} {st0 : List Value}
variable {y : MethodName} {b : ByteArray} {n k : Nat} {r : Option FieldType} {index : Nat} {rm : Room}
theorem rLCi (As : List Value) (rest : List Value) {a : Nat} (C : CXA p s m args meth c own cc nL ret G I A0) (hG : GWA G I A0 z s.heap H locs) {R1 : Int32} {Z : Sg} (hM : Mt l y rm b n r G I z (.ref a :: As) (Qi G I R1 Z)) (mv : MV y b n r k) (hk : Cond.methodLink own index y ∈ WG) (hR : rm.frames + 1 ≤ R.frames ∧ 8 + (n + 11) + rm.locals ≤ R.locals) (hc : rm.cells = 0 ∧ rm.slots = 0)
    (hv : ∃ cellB : Cell, H[a]? = some cellB ∧ cellB.vm.isStatics = false ∧ s.vm.findClass y.cls = some cellB.cls) (hn : As.length = k) (hsize : ls.size = nL) (hw : (rest.map fun v => v.category).sum ≤ 8) (hdg : decode cc pc = .ok (.invokevirtual index, 3)) (hf : cells ≤ R.cells ∧ slots ≤ R.slots) (hst : st0 = As.reverse ++ .ref a :: rest)
    (kk : ∀ (H1 : Heap) (locs1 : List Loc), GWA G I A0 Z s.heap H1 locs1 → W p l e R s m args below meth c H1 locs1 cells slots Q (F0 m (pc + 3) ls (.int R1 :: rest))) : W p l e R s m args below meth c H locs cells slots Q (F0 m pc ls st0) := by
  subst hst
  exact rBacki C.2.2.2.2.2.2.1.2 hG (rRunV C hG hM mv hk hR hc hv hn hsize hw hdg hf) kk
theorem rLCl (As : List Value) (rest : List Value) {a : Nat} (C : CXA p s m args meth c own cc nL ret G I A0) (hG : GWA G I A0 z s.heap H locs) {R1 : Int64} {Z : Sg} (hM : Mt l y rm b n r G I z (.ref a :: As) (Ql G I R1 Z)) (mv : MV y b n r k) (hk : Cond.methodLink own index y ∈ WG) (hR : rm.frames + 1 ≤ R.frames ∧ 8 + (n + 11) + rm.locals ≤ R.locals) (hc : rm.cells = 0 ∧ rm.slots = 0)
    (hv : ∃ cellB : Cell, H[a]? = some cellB ∧ cellB.vm.isStatics = false ∧ s.vm.findClass y.cls = some cellB.cls) (hn : As.length = k) (hsize : ls.size = nL) (hw : (rest.map fun v => v.category).sum ≤ 8) (hdg : decode cc pc = .ok (.invokevirtual index, 3)) (hf : cells ≤ R.cells ∧ slots ≤ R.slots) (hst : st0 = As.reverse ++ .ref a :: rest)
    (kk : ∀ (H1 : Heap) (locs1 : List Loc), GWA G I A0 Z s.heap H1 locs1 → W p l e R s m args below meth c H1 locs1 cells slots Q (F0 m (pc + 3) ls (.long R1 :: rest))) : W p l e R s m args below meth c H locs cells slots Q (F0 m pc ls st0) := by
  subst hst
  exact rBackl C.2.2.2.2.2.2.1.2 hG (rRunV C hG hM mv hk hR hc hv hn hsize hw hdg hf) kk
end RWL
def lw_P (b : Addr) (xs : List Int32) (args : Array Value) (s : State) : Prop := args = #[.ref b] ∧ s.IntsAt b xs ∧ xs.length ≤ 3584 ∧ (Jvm.Cond.and given_1 narrow_1).before args s = true
def lw_Q (_ : Array Value) (s : State) (o : Outcome) (t : State) : Prop := o = .returned (some (.int 1)) ∧ Framed s o t [] 600000 7302250
def lw_Z (below : List Frame) (a : Array Value) (s : State) : State → Prop := fun t => ∃ o, t.status = .running ∧ Ended t below o ∧ lw_Q a s o t
/-- the law's own end, with 1 on the stack, nothing written that was there before, its room as the claim has it -/
theorem lw_ret {p : Program} {l : Launch} {e : Env} {s : State} {m : MethodId} {below : List Frame} {meth : Method} {c : Code} {b : Nat} (hx : p.tables.exec = Jvm.exec) (hb : c.code = code) (hr : meth.sig.returnType = ret) (hlocks : meth.locks = false) {pc : Nat} {H : Heap} {ls : Array Slot} (hdg : decode code pc = .ok (.ireturn, 1)) : W p l e room_1 s m #[Value.ref b] below meth c H [] 600000 7302250 (lw_Z below #[Value.ref b] s) (F0 m pc ls [.int 1]) := by
  intro T hT X
  obtain ⟨fs, hret, hrun, hended, hW, hframe⟩ := X.leave (v := some (.int 1)) (hlocks := hlocks) (fun h => by rw [hr] at h; cases h)
  have hmeth' : T.vm.method? m = some meth := X.method'
  refine ⟨T.setFrames fs, ?_, .returned (some (.int 1)), hrun, hended, rfl, ⟨_, rfl⟩, hW, hframe⟩
  jvm_step X.here [X.here.top, hx, hb, hdg, hmeth', hr, ret, narrow_b1]
  (try refine ⟨rfl, ?_⟩); (try refine ⟨rfl, ?_⟩)
  first | (intro acts; rw [hret _ acts rfl rfl rfl]) | rw [hret _ _ rfl rfl rfl]
  exact Steps.refl _
/-- what holds at the law's entry: the machine, the code, the tables' words (any of lw_tbl by 'hts w (by decide +kernel)'), the script of L ints xs at the cell b, what the Statement gives of the start (any of its parts by flat_of_before) -/
def lw_At (p : Program) (s : State) (m : MethodId) (meth : Method) (c : Code) (b L : Nat) (xs : Nat → Int32) : Prop :=
  p.tables.exec = Jvm.exec ∧ c.code = code ∧ meth.sig.returnType = ret ∧ c.maxLocals = 4 ∧ s.vm.findClass R_law = some m.cls ∧ (∀ w ∈ lw_tbl, w.before #[Value.ref b] s = true) ∧ va_X b L xs s s.heap ∧ b < s.heap.size ∧ meth.locks = false ∧ (Jvm.Cond.and given_1 narrow_1).before #[Value.ref b] s = true
theorem dW_law_18 : decode code 18 = .ok (.iload_n 3, 1) := by decide +kernel
theorem dW_law_19 : decode code 19 = .ok (.aload_n 0, 1) := by decide +kernel
theorem dW_law_20 : decode code 20 = .ok (.arraylength, 1) := by decide +kernel
theorem dW_law_21 : decode code 21 = .ok (.bipush 7, 2) := by decide +kernel
theorem dW_law_23 : decode code 23 = .ok (.isub, 1) := by decide +kernel
theorem dW_law_24 : decode code 24 = .ok (.if_icmp .gt 1399, 3) := by decide +kernel
theorem dW_law_27 : decode code 27 = .ok (.aload_n 0, 1) := by decide +kernel
theorem dW_law_28 : decode code 28 = .ok (.iload_n 3, 1) := by decide +kernel
theorem dW_law_29 : decode code 29 = .ok (.iaload, 1) := by decide +kernel
theorem dW_law_30 : decode code 30 = .ok (.bipush 63, 2) := by decide +kernel
theorem dW_law_32 : decode code 32 = .ok (.iand, 1) := by decide +kernel
theorem dW_law_33 : decode code 33 = .ok (.tableswitch 1384 0 34 #[155, 178, 211, 234, 309, 322, 345, 378, 411, 454, 487, 500, 533, 556, 599, 632, 675, 708, 741, 775, 808, 851, 894, 937, 960, 993, 1036, 1069, 1123, 1136, 1149, 1192, 1235, 1298, 1351], 155) := by decide +kernel
theorem dW_law_188 : decode code 188 = .ok (.aload_n 1, 1) := by decide +kernel
theorem dW_law_189 : decode code 189 = .ok (.aload_n 0, 1) := by decide +kernel
theorem dW_law_190 : decode code 190 = .ok (.iload_n 3, 1) := by decide +kernel
theorem dW_law_191 : decode code 191 = .ok (.iconst 1, 1) := by decide +kernel
theorem dW_law_192 : decode code 192 = .ok (.iadd, 1) := by decide +kernel
theorem dW_law_193 : decode code 193 = .ok (.iaload, 1) := by decide +kernel
theorem dW_law_194 : decode code 194 = .ok (.invokevirtual 13, 3) := by decide +kernel
theorem dW_law_197 : decode code 197 = .ok (.aload_n 2, 1) := by decide +kernel
theorem dW_law_198 : decode code 198 = .ok (.aload_n 0, 1) := by decide +kernel
theorem dW_law_199 : decode code 199 = .ok (.iload_n 3, 1) := by decide +kernel
theorem dW_law_200 : decode code 200 = .ok (.iconst 1, 1) := by decide +kernel
theorem dW_law_201 : decode code 201 = .ok (.iadd, 1) := by decide +kernel
theorem dW_law_202 : decode code 202 = .ok (.iaload, 1) := by decide +kernel
theorem dW_law_203 : decode code 203 = .ok (.invokevirtual 17, 3) := by decide +kernel
theorem dW_law_206 : decode code 206 = .ok (.if_icmp .eq 1211, 3) := by decide +kernel
theorem dW_law_211 : decode code 211 = .ok (.aload_n 1, 1) := by decide +kernel
theorem dW_law_212 : decode code 212 = .ok (.aload_n 0, 1) := by decide +kernel
theorem dW_law_213 : decode code 213 = .ok (.iload_n 3, 1) := by decide +kernel
theorem dW_law_214 : decode code 214 = .ok (.iconst 1, 1) := by decide +kernel
theorem dW_law_215 : decode code 215 = .ok (.iadd, 1) := by decide +kernel
theorem dW_law_216 : decode code 216 = .ok (.iaload, 1) := by decide +kernel
theorem dW_law_217 : decode code 217 = .ok (.aload_n 0, 1) := by decide +kernel
theorem dW_law_218 : decode code 218 = .ok (.iload_n 3, 1) := by decide +kernel
theorem dW_law_219 : decode code 219 = .ok (.iconst 2, 1) := by decide +kernel
theorem dW_law_220 : decode code 220 = .ok (.iadd, 1) := by decide +kernel
theorem dW_law_221 : decode code 221 = .ok (.iaload, 1) := by decide +kernel
theorem dW_law_222 : decode code 222 = .ok (.invokevirtual 18, 3) := by decide +kernel
theorem dW_law_225 : decode code 225 = .ok (.aload_n 2, 1) := by decide +kernel
theorem dW_law_226 : decode code 226 = .ok (.aload_n 0, 1) := by decide +kernel
theorem dW_law_227 : decode code 227 = .ok (.iload_n 3, 1) := by decide +kernel
theorem dW_law_228 : decode code 228 = .ok (.iconst 1, 1) := by decide +kernel
theorem dW_law_229 : decode code 229 = .ok (.iadd, 1) := by decide +kernel
theorem dW_law_230 : decode code 230 = .ok (.iaload, 1) := by decide +kernel
theorem dW_law_231 : decode code 231 = .ok (.aload_n 0, 1) := by decide +kernel
theorem dW_law_232 : decode code 232 = .ok (.iload_n 3, 1) := by decide +kernel
theorem dW_law_233 : decode code 233 = .ok (.iconst 2, 1) := by decide +kernel
theorem dW_law_234 : decode code 234 = .ok (.iadd, 1) := by decide +kernel
theorem dW_law_235 : decode code 235 = .ok (.iaload, 1) := by decide +kernel
theorem dW_law_236 : decode code 236 = .ok (.invokevirtual 22, 3) := by decide +kernel
theorem dW_law_239 : decode code 239 = .ok (.if_icmp .eq 1178, 3) := by decide +kernel
theorem dW_law_244 : decode code 244 = .ok (.aload_n 1, 1) := by decide +kernel
theorem dW_law_245 : decode code 245 = .ok (.aload_n 0, 1) := by decide +kernel
theorem dW_law_246 : decode code 246 = .ok (.iload_n 3, 1) := by decide +kernel
theorem dW_law_247 : decode code 247 = .ok (.iconst 1, 1) := by decide +kernel
theorem dW_law_248 : decode code 248 = .ok (.iadd, 1) := by decide +kernel
theorem dW_law_249 : decode code 249 = .ok (.iaload, 1) := by decide +kernel
theorem dW_law_250 : decode code 250 = .ok (.invokevirtual 23, 3) := by decide +kernel
theorem dW_law_253 : decode code 253 = .ok (.aload_n 2, 1) := by decide +kernel
theorem dW_law_254 : decode code 254 = .ok (.aload_n 0, 1) := by decide +kernel
theorem dW_law_255 : decode code 255 = .ok (.iload_n 3, 1) := by decide +kernel
theorem dW_law_256 : decode code 256 = .ok (.iconst 1, 1) := by decide +kernel
theorem dW_law_257 : decode code 257 = .ok (.iadd, 1) := by decide +kernel
theorem dW_law_258 : decode code 258 = .ok (.iaload, 1) := by decide +kernel
theorem dW_law_259 : decode code 259 = .ok (.invokevirtual 26, 3) := by decide +kernel
theorem dW_law_262 : decode code 262 = .ok (.if_icmp .eq 1155, 3) := by decide +kernel
theorem dW_law_267 : decode code 267 = .ok (.aload_n 1, 1) := by decide +kernel
theorem dW_law_268 : decode code 268 = .ok (.aload_n 0, 1) := by decide +kernel
theorem dW_law_269 : decode code 269 = .ok (.iload_n 3, 1) := by decide +kernel
theorem dW_law_270 : decode code 270 = .ok (.iconst 1, 1) := by decide +kernel
theorem dW_law_271 : decode code 271 = .ok (.iadd, 1) := by decide +kernel
theorem dW_law_272 : decode code 272 = .ok (.iaload, 1) := by decide +kernel
theorem dW_law_273 : decode code 273 = .ok (.aload_n 0, 1) := by decide +kernel
theorem dW_law_274 : decode code 274 = .ok (.iload_n 3, 1) := by decide +kernel
theorem dW_law_275 : decode code 275 = .ok (.iconst 2, 1) := by decide +kernel
theorem dW_law_276 : decode code 276 = .ok (.iadd, 1) := by decide +kernel
theorem dW_law_277 : decode code 277 = .ok (.iaload, 1) := by decide +kernel
theorem dW_law_278 : decode code 278 = .ok (.aload_n 0, 1) := by decide +kernel
theorem dW_law_279 : decode code 279 = .ok (.iload_n 3, 1) := by decide +kernel
theorem dW_law_280 : decode code 280 = .ok (.iconst 3, 1) := by decide +kernel
theorem dW_law_281 : decode code 281 = .ok (.iadd, 1) := by decide +kernel
theorem dW_law_282 : decode code 282 = .ok (.iaload, 1) := by decide +kernel
theorem dW_law_283 : decode code 283 = .ok (.aload_n 0, 1) := by decide +kernel
theorem dW_law_284 : decode code 284 = .ok (.iload_n 3, 1) := by decide +kernel
theorem dW_law_285 : decode code 285 = .ok (.iconst 4, 1) := by decide +kernel
theorem dW_law_286 : decode code 286 = .ok (.iadd, 1) := by decide +kernel
theorem dW_law_287 : decode code 287 = .ok (.iaload, 1) := by decide +kernel
theorem dW_law_288 : decode code 288 = .ok (.aload_n 0, 1) := by decide +kernel
theorem dW_law_289 : decode code 289 = .ok (.iload_n 3, 1) := by decide +kernel
theorem dW_law_290 : decode code 290 = .ok (.iconst 5, 1) := by decide +kernel
theorem dW_law_291 : decode code 291 = .ok (.iadd, 1) := by decide +kernel
theorem dW_law_292 : decode code 292 = .ok (.iaload, 1) := by decide +kernel
theorem dW_law_293 : decode code 293 = .ok (.aload_n 0, 1) := by decide +kernel
theorem dW_law_294 : decode code 294 = .ok (.iload_n 3, 1) := by decide +kernel
theorem dW_law_295 : decode code 295 = .ok (.bipush 6, 2) := by decide +kernel
theorem dW_law_297 : decode code 297 = .ok (.iadd, 1) := by decide +kernel
theorem dW_law_298 : decode code 298 = .ok (.iaload, 1) := by decide +kernel
theorem dW_law_299 : decode code 299 = .ok (.invokevirtual 27, 3) := by decide +kernel
theorem dW_law_302 : decode code 302 = .ok (.aload_n 2, 1) := by decide +kernel
theorem dW_law_303 : decode code 303 = .ok (.aload_n 0, 1) := by decide +kernel
theorem dW_law_304 : decode code 304 = .ok (.iload_n 3, 1) := by decide +kernel
theorem dW_law_305 : decode code 305 = .ok (.iconst 1, 1) := by decide +kernel
theorem dW_law_306 : decode code 306 = .ok (.iadd, 1) := by decide +kernel
theorem dW_law_307 : decode code 307 = .ok (.iaload, 1) := by decide +kernel
theorem dW_law_308 : decode code 308 = .ok (.aload_n 0, 1) := by decide +kernel
theorem dW_law_309 : decode code 309 = .ok (.iload_n 3, 1) := by decide +kernel
theorem dW_law_310 : decode code 310 = .ok (.iconst 2, 1) := by decide +kernel
theorem dW_law_311 : decode code 311 = .ok (.iadd, 1) := by decide +kernel
theorem dW_law_312 : decode code 312 = .ok (.iaload, 1) := by decide +kernel
theorem dW_law_313 : decode code 313 = .ok (.aload_n 0, 1) := by decide +kernel
theorem dW_law_314 : decode code 314 = .ok (.iload_n 3, 1) := by decide +kernel
theorem dW_law_315 : decode code 315 = .ok (.iconst 3, 1) := by decide +kernel
theorem dW_law_316 : decode code 316 = .ok (.iadd, 1) := by decide +kernel
theorem dW_law_317 : decode code 317 = .ok (.iaload, 1) := by decide +kernel
theorem dW_law_318 : decode code 318 = .ok (.aload_n 0, 1) := by decide +kernel
theorem dW_law_319 : decode code 319 = .ok (.iload_n 3, 1) := by decide +kernel
theorem dW_law_320 : decode code 320 = .ok (.iconst 4, 1) := by decide +kernel
theorem dW_law_321 : decode code 321 = .ok (.iadd, 1) := by decide +kernel
theorem dW_law_322 : decode code 322 = .ok (.iaload, 1) := by decide +kernel
theorem dW_law_323 : decode code 323 = .ok (.aload_n 0, 1) := by decide +kernel
theorem dW_law_324 : decode code 324 = .ok (.iload_n 3, 1) := by decide +kernel
theorem dW_law_325 : decode code 325 = .ok (.iconst 5, 1) := by decide +kernel
theorem dW_law_326 : decode code 326 = .ok (.iadd, 1) := by decide +kernel
theorem dW_law_327 : decode code 327 = .ok (.iaload, 1) := by decide +kernel
theorem dW_law_328 : decode code 328 = .ok (.aload_n 0, 1) := by decide +kernel
theorem dW_law_329 : decode code 329 = .ok (.iload_n 3, 1) := by decide +kernel
theorem dW_law_330 : decode code 330 = .ok (.bipush 6, 2) := by decide +kernel
theorem dW_law_332 : decode code 332 = .ok (.iadd, 1) := by decide +kernel
theorem dW_law_333 : decode code 333 = .ok (.iaload, 1) := by decide +kernel
theorem dW_law_334 : decode code 334 = .ok (.invokevirtual 31, 3) := by decide +kernel
theorem dW_law_337 : decode code 337 = .ok (.if_icmp .eq 1080, 3) := by decide +kernel
theorem dW_law_342 : decode code 342 = .ok (.aload_n 1, 1) := by decide +kernel
theorem dW_law_343 : decode code 343 = .ok (.invokevirtual 32, 3) := by decide +kernel
theorem dW_law_346 : decode code 346 = .ok (.aload_n 2, 1) := by decide +kernel
theorem dW_law_347 : decode code 347 = .ok (.invokevirtual 36, 3) := by decide +kernel
theorem dW_law_350 : decode code 350 = .ok (.if_icmp .eq 1067, 3) := by decide +kernel
theorem dW_law_355 : decode code 355 = .ok (.aload_n 1, 1) := by decide +kernel
theorem dW_law_356 : decode code 356 = .ok (.aload_n 0, 1) := by decide +kernel
theorem dW_law_357 : decode code 357 = .ok (.iload_n 3, 1) := by decide +kernel
theorem dW_law_358 : decode code 358 = .ok (.iconst 1, 1) := by decide +kernel
theorem dW_law_359 : decode code 359 = .ok (.iadd, 1) := by decide +kernel
theorem dW_law_360 : decode code 360 = .ok (.iaload, 1) := by decide +kernel
theorem dW_law_361 : decode code 361 = .ok (.invokevirtual 37, 3) := by decide +kernel
theorem dW_law_364 : decode code 364 = .ok (.aload_n 2, 1) := by decide +kernel
theorem dW_law_365 : decode code 365 = .ok (.aload_n 0, 1) := by decide +kernel
theorem dW_law_366 : decode code 366 = .ok (.iload_n 3, 1) := by decide +kernel
theorem dW_law_367 : decode code 367 = .ok (.iconst 1, 1) := by decide +kernel
theorem dW_law_368 : decode code 368 = .ok (.iadd, 1) := by decide +kernel
theorem dW_law_369 : decode code 369 = .ok (.iaload, 1) := by decide +kernel
theorem dW_law_370 : decode code 370 = .ok (.invokevirtual 40, 3) := by decide +kernel
theorem dW_law_373 : decode code 373 = .ok (.if_icmp .eq 1044, 3) := by decide +kernel
theorem dW_law_378 : decode code 378 = .ok (.aload_n 1, 1) := by decide +kernel
theorem dW_law_379 : decode code 379 = .ok (.aload_n 0, 1) := by decide +kernel
theorem dW_law_380 : decode code 380 = .ok (.iload_n 3, 1) := by decide +kernel
theorem dW_law_381 : decode code 381 = .ok (.iconst 1, 1) := by decide +kernel
theorem dW_law_382 : decode code 382 = .ok (.iadd, 1) := by decide +kernel
theorem dW_law_383 : decode code 383 = .ok (.iaload, 1) := by decide +kernel
theorem dW_law_384 : decode code 384 = .ok (.aload_n 0, 1) := by decide +kernel
theorem dW_law_385 : decode code 385 = .ok (.iload_n 3, 1) := by decide +kernel
theorem dW_law_386 : decode code 386 = .ok (.iconst 2, 1) := by decide +kernel
theorem dW_law_387 : decode code 387 = .ok (.iadd, 1) := by decide +kernel
theorem dW_law_388 : decode code 388 = .ok (.iaload, 1) := by decide +kernel
theorem dW_law_389 : decode code 389 = .ok (.invokevirtual 41, 3) := by decide +kernel
theorem dW_law_392 : decode code 392 = .ok (.aload_n 2, 1) := by decide +kernel
theorem dW_law_393 : decode code 393 = .ok (.aload_n 0, 1) := by decide +kernel
theorem dW_law_394 : decode code 394 = .ok (.iload_n 3, 1) := by decide +kernel
theorem dW_law_395 : decode code 395 = .ok (.iconst 1, 1) := by decide +kernel
theorem dW_law_396 : decode code 396 = .ok (.iadd, 1) := by decide +kernel
theorem dW_law_397 : decode code 397 = .ok (.iaload, 1) := by decide +kernel
theorem dW_law_398 : decode code 398 = .ok (.aload_n 0, 1) := by decide +kernel
theorem dW_law_399 : decode code 399 = .ok (.iload_n 3, 1) := by decide +kernel
theorem dW_law_400 : decode code 400 = .ok (.iconst 2, 1) := by decide +kernel
theorem dW_law_401 : decode code 401 = .ok (.iadd, 1) := by decide +kernel
theorem dW_law_402 : decode code 402 = .ok (.iaload, 1) := by decide +kernel
theorem dW_law_403 : decode code 403 = .ok (.invokevirtual 44, 3) := by decide +kernel
theorem dW_law_406 : decode code 406 = .ok (.if_icmp .eq 1011, 3) := by decide +kernel
theorem dW_law_411 : decode code 411 = .ok (.aload_n 1, 1) := by decide +kernel
theorem dW_law_412 : decode code 412 = .ok (.aload_n 0, 1) := by decide +kernel
theorem dW_law_413 : decode code 413 = .ok (.iload_n 3, 1) := by decide +kernel
theorem dW_law_414 : decode code 414 = .ok (.iconst 1, 1) := by decide +kernel
theorem dW_law_415 : decode code 415 = .ok (.iadd, 1) := by decide +kernel
theorem dW_law_416 : decode code 416 = .ok (.iaload, 1) := by decide +kernel
theorem dW_law_417 : decode code 417 = .ok (.aload_n 0, 1) := by decide +kernel
theorem dW_law_418 : decode code 418 = .ok (.iload_n 3, 1) := by decide +kernel
theorem dW_law_419 : decode code 419 = .ok (.iconst 2, 1) := by decide +kernel
theorem dW_law_420 : decode code 420 = .ok (.iadd, 1) := by decide +kernel
theorem dW_law_421 : decode code 421 = .ok (.iaload, 1) := by decide +kernel
theorem dW_law_422 : decode code 422 = .ok (.invokevirtual 45, 3) := by decide +kernel
theorem dW_law_425 : decode code 425 = .ok (.aload_n 2, 1) := by decide +kernel
theorem dW_law_426 : decode code 426 = .ok (.aload_n 0, 1) := by decide +kernel
theorem dW_law_427 : decode code 427 = .ok (.iload_n 3, 1) := by decide +kernel
theorem dW_law_428 : decode code 428 = .ok (.iconst 1, 1) := by decide +kernel
theorem dW_law_429 : decode code 429 = .ok (.iadd, 1) := by decide +kernel
theorem dW_law_430 : decode code 430 = .ok (.iaload, 1) := by decide +kernel
theorem dW_law_431 : decode code 431 = .ok (.aload_n 0, 1) := by decide +kernel
theorem dW_law_432 : decode code 432 = .ok (.iload_n 3, 1) := by decide +kernel
theorem dW_law_433 : decode code 433 = .ok (.iconst 2, 1) := by decide +kernel
theorem dW_law_434 : decode code 434 = .ok (.iadd, 1) := by decide +kernel
theorem dW_law_435 : decode code 435 = .ok (.iaload, 1) := by decide +kernel
theorem dW_law_436 : decode code 436 = .ok (.invokevirtual 48, 3) := by decide +kernel
theorem dW_law_439 : decode code 439 = .ok (.if_icmp .eq 978, 3) := by decide +kernel
theorem dW_law_444 : decode code 444 = .ok (.aload_n 1, 1) := by decide +kernel
theorem dW_law_445 : decode code 445 = .ok (.aload_n 0, 1) := by decide +kernel
theorem dW_law_446 : decode code 446 = .ok (.iload_n 3, 1) := by decide +kernel
theorem dW_law_447 : decode code 447 = .ok (.iconst 1, 1) := by decide +kernel
theorem dW_law_448 : decode code 448 = .ok (.iadd, 1) := by decide +kernel
theorem dW_law_449 : decode code 449 = .ok (.iaload, 1) := by decide +kernel
theorem dW_law_450 : decode code 450 = .ok (.aload_n 0, 1) := by decide +kernel
theorem dW_law_451 : decode code 451 = .ok (.iload_n 3, 1) := by decide +kernel
theorem dW_law_452 : decode code 452 = .ok (.iconst 2, 1) := by decide +kernel
theorem dW_law_453 : decode code 453 = .ok (.iadd, 1) := by decide +kernel
theorem dW_law_454 : decode code 454 = .ok (.iaload, 1) := by decide +kernel
theorem dW_law_455 : decode code 455 = .ok (.aload_n 0, 1) := by decide +kernel
theorem dW_law_456 : decode code 456 = .ok (.iload_n 3, 1) := by decide +kernel
theorem dW_law_457 : decode code 457 = .ok (.iconst 3, 1) := by decide +kernel
theorem dW_law_458 : decode code 458 = .ok (.iadd, 1) := by decide +kernel
theorem dW_law_459 : decode code 459 = .ok (.iaload, 1) := by decide +kernel
theorem dW_law_460 : decode code 460 = .ok (.invokevirtual 49, 3) := by decide +kernel
theorem dW_law_463 : decode code 463 = .ok (.aload_n 2, 1) := by decide +kernel
theorem dW_law_464 : decode code 464 = .ok (.aload_n 0, 1) := by decide +kernel
theorem dW_law_465 : decode code 465 = .ok (.iload_n 3, 1) := by decide +kernel
theorem dW_law_466 : decode code 466 = .ok (.iconst 1, 1) := by decide +kernel
theorem dW_law_467 : decode code 467 = .ok (.iadd, 1) := by decide +kernel
theorem dW_law_468 : decode code 468 = .ok (.iaload, 1) := by decide +kernel
theorem dW_law_469 : decode code 469 = .ok (.aload_n 0, 1) := by decide +kernel
theorem dW_law_470 : decode code 470 = .ok (.iload_n 3, 1) := by decide +kernel
theorem dW_law_471 : decode code 471 = .ok (.iconst 2, 1) := by decide +kernel
theorem dW_law_472 : decode code 472 = .ok (.iadd, 1) := by decide +kernel
theorem dW_law_473 : decode code 473 = .ok (.iaload, 1) := by decide +kernel
theorem dW_law_474 : decode code 474 = .ok (.aload_n 0, 1) := by decide +kernel
theorem dW_law_475 : decode code 475 = .ok (.iload_n 3, 1) := by decide +kernel
theorem dW_law_476 : decode code 476 = .ok (.iconst 3, 1) := by decide +kernel
theorem dW_law_477 : decode code 477 = .ok (.iadd, 1) := by decide +kernel
theorem dW_law_478 : decode code 478 = .ok (.iaload, 1) := by decide +kernel
theorem dW_law_479 : decode code 479 = .ok (.invokevirtual 53, 3) := by decide +kernel
theorem dW_law_482 : decode code 482 = .ok (.if_icmp .eq 935, 3) := by decide +kernel
theorem dW_law_487 : decode code 487 = .ok (.aload_n 1, 1) := by decide +kernel
theorem dW_law_488 : decode code 488 = .ok (.aload_n 0, 1) := by decide +kernel
theorem dW_law_489 : decode code 489 = .ok (.iload_n 3, 1) := by decide +kernel
theorem dW_law_490 : decode code 490 = .ok (.iconst 1, 1) := by decide +kernel
theorem dW_law_491 : decode code 491 = .ok (.iadd, 1) := by decide +kernel
theorem dW_law_492 : decode code 492 = .ok (.iaload, 1) := by decide +kernel
theorem dW_law_493 : decode code 493 = .ok (.aload_n 0, 1) := by decide +kernel
theorem dW_law_494 : decode code 494 = .ok (.iload_n 3, 1) := by decide +kernel
theorem dW_law_495 : decode code 495 = .ok (.iconst 2, 1) := by decide +kernel
theorem dW_law_496 : decode code 496 = .ok (.iadd, 1) := by decide +kernel
theorem dW_law_497 : decode code 497 = .ok (.iaload, 1) := by decide +kernel
theorem dW_law_498 : decode code 498 = .ok (.invokevirtual 54, 3) := by decide +kernel
theorem dW_law_501 : decode code 501 = .ok (.aload_n 2, 1) := by decide +kernel
theorem dW_law_502 : decode code 502 = .ok (.aload_n 0, 1) := by decide +kernel
theorem dW_law_503 : decode code 503 = .ok (.iload_n 3, 1) := by decide +kernel
theorem dW_law_504 : decode code 504 = .ok (.iconst 1, 1) := by decide +kernel
theorem dW_law_505 : decode code 505 = .ok (.iadd, 1) := by decide +kernel
theorem dW_law_506 : decode code 506 = .ok (.iaload, 1) := by decide +kernel
theorem dW_law_507 : decode code 507 = .ok (.aload_n 0, 1) := by decide +kernel
theorem dW_law_508 : decode code 508 = .ok (.iload_n 3, 1) := by decide +kernel
theorem dW_law_509 : decode code 509 = .ok (.iconst 2, 1) := by decide +kernel
theorem dW_law_510 : decode code 510 = .ok (.iadd, 1) := by decide +kernel
theorem dW_law_511 : decode code 511 = .ok (.iaload, 1) := by decide +kernel
theorem dW_law_512 : decode code 512 = .ok (.invokevirtual 57, 3) := by decide +kernel
theorem dW_law_515 : decode code 515 = .ok (.if_icmp .eq 902, 3) := by decide +kernel
theorem dW_law_520 : decode code 520 = .ok (.aload_n 1, 1) := by decide +kernel
theorem dW_law_521 : decode code 521 = .ok (.invokevirtual 58, 3) := by decide +kernel
theorem dW_law_524 : decode code 524 = .ok (.aload_n 2, 1) := by decide +kernel
theorem dW_law_525 : decode code 525 = .ok (.invokevirtual 61, 3) := by decide +kernel
theorem dW_law_528 : decode code 528 = .ok (.if_icmp .eq 889, 3) := by decide +kernel
theorem dW_law_533 : decode code 533 = .ok (.aload_n 1, 1) := by decide +kernel
theorem dW_law_534 : decode code 534 = .ok (.aload_n 0, 1) := by decide +kernel
theorem dW_law_535 : decode code 535 = .ok (.iload_n 3, 1) := by decide +kernel
theorem dW_law_536 : decode code 536 = .ok (.iconst 1, 1) := by decide +kernel
theorem dW_law_537 : decode code 537 = .ok (.iadd, 1) := by decide +kernel
theorem dW_law_538 : decode code 538 = .ok (.iaload, 1) := by decide +kernel
theorem dW_law_539 : decode code 539 = .ok (.aload_n 0, 1) := by decide +kernel
theorem dW_law_540 : decode code 540 = .ok (.iload_n 3, 1) := by decide +kernel
theorem dW_law_541 : decode code 541 = .ok (.iconst 2, 1) := by decide +kernel
theorem dW_law_542 : decode code 542 = .ok (.iadd, 1) := by decide +kernel
theorem dW_law_543 : decode code 543 = .ok (.iaload, 1) := by decide +kernel
theorem dW_law_544 : decode code 544 = .ok (.invokevirtual 62, 3) := by decide +kernel
theorem dW_law_547 : decode code 547 = .ok (.aload_n 2, 1) := by decide +kernel
theorem dW_law_548 : decode code 548 = .ok (.aload_n 0, 1) := by decide +kernel
theorem dW_law_549 : decode code 549 = .ok (.iload_n 3, 1) := by decide +kernel
theorem dW_law_550 : decode code 550 = .ok (.iconst 1, 1) := by decide +kernel
theorem dW_law_551 : decode code 551 = .ok (.iadd, 1) := by decide +kernel
theorem dW_law_552 : decode code 552 = .ok (.iaload, 1) := by decide +kernel
theorem dW_law_553 : decode code 553 = .ok (.aload_n 0, 1) := by decide +kernel
theorem dW_law_554 : decode code 554 = .ok (.iload_n 3, 1) := by decide +kernel
theorem dW_law_555 : decode code 555 = .ok (.iconst 2, 1) := by decide +kernel
theorem dW_law_556 : decode code 556 = .ok (.iadd, 1) := by decide +kernel
theorem dW_law_557 : decode code 557 = .ok (.iaload, 1) := by decide +kernel
theorem dW_law_558 : decode code 558 = .ok (.invokevirtual 65, 3) := by decide +kernel
theorem dW_law_561 : decode code 561 = .ok (.if_icmp .eq 856, 3) := by decide +kernel
theorem dW_law_566 : decode code 566 = .ok (.aload_n 1, 1) := by decide +kernel
theorem dW_law_567 : decode code 567 = .ok (.aload_n 0, 1) := by decide +kernel
theorem dW_law_568 : decode code 568 = .ok (.iload_n 3, 1) := by decide +kernel
theorem dW_law_569 : decode code 569 = .ok (.iconst 1, 1) := by decide +kernel
theorem dW_law_570 : decode code 570 = .ok (.iadd, 1) := by decide +kernel
theorem dW_law_571 : decode code 571 = .ok (.iaload, 1) := by decide +kernel
theorem dW_law_572 : decode code 572 = .ok (.invokevirtual 66, 3) := by decide +kernel
theorem dW_law_575 : decode code 575 = .ok (.aload_n 2, 1) := by decide +kernel
theorem dW_law_576 : decode code 576 = .ok (.aload_n 0, 1) := by decide +kernel
theorem dW_law_577 : decode code 577 = .ok (.iload_n 3, 1) := by decide +kernel
theorem dW_law_578 : decode code 578 = .ok (.iconst 1, 1) := by decide +kernel
theorem dW_law_579 : decode code 579 = .ok (.iadd, 1) := by decide +kernel
theorem dW_law_580 : decode code 580 = .ok (.iaload, 1) := by decide +kernel
theorem dW_law_581 : decode code 581 = .ok (.invokevirtual 69, 3) := by decide +kernel
theorem dW_law_584 : decode code 584 = .ok (.if_icmp .eq 833, 3) := by decide +kernel
theorem dW_law_589 : decode code 589 = .ok (.aload_n 1, 1) := by decide +kernel
theorem dW_law_590 : decode code 590 = .ok (.aload_n 0, 1) := by decide +kernel
theorem dW_law_591 : decode code 591 = .ok (.iload_n 3, 1) := by decide +kernel
theorem dW_law_592 : decode code 592 = .ok (.iconst 1, 1) := by decide +kernel
theorem dW_law_593 : decode code 593 = .ok (.iadd, 1) := by decide +kernel
theorem dW_law_594 : decode code 594 = .ok (.iaload, 1) := by decide +kernel
theorem dW_law_595 : decode code 595 = .ok (.aload_n 0, 1) := by decide +kernel
theorem dW_law_596 : decode code 596 = .ok (.iload_n 3, 1) := by decide +kernel
theorem dW_law_597 : decode code 597 = .ok (.iconst 2, 1) := by decide +kernel
theorem dW_law_598 : decode code 598 = .ok (.iadd, 1) := by decide +kernel
theorem dW_law_599 : decode code 599 = .ok (.iaload, 1) := by decide +kernel
theorem dW_law_600 : decode code 600 = .ok (.aload_n 0, 1) := by decide +kernel
theorem dW_law_601 : decode code 601 = .ok (.iload_n 3, 1) := by decide +kernel
theorem dW_law_602 : decode code 602 = .ok (.iconst 3, 1) := by decide +kernel
theorem dW_law_603 : decode code 603 = .ok (.iadd, 1) := by decide +kernel
theorem dW_law_604 : decode code 604 = .ok (.iaload, 1) := by decide +kernel
theorem dW_law_605 : decode code 605 = .ok (.invokevirtual 70, 3) := by decide +kernel
theorem dW_law_608 : decode code 608 = .ok (.aload_n 2, 1) := by decide +kernel
theorem dW_law_609 : decode code 609 = .ok (.aload_n 0, 1) := by decide +kernel
theorem dW_law_610 : decode code 610 = .ok (.iload_n 3, 1) := by decide +kernel
theorem dW_law_611 : decode code 611 = .ok (.iconst 1, 1) := by decide +kernel
theorem dW_law_612 : decode code 612 = .ok (.iadd, 1) := by decide +kernel
theorem dW_law_613 : decode code 613 = .ok (.iaload, 1) := by decide +kernel
theorem dW_law_614 : decode code 614 = .ok (.aload_n 0, 1) := by decide +kernel
theorem dW_law_615 : decode code 615 = .ok (.iload_n 3, 1) := by decide +kernel
theorem dW_law_616 : decode code 616 = .ok (.iconst 2, 1) := by decide +kernel
theorem dW_law_617 : decode code 617 = .ok (.iadd, 1) := by decide +kernel
theorem dW_law_618 : decode code 618 = .ok (.iaload, 1) := by decide +kernel
theorem dW_law_619 : decode code 619 = .ok (.aload_n 0, 1) := by decide +kernel
theorem dW_law_620 : decode code 620 = .ok (.iload_n 3, 1) := by decide +kernel
theorem dW_law_621 : decode code 621 = .ok (.iconst 3, 1) := by decide +kernel
theorem dW_law_622 : decode code 622 = .ok (.iadd, 1) := by decide +kernel
theorem dW_law_623 : decode code 623 = .ok (.iaload, 1) := by decide +kernel
theorem dW_law_624 : decode code 624 = .ok (.invokevirtual 73, 3) := by decide +kernel
theorem dW_law_627 : decode code 627 = .ok (.if_icmp .eq 790, 3) := by decide +kernel
theorem dW_law_632 : decode code 632 = .ok (.aload_n 1, 1) := by decide +kernel
theorem dW_law_633 : decode code 633 = .ok (.aload_n 0, 1) := by decide +kernel
theorem dW_law_634 : decode code 634 = .ok (.iload_n 3, 1) := by decide +kernel
theorem dW_law_635 : decode code 635 = .ok (.iconst 1, 1) := by decide +kernel
theorem dW_law_636 : decode code 636 = .ok (.iadd, 1) := by decide +kernel
theorem dW_law_637 : decode code 637 = .ok (.iaload, 1) := by decide +kernel
theorem dW_law_638 : decode code 638 = .ok (.aload_n 0, 1) := by decide +kernel
theorem dW_law_639 : decode code 639 = .ok (.iload_n 3, 1) := by decide +kernel
theorem dW_law_640 : decode code 640 = .ok (.iconst 2, 1) := by decide +kernel
theorem dW_law_641 : decode code 641 = .ok (.iadd, 1) := by decide +kernel
theorem dW_law_642 : decode code 642 = .ok (.iaload, 1) := by decide +kernel
theorem dW_law_643 : decode code 643 = .ok (.invokevirtual 74, 3) := by decide +kernel
theorem dW_law_646 : decode code 646 = .ok (.aload_n 2, 1) := by decide +kernel
theorem dW_law_647 : decode code 647 = .ok (.aload_n 0, 1) := by decide +kernel
theorem dW_law_648 : decode code 648 = .ok (.iload_n 3, 1) := by decide +kernel
theorem dW_law_649 : decode code 649 = .ok (.iconst 1, 1) := by decide +kernel
theorem dW_law_650 : decode code 650 = .ok (.iadd, 1) := by decide +kernel
theorem dW_law_651 : decode code 651 = .ok (.iaload, 1) := by decide +kernel
theorem dW_law_652 : decode code 652 = .ok (.aload_n 0, 1) := by decide +kernel
theorem dW_law_653 : decode code 653 = .ok (.iload_n 3, 1) := by decide +kernel
theorem dW_law_654 : decode code 654 = .ok (.iconst 2, 1) := by decide +kernel
theorem dW_law_655 : decode code 655 = .ok (.iadd, 1) := by decide +kernel
theorem dW_law_656 : decode code 656 = .ok (.iaload, 1) := by decide +kernel
theorem dW_law_657 : decode code 657 = .ok (.invokevirtual 77, 3) := by decide +kernel
theorem dW_law_660 : decode code 660 = .ok (.if_icmp .eq 757, 3) := by decide +kernel
theorem dW_law_665 : decode code 665 = .ok (.aload_n 1, 1) := by decide +kernel
theorem dW_law_666 : decode code 666 = .ok (.aload_n 0, 1) := by decide +kernel
theorem dW_law_667 : decode code 667 = .ok (.iload_n 3, 1) := by decide +kernel
theorem dW_law_668 : decode code 668 = .ok (.iconst 1, 1) := by decide +kernel
theorem dW_law_669 : decode code 669 = .ok (.iadd, 1) := by decide +kernel
theorem dW_law_670 : decode code 670 = .ok (.iaload, 1) := by decide +kernel
theorem dW_law_671 : decode code 671 = .ok (.aload_n 0, 1) := by decide +kernel
theorem dW_law_672 : decode code 672 = .ok (.iload_n 3, 1) := by decide +kernel
theorem dW_law_673 : decode code 673 = .ok (.iconst 2, 1) := by decide +kernel
theorem dW_law_674 : decode code 674 = .ok (.iadd, 1) := by decide +kernel
theorem dW_law_675 : decode code 675 = .ok (.iaload, 1) := by decide +kernel
theorem dW_law_676 : decode code 676 = .ok (.aload_n 0, 1) := by decide +kernel
theorem dW_law_677 : decode code 677 = .ok (.iload_n 3, 1) := by decide +kernel
theorem dW_law_678 : decode code 678 = .ok (.iconst 3, 1) := by decide +kernel
theorem dW_law_679 : decode code 679 = .ok (.iadd, 1) := by decide +kernel
theorem dW_law_680 : decode code 680 = .ok (.iaload, 1) := by decide +kernel
theorem dW_law_681 : decode code 681 = .ok (.invokevirtual 78, 3) := by decide +kernel
theorem dW_law_684 : decode code 684 = .ok (.aload_n 2, 1) := by decide +kernel
theorem dW_law_685 : decode code 685 = .ok (.aload_n 0, 1) := by decide +kernel
theorem dW_law_686 : decode code 686 = .ok (.iload_n 3, 1) := by decide +kernel
theorem dW_law_687 : decode code 687 = .ok (.iconst 1, 1) := by decide +kernel
theorem dW_law_688 : decode code 688 = .ok (.iadd, 1) := by decide +kernel
theorem dW_law_689 : decode code 689 = .ok (.iaload, 1) := by decide +kernel
theorem dW_law_690 : decode code 690 = .ok (.aload_n 0, 1) := by decide +kernel
theorem dW_law_691 : decode code 691 = .ok (.iload_n 3, 1) := by decide +kernel
theorem dW_law_692 : decode code 692 = .ok (.iconst 2, 1) := by decide +kernel
theorem dW_law_693 : decode code 693 = .ok (.iadd, 1) := by decide +kernel
theorem dW_law_694 : decode code 694 = .ok (.iaload, 1) := by decide +kernel
theorem dW_law_695 : decode code 695 = .ok (.aload_n 0, 1) := by decide +kernel
theorem dW_law_696 : decode code 696 = .ok (.iload_n 3, 1) := by decide +kernel
theorem dW_law_697 : decode code 697 = .ok (.iconst 3, 1) := by decide +kernel
theorem dW_law_698 : decode code 698 = .ok (.iadd, 1) := by decide +kernel
theorem dW_law_699 : decode code 699 = .ok (.iaload, 1) := by decide +kernel
theorem dW_law_700 : decode code 700 = .ok (.invokevirtual 81, 3) := by decide +kernel
theorem dW_law_703 : decode code 703 = .ok (.if_icmp .eq 714, 3) := by decide +kernel
theorem dW_law_708 : decode code 708 = .ok (.aload_n 1, 1) := by decide +kernel
theorem dW_law_709 : decode code 709 = .ok (.aload_n 0, 1) := by decide +kernel
theorem dW_law_710 : decode code 710 = .ok (.iload_n 3, 1) := by decide +kernel
theorem dW_law_711 : decode code 711 = .ok (.iconst 1, 1) := by decide +kernel
theorem dW_law_712 : decode code 712 = .ok (.iadd, 1) := by decide +kernel
theorem dW_law_713 : decode code 713 = .ok (.iaload, 1) := by decide +kernel
theorem dW_law_714 : decode code 714 = .ok (.aload_n 0, 1) := by decide +kernel
theorem dW_law_715 : decode code 715 = .ok (.iload_n 3, 1) := by decide +kernel
theorem dW_law_716 : decode code 716 = .ok (.iconst 2, 1) := by decide +kernel
theorem dW_law_717 : decode code 717 = .ok (.iadd, 1) := by decide +kernel
theorem dW_law_718 : decode code 718 = .ok (.iaload, 1) := by decide +kernel
theorem dW_law_719 : decode code 719 = .ok (.invokevirtual 82, 3) := by decide +kernel
theorem dW_law_722 : decode code 722 = .ok (.aload_n 2, 1) := by decide +kernel
theorem dW_law_723 : decode code 723 = .ok (.aload_n 0, 1) := by decide +kernel
theorem dW_law_724 : decode code 724 = .ok (.iload_n 3, 1) := by decide +kernel
theorem dW_law_725 : decode code 725 = .ok (.iconst 1, 1) := by decide +kernel
theorem dW_law_726 : decode code 726 = .ok (.iadd, 1) := by decide +kernel
theorem dW_law_727 : decode code 727 = .ok (.iaload, 1) := by decide +kernel
theorem dW_law_728 : decode code 728 = .ok (.aload_n 0, 1) := by decide +kernel
theorem dW_law_729 : decode code 729 = .ok (.iload_n 3, 1) := by decide +kernel
theorem dW_law_730 : decode code 730 = .ok (.iconst 2, 1) := by decide +kernel
theorem dW_law_731 : decode code 731 = .ok (.iadd, 1) := by decide +kernel
theorem dW_law_732 : decode code 732 = .ok (.iaload, 1) := by decide +kernel
theorem dW_law_733 : decode code 733 = .ok (.invokevirtual 85, 3) := by decide +kernel
theorem dW_law_736 : decode code 736 = .ok (.if_icmp .eq 681, 3) := by decide +kernel
theorem dW_law_741 : decode code 741 = .ok (.aload_n 1, 1) := by decide +kernel
theorem dW_law_742 : decode code 742 = .ok (.aload_n 0, 1) := by decide +kernel
theorem dW_law_743 : decode code 743 = .ok (.iload_n 3, 1) := by decide +kernel
theorem dW_law_744 : decode code 744 = .ok (.iconst 1, 1) := by decide +kernel
theorem dW_law_745 : decode code 745 = .ok (.iadd, 1) := by decide +kernel
theorem dW_law_746 : decode code 746 = .ok (.iaload, 1) := by decide +kernel
theorem dW_law_747 : decode code 747 = .ok (.aload_n 0, 1) := by decide +kernel
theorem dW_law_748 : decode code 748 = .ok (.iload_n 3, 1) := by decide +kernel
theorem dW_law_749 : decode code 749 = .ok (.iconst 2, 1) := by decide +kernel
theorem dW_law_750 : decode code 750 = .ok (.iadd, 1) := by decide +kernel
theorem dW_law_751 : decode code 751 = .ok (.iaload, 1) := by decide +kernel
theorem dW_law_752 : decode code 752 = .ok (.invokevirtual 86, 3) := by decide +kernel
theorem dW_law_755 : decode code 755 = .ok (.aload_n 2, 1) := by decide +kernel
theorem dW_law_756 : decode code 756 = .ok (.aload_n 0, 1) := by decide +kernel
theorem dW_law_757 : decode code 757 = .ok (.iload_n 3, 1) := by decide +kernel
theorem dW_law_758 : decode code 758 = .ok (.iconst 1, 1) := by decide +kernel
theorem dW_law_759 : decode code 759 = .ok (.iadd, 1) := by decide +kernel
theorem dW_law_760 : decode code 760 = .ok (.iaload, 1) := by decide +kernel
theorem dW_law_761 : decode code 761 = .ok (.aload_n 0, 1) := by decide +kernel
theorem dW_law_762 : decode code 762 = .ok (.iload_n 3, 1) := by decide +kernel
theorem dW_law_763 : decode code 763 = .ok (.iconst 2, 1) := by decide +kernel
theorem dW_law_764 : decode code 764 = .ok (.iadd, 1) := by decide +kernel
theorem dW_law_765 : decode code 765 = .ok (.iaload, 1) := by decide +kernel
theorem dW_law_766 : decode code 766 = .ok (.invokevirtual 89, 3) := by decide +kernel
theorem dW_law_769 : decode code 769 = .ok (.if_icmp .eq 648, 3) := by decide +kernel
theorem dW_law_774 : decode code 774 = .ok (.aload_n 1, 1) := by decide +kernel
theorem dW_law_775 : decode code 775 = .ok (.aload_n 0, 1) := by decide +kernel
theorem dW_law_776 : decode code 776 = .ok (.iload_n 3, 1) := by decide +kernel
theorem dW_law_777 : decode code 777 = .ok (.iconst 1, 1) := by decide +kernel
theorem dW_law_778 : decode code 778 = .ok (.iadd, 1) := by decide +kernel
theorem dW_law_779 : decode code 779 = .ok (.iaload, 1) := by decide +kernel
theorem dW_law_780 : decode code 780 = .ok (.aload_n 0, 1) := by decide +kernel
theorem dW_law_781 : decode code 781 = .ok (.iload_n 3, 1) := by decide +kernel
theorem dW_law_782 : decode code 782 = .ok (.iconst 2, 1) := by decide +kernel
theorem dW_law_783 : decode code 783 = .ok (.iadd, 1) := by decide +kernel
theorem dW_law_784 : decode code 784 = .ok (.iaload, 1) := by decide +kernel
theorem dW_law_785 : decode code 785 = .ok (.invokevirtual 90, 3) := by decide +kernel
theorem dW_law_788 : decode code 788 = .ok (.aload_n 2, 1) := by decide +kernel
theorem dW_law_789 : decode code 789 = .ok (.aload_n 0, 1) := by decide +kernel
theorem dW_law_790 : decode code 790 = .ok (.iload_n 3, 1) := by decide +kernel
theorem dW_law_791 : decode code 791 = .ok (.iconst 1, 1) := by decide +kernel
theorem dW_law_792 : decode code 792 = .ok (.iadd, 1) := by decide +kernel
theorem dW_law_793 : decode code 793 = .ok (.iaload, 1) := by decide +kernel
theorem dW_law_794 : decode code 794 = .ok (.aload_n 0, 1) := by decide +kernel
theorem dW_law_795 : decode code 795 = .ok (.iload_n 3, 1) := by decide +kernel
theorem dW_law_796 : decode code 796 = .ok (.iconst 2, 1) := by decide +kernel
theorem dW_law_797 : decode code 797 = .ok (.iadd, 1) := by decide +kernel
theorem dW_law_798 : decode code 798 = .ok (.iaload, 1) := by decide +kernel
theorem dW_law_799 : decode code 799 = .ok (.invokevirtual 94, 3) := by decide +kernel
theorem dW_law_802 : decode code 802 = .ok (.lcmp, 1) := by decide +kernel
theorem dW_law_803 : decode code 803 = .ok (.ifCond .eq 614, 3) := by decide +kernel
theorem dW_law_808 : decode code 808 = .ok (.aload_n 1, 1) := by decide +kernel
theorem dW_law_809 : decode code 809 = .ok (.aload_n 0, 1) := by decide +kernel
theorem dW_law_810 : decode code 810 = .ok (.iload_n 3, 1) := by decide +kernel
theorem dW_law_811 : decode code 811 = .ok (.iconst 1, 1) := by decide +kernel
theorem dW_law_812 : decode code 812 = .ok (.iadd, 1) := by decide +kernel
theorem dW_law_813 : decode code 813 = .ok (.iaload, 1) := by decide +kernel
theorem dW_law_814 : decode code 814 = .ok (.aload_n 0, 1) := by decide +kernel
theorem dW_law_815 : decode code 815 = .ok (.iload_n 3, 1) := by decide +kernel
theorem dW_law_816 : decode code 816 = .ok (.iconst 2, 1) := by decide +kernel
theorem dW_law_817 : decode code 817 = .ok (.iadd, 1) := by decide +kernel
theorem dW_law_818 : decode code 818 = .ok (.iaload, 1) := by decide +kernel
theorem dW_law_819 : decode code 819 = .ok (.invokevirtual 95, 3) := by decide +kernel
theorem dW_law_822 : decode code 822 = .ok (.aload_n 2, 1) := by decide +kernel
theorem dW_law_823 : decode code 823 = .ok (.aload_n 0, 1) := by decide +kernel
theorem dW_law_824 : decode code 824 = .ok (.iload_n 3, 1) := by decide +kernel
theorem dW_law_825 : decode code 825 = .ok (.iconst 1, 1) := by decide +kernel
theorem dW_law_826 : decode code 826 = .ok (.iadd, 1) := by decide +kernel
theorem dW_law_827 : decode code 827 = .ok (.iaload, 1) := by decide +kernel
theorem dW_law_828 : decode code 828 = .ok (.aload_n 0, 1) := by decide +kernel
theorem dW_law_829 : decode code 829 = .ok (.iload_n 3, 1) := by decide +kernel
theorem dW_law_830 : decode code 830 = .ok (.iconst 2, 1) := by decide +kernel
theorem dW_law_831 : decode code 831 = .ok (.iadd, 1) := by decide +kernel
theorem dW_law_832 : decode code 832 = .ok (.iaload, 1) := by decide +kernel
theorem dW_law_833 : decode code 833 = .ok (.invokevirtual 98, 3) := by decide +kernel
theorem dW_law_836 : decode code 836 = .ok (.if_icmp .eq 581, 3) := by decide +kernel
theorem dW_law_841 : decode code 841 = .ok (.aload_n 1, 1) := by decide +kernel
theorem dW_law_842 : decode code 842 = .ok (.aload_n 0, 1) := by decide +kernel
theorem dW_law_843 : decode code 843 = .ok (.iload_n 3, 1) := by decide +kernel
theorem dW_law_844 : decode code 844 = .ok (.iconst 1, 1) := by decide +kernel
theorem dW_law_845 : decode code 845 = .ok (.iadd, 1) := by decide +kernel
theorem dW_law_846 : decode code 846 = .ok (.iaload, 1) := by decide +kernel
theorem dW_law_847 : decode code 847 = .ok (.aload_n 0, 1) := by decide +kernel
theorem dW_law_848 : decode code 848 = .ok (.iload_n 3, 1) := by decide +kernel
theorem dW_law_849 : decode code 849 = .ok (.iconst 2, 1) := by decide +kernel
theorem dW_law_850 : decode code 850 = .ok (.iadd, 1) := by decide +kernel
theorem dW_law_851 : decode code 851 = .ok (.iaload, 1) := by decide +kernel
theorem dW_law_852 : decode code 852 = .ok (.aload_n 0, 1) := by decide +kernel
theorem dW_law_853 : decode code 853 = .ok (.iload_n 3, 1) := by decide +kernel
theorem dW_law_854 : decode code 854 = .ok (.iconst 3, 1) := by decide +kernel
theorem dW_law_855 : decode code 855 = .ok (.iadd, 1) := by decide +kernel
theorem dW_law_856 : decode code 856 = .ok (.iaload, 1) := by decide +kernel
theorem dW_law_857 : decode code 857 = .ok (.invokevirtual 99, 3) := by decide +kernel
theorem dW_law_860 : decode code 860 = .ok (.aload_n 2, 1) := by decide +kernel
theorem dW_law_861 : decode code 861 = .ok (.aload_n 0, 1) := by decide +kernel
theorem dW_law_862 : decode code 862 = .ok (.iload_n 3, 1) := by decide +kernel
theorem dW_law_863 : decode code 863 = .ok (.iconst 1, 1) := by decide +kernel
theorem dW_law_864 : decode code 864 = .ok (.iadd, 1) := by decide +kernel
theorem dW_law_865 : decode code 865 = .ok (.iaload, 1) := by decide +kernel
theorem dW_law_866 : decode code 866 = .ok (.aload_n 0, 1) := by decide +kernel
theorem dW_law_867 : decode code 867 = .ok (.iload_n 3, 1) := by decide +kernel
theorem dW_law_868 : decode code 868 = .ok (.iconst 2, 1) := by decide +kernel
theorem dW_law_869 : decode code 869 = .ok (.iadd, 1) := by decide +kernel
theorem dW_law_870 : decode code 870 = .ok (.iaload, 1) := by decide +kernel
theorem dW_law_871 : decode code 871 = .ok (.aload_n 0, 1) := by decide +kernel
theorem dW_law_872 : decode code 872 = .ok (.iload_n 3, 1) := by decide +kernel
theorem dW_law_873 : decode code 873 = .ok (.iconst 3, 1) := by decide +kernel
theorem dW_law_874 : decode code 874 = .ok (.iadd, 1) := by decide +kernel
theorem dW_law_875 : decode code 875 = .ok (.iaload, 1) := by decide +kernel
theorem dW_law_876 : decode code 876 = .ok (.invokevirtual 102, 3) := by decide +kernel
theorem dW_law_879 : decode code 879 = .ok (.if_icmp .eq 538, 3) := by decide +kernel
theorem dW_law_884 : decode code 884 = .ok (.aload_n 1, 1) := by decide +kernel
theorem dW_law_885 : decode code 885 = .ok (.aload_n 0, 1) := by decide +kernel
theorem dW_law_886 : decode code 886 = .ok (.iload_n 3, 1) := by decide +kernel
theorem dW_law_887 : decode code 887 = .ok (.iconst 1, 1) := by decide +kernel
theorem dW_law_888 : decode code 888 = .ok (.iadd, 1) := by decide +kernel
theorem dW_law_889 : decode code 889 = .ok (.iaload, 1) := by decide +kernel
theorem dW_law_890 : decode code 890 = .ok (.aload_n 0, 1) := by decide +kernel
theorem dW_law_891 : decode code 891 = .ok (.iload_n 3, 1) := by decide +kernel
theorem dW_law_892 : decode code 892 = .ok (.iconst 2, 1) := by decide +kernel
theorem dW_law_893 : decode code 893 = .ok (.iadd, 1) := by decide +kernel
theorem dW_law_894 : decode code 894 = .ok (.iaload, 1) := by decide +kernel
theorem dW_law_895 : decode code 895 = .ok (.aload_n 0, 1) := by decide +kernel
theorem dW_law_896 : decode code 896 = .ok (.iload_n 3, 1) := by decide +kernel
theorem dW_law_897 : decode code 897 = .ok (.iconst 3, 1) := by decide +kernel
theorem dW_law_898 : decode code 898 = .ok (.iadd, 1) := by decide +kernel
theorem dW_law_899 : decode code 899 = .ok (.iaload, 1) := by decide +kernel
theorem dW_law_900 : decode code 900 = .ok (.invokevirtual 103, 3) := by decide +kernel
theorem dW_law_903 : decode code 903 = .ok (.aload_n 2, 1) := by decide +kernel
theorem dW_law_904 : decode code 904 = .ok (.aload_n 0, 1) := by decide +kernel
theorem dW_law_905 : decode code 905 = .ok (.iload_n 3, 1) := by decide +kernel
theorem dW_law_906 : decode code 906 = .ok (.iconst 1, 1) := by decide +kernel
theorem dW_law_907 : decode code 907 = .ok (.iadd, 1) := by decide +kernel
theorem dW_law_908 : decode code 908 = .ok (.iaload, 1) := by decide +kernel
theorem dW_law_909 : decode code 909 = .ok (.aload_n 0, 1) := by decide +kernel
theorem dW_law_910 : decode code 910 = .ok (.iload_n 3, 1) := by decide +kernel
theorem dW_law_911 : decode code 911 = .ok (.iconst 2, 1) := by decide +kernel
theorem dW_law_912 : decode code 912 = .ok (.iadd, 1) := by decide +kernel
theorem dW_law_913 : decode code 913 = .ok (.iaload, 1) := by decide +kernel
theorem dW_law_914 : decode code 914 = .ok (.aload_n 0, 1) := by decide +kernel
theorem dW_law_915 : decode code 915 = .ok (.iload_n 3, 1) := by decide +kernel
theorem dW_law_916 : decode code 916 = .ok (.iconst 3, 1) := by decide +kernel
theorem dW_law_917 : decode code 917 = .ok (.iadd, 1) := by decide +kernel
theorem dW_law_918 : decode code 918 = .ok (.iaload, 1) := by decide +kernel
theorem dW_law_919 : decode code 919 = .ok (.invokevirtual 106, 3) := by decide +kernel
theorem dW_law_922 : decode code 922 = .ok (.if_icmp .eq 495, 3) := by decide +kernel
theorem dW_law_927 : decode code 927 = .ok (.aload_n 1, 1) := by decide +kernel
theorem dW_law_928 : decode code 928 = .ok (.aload_n 0, 1) := by decide +kernel
theorem dW_law_929 : decode code 929 = .ok (.iload_n 3, 1) := by decide +kernel
theorem dW_law_930 : decode code 930 = .ok (.iconst 1, 1) := by decide +kernel
theorem dW_law_931 : decode code 931 = .ok (.iadd, 1) := by decide +kernel
theorem dW_law_932 : decode code 932 = .ok (.iaload, 1) := by decide +kernel
theorem dW_law_933 : decode code 933 = .ok (.aload_n 0, 1) := by decide +kernel
theorem dW_law_934 : decode code 934 = .ok (.iload_n 3, 1) := by decide +kernel
theorem dW_law_935 : decode code 935 = .ok (.iconst 2, 1) := by decide +kernel
theorem dW_law_936 : decode code 936 = .ok (.iadd, 1) := by decide +kernel
theorem dW_law_937 : decode code 937 = .ok (.iaload, 1) := by decide +kernel
theorem dW_law_938 : decode code 938 = .ok (.aload_n 0, 1) := by decide +kernel
theorem dW_law_939 : decode code 939 = .ok (.iload_n 3, 1) := by decide +kernel
theorem dW_law_940 : decode code 940 = .ok (.iconst 3, 1) := by decide +kernel
theorem dW_law_941 : decode code 941 = .ok (.iadd, 1) := by decide +kernel
theorem dW_law_942 : decode code 942 = .ok (.iaload, 1) := by decide +kernel
theorem dW_law_943 : decode code 943 = .ok (.invokevirtual 107, 3) := by decide +kernel
theorem dW_law_946 : decode code 946 = .ok (.aload_n 2, 1) := by decide +kernel
theorem dW_law_947 : decode code 947 = .ok (.aload_n 0, 1) := by decide +kernel
theorem dW_law_948 : decode code 948 = .ok (.iload_n 3, 1) := by decide +kernel
theorem dW_law_949 : decode code 949 = .ok (.iconst 1, 1) := by decide +kernel
theorem dW_law_950 : decode code 950 = .ok (.iadd, 1) := by decide +kernel
theorem dW_law_951 : decode code 951 = .ok (.iaload, 1) := by decide +kernel
theorem dW_law_952 : decode code 952 = .ok (.aload_n 0, 1) := by decide +kernel
theorem dW_law_953 : decode code 953 = .ok (.iload_n 3, 1) := by decide +kernel
theorem dW_law_954 : decode code 954 = .ok (.iconst 2, 1) := by decide +kernel
theorem dW_law_955 : decode code 955 = .ok (.iadd, 1) := by decide +kernel
theorem dW_law_956 : decode code 956 = .ok (.iaload, 1) := by decide +kernel
theorem dW_law_957 : decode code 957 = .ok (.aload_n 0, 1) := by decide +kernel
theorem dW_law_958 : decode code 958 = .ok (.iload_n 3, 1) := by decide +kernel
theorem dW_law_959 : decode code 959 = .ok (.iconst 3, 1) := by decide +kernel
theorem dW_law_960 : decode code 960 = .ok (.iadd, 1) := by decide +kernel
theorem dW_law_961 : decode code 961 = .ok (.iaload, 1) := by decide +kernel
theorem dW_law_962 : decode code 962 = .ok (.invokevirtual 110, 3) := by decide +kernel
theorem dW_law_965 : decode code 965 = .ok (.if_icmp .eq 452, 3) := by decide +kernel
theorem dW_law_970 : decode code 970 = .ok (.aload_n 1, 1) := by decide +kernel
theorem dW_law_971 : decode code 971 = .ok (.aload_n 0, 1) := by decide +kernel
theorem dW_law_972 : decode code 972 = .ok (.iload_n 3, 1) := by decide +kernel
theorem dW_law_973 : decode code 973 = .ok (.iconst 1, 1) := by decide +kernel
theorem dW_law_974 : decode code 974 = .ok (.iadd, 1) := by decide +kernel
theorem dW_law_975 : decode code 975 = .ok (.iaload, 1) := by decide +kernel
theorem dW_law_976 : decode code 976 = .ok (.invokevirtual 111, 3) := by decide +kernel
theorem dW_law_979 : decode code 979 = .ok (.aload_n 2, 1) := by decide +kernel
theorem dW_law_980 : decode code 980 = .ok (.aload_n 0, 1) := by decide +kernel
theorem dW_law_981 : decode code 981 = .ok (.iload_n 3, 1) := by decide +kernel
theorem dW_law_982 : decode code 982 = .ok (.iconst 1, 1) := by decide +kernel
theorem dW_law_983 : decode code 983 = .ok (.iadd, 1) := by decide +kernel
theorem dW_law_984 : decode code 984 = .ok (.iaload, 1) := by decide +kernel
theorem dW_law_985 : decode code 985 = .ok (.invokevirtual 114, 3) := by decide +kernel
theorem dW_law_988 : decode code 988 = .ok (.if_icmp .eq 429, 3) := by decide +kernel
theorem dW_law_993 : decode code 993 = .ok (.aload_n 1, 1) := by decide +kernel
theorem dW_law_994 : decode code 994 = .ok (.aload_n 0, 1) := by decide +kernel
theorem dW_law_995 : decode code 995 = .ok (.iload_n 3, 1) := by decide +kernel
theorem dW_law_996 : decode code 996 = .ok (.iconst 1, 1) := by decide +kernel
theorem dW_law_997 : decode code 997 = .ok (.iadd, 1) := by decide +kernel
theorem dW_law_998 : decode code 998 = .ok (.iaload, 1) := by decide +kernel
theorem dW_law_999 : decode code 999 = .ok (.aload_n 0, 1) := by decide +kernel
theorem dW_law_1000 : decode code 1000 = .ok (.iload_n 3, 1) := by decide +kernel
theorem dW_law_1001 : decode code 1001 = .ok (.iconst 2, 1) := by decide +kernel
theorem dW_law_1002 : decode code 1002 = .ok (.iadd, 1) := by decide +kernel
theorem dW_law_1003 : decode code 1003 = .ok (.iaload, 1) := by decide +kernel
theorem dW_law_1004 : decode code 1004 = .ok (.invokevirtual 115, 3) := by decide +kernel
theorem dW_law_1007 : decode code 1007 = .ok (.aload_n 2, 1) := by decide +kernel
theorem dW_law_1008 : decode code 1008 = .ok (.aload_n 0, 1) := by decide +kernel
theorem dW_law_1009 : decode code 1009 = .ok (.iload_n 3, 1) := by decide +kernel
theorem dW_law_1010 : decode code 1010 = .ok (.iconst 1, 1) := by decide +kernel
theorem dW_law_1011 : decode code 1011 = .ok (.iadd, 1) := by decide +kernel
theorem dW_law_1012 : decode code 1012 = .ok (.iaload, 1) := by decide +kernel
theorem dW_law_1013 : decode code 1013 = .ok (.aload_n 0, 1) := by decide +kernel
theorem dW_law_1014 : decode code 1014 = .ok (.iload_n 3, 1) := by decide +kernel
theorem dW_law_1015 : decode code 1015 = .ok (.iconst 2, 1) := by decide +kernel
theorem dW_law_1016 : decode code 1016 = .ok (.iadd, 1) := by decide +kernel
theorem dW_law_1017 : decode code 1017 = .ok (.iaload, 1) := by decide +kernel
theorem dW_law_1018 : decode code 1018 = .ok (.invokevirtual 118, 3) := by decide +kernel
theorem dW_law_1021 : decode code 1021 = .ok (.if_icmp .eq 396, 3) := by decide +kernel
theorem dW_law_1026 : decode code 1026 = .ok (.aload_n 1, 1) := by decide +kernel
theorem dW_law_1027 : decode code 1027 = .ok (.aload_n 0, 1) := by decide +kernel
theorem dW_law_1028 : decode code 1028 = .ok (.iload_n 3, 1) := by decide +kernel
theorem dW_law_1029 : decode code 1029 = .ok (.iconst 1, 1) := by decide +kernel
theorem dW_law_1030 : decode code 1030 = .ok (.iadd, 1) := by decide +kernel
theorem dW_law_1031 : decode code 1031 = .ok (.iaload, 1) := by decide +kernel
theorem dW_law_1032 : decode code 1032 = .ok (.aload_n 0, 1) := by decide +kernel
theorem dW_law_1033 : decode code 1033 = .ok (.iload_n 3, 1) := by decide +kernel
theorem dW_law_1034 : decode code 1034 = .ok (.iconst 2, 1) := by decide +kernel
theorem dW_law_1035 : decode code 1035 = .ok (.iadd, 1) := by decide +kernel
theorem dW_law_1036 : decode code 1036 = .ok (.iaload, 1) := by decide +kernel
theorem dW_law_1037 : decode code 1037 = .ok (.aload_n 0, 1) := by decide +kernel
theorem dW_law_1038 : decode code 1038 = .ok (.iload_n 3, 1) := by decide +kernel
theorem dW_law_1039 : decode code 1039 = .ok (.iconst 3, 1) := by decide +kernel
theorem dW_law_1040 : decode code 1040 = .ok (.iadd, 1) := by decide +kernel
theorem dW_law_1041 : decode code 1041 = .ok (.iaload, 1) := by decide +kernel
theorem dW_law_1042 : decode code 1042 = .ok (.invokevirtual 119, 3) := by decide +kernel
theorem dW_law_1045 : decode code 1045 = .ok (.aload_n 2, 1) := by decide +kernel
theorem dW_law_1046 : decode code 1046 = .ok (.aload_n 0, 1) := by decide +kernel
theorem dW_law_1047 : decode code 1047 = .ok (.iload_n 3, 1) := by decide +kernel
theorem dW_law_1048 : decode code 1048 = .ok (.iconst 1, 1) := by decide +kernel
theorem dW_law_1049 : decode code 1049 = .ok (.iadd, 1) := by decide +kernel
theorem dW_law_1050 : decode code 1050 = .ok (.iaload, 1) := by decide +kernel
theorem dW_law_1051 : decode code 1051 = .ok (.aload_n 0, 1) := by decide +kernel
theorem dW_law_1052 : decode code 1052 = .ok (.iload_n 3, 1) := by decide +kernel
theorem dW_law_1053 : decode code 1053 = .ok (.iconst 2, 1) := by decide +kernel
theorem dW_law_1054 : decode code 1054 = .ok (.iadd, 1) := by decide +kernel
theorem dW_law_1055 : decode code 1055 = .ok (.iaload, 1) := by decide +kernel
theorem dW_law_1056 : decode code 1056 = .ok (.aload_n 0, 1) := by decide +kernel
theorem dW_law_1057 : decode code 1057 = .ok (.iload_n 3, 1) := by decide +kernel
theorem dW_law_1058 : decode code 1058 = .ok (.iconst 3, 1) := by decide +kernel
theorem dW_law_1059 : decode code 1059 = .ok (.iadd, 1) := by decide +kernel
theorem dW_law_1060 : decode code 1060 = .ok (.iaload, 1) := by decide +kernel
theorem dW_law_1061 : decode code 1061 = .ok (.invokevirtual 122, 3) := by decide +kernel
theorem dW_law_1064 : decode code 1064 = .ok (.if_icmp .eq 353, 3) := by decide +kernel
theorem dW_law_1069 : decode code 1069 = .ok (.aload_n 1, 1) := by decide +kernel
theorem dW_law_1070 : decode code 1070 = .ok (.aload_n 0, 1) := by decide +kernel
theorem dW_law_1071 : decode code 1071 = .ok (.iload_n 3, 1) := by decide +kernel
theorem dW_law_1072 : decode code 1072 = .ok (.iconst 1, 1) := by decide +kernel
theorem dW_law_1073 : decode code 1073 = .ok (.iadd, 1) := by decide +kernel
theorem dW_law_1074 : decode code 1074 = .ok (.iaload, 1) := by decide +kernel
theorem dW_law_1075 : decode code 1075 = .ok (.aload_n 0, 1) := by decide +kernel
theorem dW_law_1076 : decode code 1076 = .ok (.iload_n 3, 1) := by decide +kernel
theorem dW_law_1077 : decode code 1077 = .ok (.iconst 2, 1) := by decide +kernel
theorem dW_law_1078 : decode code 1078 = .ok (.iadd, 1) := by decide +kernel
theorem dW_law_1079 : decode code 1079 = .ok (.iaload, 1) := by decide +kernel
theorem dW_law_1080 : decode code 1080 = .ok (.invokevirtual 123, 3) := by decide +kernel
theorem dW_law_1083 : decode code 1083 = .ok (.aload_n 2, 1) := by decide +kernel
theorem dW_law_1084 : decode code 1084 = .ok (.aload_n 0, 1) := by decide +kernel
theorem dW_law_1085 : decode code 1085 = .ok (.iload_n 3, 1) := by decide +kernel
theorem dW_law_1086 : decode code 1086 = .ok (.iconst 1, 1) := by decide +kernel
theorem dW_law_1087 : decode code 1087 = .ok (.iadd, 1) := by decide +kernel
theorem dW_law_1088 : decode code 1088 = .ok (.iaload, 1) := by decide +kernel
theorem dW_law_1089 : decode code 1089 = .ok (.aload_n 0, 1) := by decide +kernel
theorem dW_law_1090 : decode code 1090 = .ok (.iload_n 3, 1) := by decide +kernel
theorem dW_law_1091 : decode code 1091 = .ok (.iconst 2, 1) := by decide +kernel
theorem dW_law_1092 : decode code 1092 = .ok (.iadd, 1) := by decide +kernel
theorem dW_law_1093 : decode code 1093 = .ok (.iaload, 1) := by decide +kernel
theorem dW_law_1094 : decode code 1094 = .ok (.invokevirtual 126, 3) := by decide +kernel
theorem dW_law_1097 : decode code 1097 = .ok (.if_icmp .eq 320, 3) := by decide +kernel
theorem dW_law_1102 : decode code 1102 = .ok (.aload_n 1, 1) := by decide +kernel
theorem dW_law_1103 : decode code 1103 = .ok (.aload_n 0, 1) := by decide +kernel
theorem dW_law_1104 : decode code 1104 = .ok (.iload_n 3, 1) := by decide +kernel
theorem dW_law_1105 : decode code 1105 = .ok (.iconst 1, 1) := by decide +kernel
theorem dW_law_1106 : decode code 1106 = .ok (.iadd, 1) := by decide +kernel
theorem dW_law_1107 : decode code 1107 = .ok (.iaload, 1) := by decide +kernel
theorem dW_law_1108 : decode code 1108 = .ok (.aload_n 0, 1) := by decide +kernel
theorem dW_law_1109 : decode code 1109 = .ok (.iload_n 3, 1) := by decide +kernel
theorem dW_law_1110 : decode code 1110 = .ok (.iconst 2, 1) := by decide +kernel
theorem dW_law_1111 : decode code 1111 = .ok (.iadd, 1) := by decide +kernel
theorem dW_law_1112 : decode code 1112 = .ok (.iaload, 1) := by decide +kernel
theorem dW_law_1113 : decode code 1113 = .ok (.aload_n 0, 1) := by decide +kernel
theorem dW_law_1114 : decode code 1114 = .ok (.iload_n 3, 1) := by decide +kernel
theorem dW_law_1115 : decode code 1115 = .ok (.iconst 3, 1) := by decide +kernel
theorem dW_law_1116 : decode code 1116 = .ok (.iadd, 1) := by decide +kernel
theorem dW_law_1117 : decode code 1117 = .ok (.iaload, 1) := by decide +kernel
theorem dW_law_1118 : decode code 1118 = .ok (.aload_n 0, 1) := by decide +kernel
theorem dW_law_1119 : decode code 1119 = .ok (.iload_n 3, 1) := by decide +kernel
theorem dW_law_1120 : decode code 1120 = .ok (.iconst 4, 1) := by decide +kernel
theorem dW_law_1121 : decode code 1121 = .ok (.iadd, 1) := by decide +kernel
theorem dW_law_1122 : decode code 1122 = .ok (.iaload, 1) := by decide +kernel
theorem dW_law_1123 : decode code 1123 = .ok (.invokevirtual 127, 3) := by decide +kernel
theorem dW_law_1126 : decode code 1126 = .ok (.aload_n 2, 1) := by decide +kernel
theorem dW_law_1127 : decode code 1127 = .ok (.aload_n 0, 1) := by decide +kernel
theorem dW_law_1128 : decode code 1128 = .ok (.iload_n 3, 1) := by decide +kernel
theorem dW_law_1129 : decode code 1129 = .ok (.iconst 1, 1) := by decide +kernel
theorem dW_law_1130 : decode code 1130 = .ok (.iadd, 1) := by decide +kernel
theorem dW_law_1131 : decode code 1131 = .ok (.iaload, 1) := by decide +kernel
theorem dW_law_1132 : decode code 1132 = .ok (.aload_n 0, 1) := by decide +kernel
theorem dW_law_1133 : decode code 1133 = .ok (.iload_n 3, 1) := by decide +kernel
theorem dW_law_1134 : decode code 1134 = .ok (.iconst 2, 1) := by decide +kernel
theorem dW_law_1135 : decode code 1135 = .ok (.iadd, 1) := by decide +kernel
theorem dW_law_1136 : decode code 1136 = .ok (.iaload, 1) := by decide +kernel
theorem dW_law_1137 : decode code 1137 = .ok (.aload_n 0, 1) := by decide +kernel
theorem dW_law_1138 : decode code 1138 = .ok (.iload_n 3, 1) := by decide +kernel
theorem dW_law_1139 : decode code 1139 = .ok (.iconst 3, 1) := by decide +kernel
theorem dW_law_1140 : decode code 1140 = .ok (.iadd, 1) := by decide +kernel
theorem dW_law_1141 : decode code 1141 = .ok (.iaload, 1) := by decide +kernel
theorem dW_law_1142 : decode code 1142 = .ok (.aload_n 0, 1) := by decide +kernel
theorem dW_law_1143 : decode code 1143 = .ok (.iload_n 3, 1) := by decide +kernel
theorem dW_law_1144 : decode code 1144 = .ok (.iconst 4, 1) := by decide +kernel
theorem dW_law_1145 : decode code 1145 = .ok (.iadd, 1) := by decide +kernel
theorem dW_law_1146 : decode code 1146 = .ok (.iaload, 1) := by decide +kernel
theorem dW_law_1147 : decode code 1147 = .ok (.invokevirtual 131, 3) := by decide +kernel
theorem dW_law_1150 : decode code 1150 = .ok (.lcmp, 1) := by decide +kernel
theorem dW_law_1151 : decode code 1151 = .ok (.ifCond .eq 266, 3) := by decide +kernel
theorem dW_law_1156 : decode code 1156 = .ok (.aload_n 1, 1) := by decide +kernel
theorem dW_law_1157 : decode code 1157 = .ok (.invokevirtual 132, 3) := by decide +kernel
theorem dW_law_1160 : decode code 1160 = .ok (.aload_n 2, 1) := by decide +kernel
theorem dW_law_1161 : decode code 1161 = .ok (.invokevirtual 135, 3) := by decide +kernel
theorem dW_law_1164 : decode code 1164 = .ok (.if_icmp .eq 253, 3) := by decide +kernel
theorem dW_law_1169 : decode code 1169 = .ok (.aload_n 1, 1) := by decide +kernel
theorem dW_law_1170 : decode code 1170 = .ok (.invokevirtual 136, 3) := by decide +kernel
theorem dW_law_1173 : decode code 1173 = .ok (.aload_n 2, 1) := by decide +kernel
theorem dW_law_1174 : decode code 1174 = .ok (.invokevirtual 139, 3) := by decide +kernel
theorem dW_law_1177 : decode code 1177 = .ok (.if_icmp .eq 240, 3) := by decide +kernel
theorem dW_law_1182 : decode code 1182 = .ok (.aload_n 1, 1) := by decide +kernel
theorem dW_law_1183 : decode code 1183 = .ok (.aload_n 0, 1) := by decide +kernel
theorem dW_law_1184 : decode code 1184 = .ok (.iload_n 3, 1) := by decide +kernel
theorem dW_law_1185 : decode code 1185 = .ok (.iconst 1, 1) := by decide +kernel
theorem dW_law_1186 : decode code 1186 = .ok (.iadd, 1) := by decide +kernel
theorem dW_law_1187 : decode code 1187 = .ok (.iaload, 1) := by decide +kernel
theorem dW_law_1188 : decode code 1188 = .ok (.aload_n 0, 1) := by decide +kernel
theorem dW_law_1189 : decode code 1189 = .ok (.iload_n 3, 1) := by decide +kernel
theorem dW_law_1190 : decode code 1190 = .ok (.iconst 2, 1) := by decide +kernel
theorem dW_law_1191 : decode code 1191 = .ok (.iadd, 1) := by decide +kernel
theorem dW_law_1192 : decode code 1192 = .ok (.iaload, 1) := by decide +kernel
theorem dW_law_1193 : decode code 1193 = .ok (.aload_n 0, 1) := by decide +kernel
theorem dW_law_1194 : decode code 1194 = .ok (.iload_n 3, 1) := by decide +kernel
theorem dW_law_1195 : decode code 1195 = .ok (.iconst 3, 1) := by decide +kernel
theorem dW_law_1196 : decode code 1196 = .ok (.iadd, 1) := by decide +kernel
theorem dW_law_1197 : decode code 1197 = .ok (.iaload, 1) := by decide +kernel
theorem dW_law_1198 : decode code 1198 = .ok (.invokevirtual 140, 3) := by decide +kernel
theorem dW_law_1201 : decode code 1201 = .ok (.aload_n 2, 1) := by decide +kernel
theorem dW_law_1202 : decode code 1202 = .ok (.aload_n 0, 1) := by decide +kernel
theorem dW_law_1203 : decode code 1203 = .ok (.iload_n 3, 1) := by decide +kernel
theorem dW_law_1204 : decode code 1204 = .ok (.iconst 1, 1) := by decide +kernel
theorem dW_law_1205 : decode code 1205 = .ok (.iadd, 1) := by decide +kernel
theorem dW_law_1206 : decode code 1206 = .ok (.iaload, 1) := by decide +kernel
theorem dW_law_1207 : decode code 1207 = .ok (.aload_n 0, 1) := by decide +kernel
theorem dW_law_1208 : decode code 1208 = .ok (.iload_n 3, 1) := by decide +kernel
theorem dW_law_1209 : decode code 1209 = .ok (.iconst 2, 1) := by decide +kernel
theorem dW_law_1210 : decode code 1210 = .ok (.iadd, 1) := by decide +kernel
theorem dW_law_1211 : decode code 1211 = .ok (.iaload, 1) := by decide +kernel
theorem dW_law_1212 : decode code 1212 = .ok (.aload_n 0, 1) := by decide +kernel
theorem dW_law_1213 : decode code 1213 = .ok (.iload_n 3, 1) := by decide +kernel
theorem dW_law_1214 : decode code 1214 = .ok (.iconst 3, 1) := by decide +kernel
theorem dW_law_1215 : decode code 1215 = .ok (.iadd, 1) := by decide +kernel
theorem dW_law_1216 : decode code 1216 = .ok (.iaload, 1) := by decide +kernel
theorem dW_law_1217 : decode code 1217 = .ok (.invokevirtual 143, 3) := by decide +kernel
theorem dW_law_1220 : decode code 1220 = .ok (.if_icmp .eq 197, 3) := by decide +kernel
theorem dW_law_1225 : decode code 1225 = .ok (.aload_n 1, 1) := by decide +kernel
theorem dW_law_1226 : decode code 1226 = .ok (.aload_n 0, 1) := by decide +kernel
theorem dW_law_1227 : decode code 1227 = .ok (.iload_n 3, 1) := by decide +kernel
theorem dW_law_1228 : decode code 1228 = .ok (.iconst 1, 1) := by decide +kernel
theorem dW_law_1229 : decode code 1229 = .ok (.iadd, 1) := by decide +kernel
theorem dW_law_1230 : decode code 1230 = .ok (.iaload, 1) := by decide +kernel
theorem dW_law_1231 : decode code 1231 = .ok (.aload_n 0, 1) := by decide +kernel
theorem dW_law_1232 : decode code 1232 = .ok (.iload_n 3, 1) := by decide +kernel
theorem dW_law_1233 : decode code 1233 = .ok (.iconst 2, 1) := by decide +kernel
theorem dW_law_1234 : decode code 1234 = .ok (.iadd, 1) := by decide +kernel
theorem dW_law_1235 : decode code 1235 = .ok (.iaload, 1) := by decide +kernel
theorem dW_law_1236 : decode code 1236 = .ok (.aload_n 0, 1) := by decide +kernel
theorem dW_law_1237 : decode code 1237 = .ok (.iload_n 3, 1) := by decide +kernel
theorem dW_law_1238 : decode code 1238 = .ok (.iconst 3, 1) := by decide +kernel
theorem dW_law_1239 : decode code 1239 = .ok (.iadd, 1) := by decide +kernel
theorem dW_law_1240 : decode code 1240 = .ok (.iaload, 1) := by decide +kernel
theorem dW_law_1241 : decode code 1241 = .ok (.invokevirtual 144, 3) := by decide +kernel
theorem dW_law_1244 : decode code 1244 = .ok (.aload_n 2, 1) := by decide +kernel
theorem dW_law_1245 : decode code 1245 = .ok (.aload_n 0, 1) := by decide +kernel
theorem dW_law_1246 : decode code 1246 = .ok (.iload_n 3, 1) := by decide +kernel
theorem dW_law_1247 : decode code 1247 = .ok (.iconst 1, 1) := by decide +kernel
theorem dW_law_1248 : decode code 1248 = .ok (.iadd, 1) := by decide +kernel
theorem dW_law_1249 : decode code 1249 = .ok (.iaload, 1) := by decide +kernel
theorem dW_law_1250 : decode code 1250 = .ok (.aload_n 0, 1) := by decide +kernel
theorem dW_law_1251 : decode code 1251 = .ok (.iload_n 3, 1) := by decide +kernel
theorem dW_law_1252 : decode code 1252 = .ok (.iconst 2, 1) := by decide +kernel
theorem dW_law_1253 : decode code 1253 = .ok (.iadd, 1) := by decide +kernel
theorem dW_law_1254 : decode code 1254 = .ok (.iaload, 1) := by decide +kernel
theorem dW_law_1255 : decode code 1255 = .ok (.aload_n 0, 1) := by decide +kernel
theorem dW_law_1256 : decode code 1256 = .ok (.iload_n 3, 1) := by decide +kernel
theorem dW_law_1257 : decode code 1257 = .ok (.iconst 3, 1) := by decide +kernel
theorem dW_law_1258 : decode code 1258 = .ok (.iadd, 1) := by decide +kernel
theorem dW_law_1259 : decode code 1259 = .ok (.iaload, 1) := by decide +kernel
theorem dW_law_1260 : decode code 1260 = .ok (.invokevirtual 147, 3) := by decide +kernel
theorem dW_law_1263 : decode code 1263 = .ok (.if_icmp .eq 154, 3) := by decide +kernel
theorem dW_law_1268 : decode code 1268 = .ok (.aload_n 1, 1) := by decide +kernel
theorem dW_law_1269 : decode code 1269 = .ok (.aload_n 0, 1) := by decide +kernel
theorem dW_law_1270 : decode code 1270 = .ok (.iload_n 3, 1) := by decide +kernel
theorem dW_law_1271 : decode code 1271 = .ok (.iconst 1, 1) := by decide +kernel
theorem dW_law_1272 : decode code 1272 = .ok (.iadd, 1) := by decide +kernel
theorem dW_law_1273 : decode code 1273 = .ok (.iaload, 1) := by decide +kernel
theorem dW_law_1274 : decode code 1274 = .ok (.aload_n 0, 1) := by decide +kernel
theorem dW_law_1275 : decode code 1275 = .ok (.iload_n 3, 1) := by decide +kernel
theorem dW_law_1276 : decode code 1276 = .ok (.iconst 2, 1) := by decide +kernel
theorem dW_law_1277 : decode code 1277 = .ok (.iadd, 1) := by decide +kernel
theorem dW_law_1278 : decode code 1278 = .ok (.iaload, 1) := by decide +kernel
theorem dW_law_1279 : decode code 1279 = .ok (.aload_n 0, 1) := by decide +kernel
theorem dW_law_1280 : decode code 1280 = .ok (.iload_n 3, 1) := by decide +kernel
theorem dW_law_1281 : decode code 1281 = .ok (.iconst 3, 1) := by decide +kernel
theorem dW_law_1282 : decode code 1282 = .ok (.iadd, 1) := by decide +kernel
theorem dW_law_1283 : decode code 1283 = .ok (.iaload, 1) := by decide +kernel
theorem dW_law_1284 : decode code 1284 = .ok (.aload_n 0, 1) := by decide +kernel
theorem dW_law_1285 : decode code 1285 = .ok (.iload_n 3, 1) := by decide +kernel
theorem dW_law_1286 : decode code 1286 = .ok (.iconst 4, 1) := by decide +kernel
theorem dW_law_1287 : decode code 1287 = .ok (.iadd, 1) := by decide +kernel
theorem dW_law_1288 : decode code 1288 = .ok (.iaload, 1) := by decide +kernel
theorem dW_law_1289 : decode code 1289 = .ok (.aload_n 0, 1) := by decide +kernel
theorem dW_law_1290 : decode code 1290 = .ok (.iload_n 3, 1) := by decide +kernel
theorem dW_law_1291 : decode code 1291 = .ok (.iconst 5, 1) := by decide +kernel
theorem dW_law_1292 : decode code 1292 = .ok (.iadd, 1) := by decide +kernel
theorem dW_law_1293 : decode code 1293 = .ok (.iaload, 1) := by decide +kernel
theorem dW_law_1294 : decode code 1294 = .ok (.invokevirtual 148, 3) := by decide +kernel
theorem dW_law_1297 : decode code 1297 = .ok (.aload_n 2, 1) := by decide +kernel
theorem dW_law_1298 : decode code 1298 = .ok (.aload_n 0, 1) := by decide +kernel
theorem dW_law_1299 : decode code 1299 = .ok (.iload_n 3, 1) := by decide +kernel
theorem dW_law_1300 : decode code 1300 = .ok (.iconst 1, 1) := by decide +kernel
theorem dW_law_1301 : decode code 1301 = .ok (.iadd, 1) := by decide +kernel
theorem dW_law_1302 : decode code 1302 = .ok (.iaload, 1) := by decide +kernel
theorem dW_law_1303 : decode code 1303 = .ok (.aload_n 0, 1) := by decide +kernel
theorem dW_law_1304 : decode code 1304 = .ok (.iload_n 3, 1) := by decide +kernel
theorem dW_law_1305 : decode code 1305 = .ok (.iconst 2, 1) := by decide +kernel
theorem dW_law_1306 : decode code 1306 = .ok (.iadd, 1) := by decide +kernel
theorem dW_law_1307 : decode code 1307 = .ok (.iaload, 1) := by decide +kernel
theorem dW_law_1308 : decode code 1308 = .ok (.aload_n 0, 1) := by decide +kernel
theorem dW_law_1309 : decode code 1309 = .ok (.iload_n 3, 1) := by decide +kernel
theorem dW_law_1310 : decode code 1310 = .ok (.iconst 3, 1) := by decide +kernel
theorem dW_law_1311 : decode code 1311 = .ok (.iadd, 1) := by decide +kernel
theorem dW_law_1312 : decode code 1312 = .ok (.iaload, 1) := by decide +kernel
theorem dW_law_1313 : decode code 1313 = .ok (.aload_n 0, 1) := by decide +kernel
theorem dW_law_1314 : decode code 1314 = .ok (.iload_n 3, 1) := by decide +kernel
theorem dW_law_1315 : decode code 1315 = .ok (.iconst 4, 1) := by decide +kernel
theorem dW_law_1316 : decode code 1316 = .ok (.iadd, 1) := by decide +kernel
theorem dW_law_1317 : decode code 1317 = .ok (.iaload, 1) := by decide +kernel
theorem dW_law_1318 : decode code 1318 = .ok (.aload_n 0, 1) := by decide +kernel
theorem dW_law_1319 : decode code 1319 = .ok (.iload_n 3, 1) := by decide +kernel
theorem dW_law_1320 : decode code 1320 = .ok (.iconst 5, 1) := by decide +kernel
theorem dW_law_1321 : decode code 1321 = .ok (.iadd, 1) := by decide +kernel
theorem dW_law_1322 : decode code 1322 = .ok (.iaload, 1) := by decide +kernel
theorem dW_law_1323 : decode code 1323 = .ok (.invokevirtual 152, 3) := by decide +kernel
theorem dW_law_1326 : decode code 1326 = .ok (.if_icmp .eq 91, 3) := by decide +kernel
theorem dW_law_1331 : decode code 1331 = .ok (.aload_n 1, 1) := by decide +kernel
theorem dW_law_1332 : decode code 1332 = .ok (.aload_n 0, 1) := by decide +kernel
theorem dW_law_1333 : decode code 1333 = .ok (.iload_n 3, 1) := by decide +kernel
theorem dW_law_1334 : decode code 1334 = .ok (.iconst 1, 1) := by decide +kernel
theorem dW_law_1335 : decode code 1335 = .ok (.iadd, 1) := by decide +kernel
theorem dW_law_1336 : decode code 1336 = .ok (.iaload, 1) := by decide +kernel
theorem dW_law_1337 : decode code 1337 = .ok (.aload_n 0, 1) := by decide +kernel
theorem dW_law_1338 : decode code 1338 = .ok (.iload_n 3, 1) := by decide +kernel
theorem dW_law_1339 : decode code 1339 = .ok (.iconst 2, 1) := by decide +kernel
theorem dW_law_1340 : decode code 1340 = .ok (.iadd, 1) := by decide +kernel
theorem dW_law_1341 : decode code 1341 = .ok (.iaload, 1) := by decide +kernel
theorem dW_law_1342 : decode code 1342 = .ok (.aload_n 0, 1) := by decide +kernel
theorem dW_law_1343 : decode code 1343 = .ok (.iload_n 3, 1) := by decide +kernel
theorem dW_law_1344 : decode code 1344 = .ok (.iconst 3, 1) := by decide +kernel
theorem dW_law_1345 : decode code 1345 = .ok (.iadd, 1) := by decide +kernel
theorem dW_law_1346 : decode code 1346 = .ok (.iaload, 1) := by decide +kernel
theorem dW_law_1347 : decode code 1347 = .ok (.aload_n 0, 1) := by decide +kernel
theorem dW_law_1348 : decode code 1348 = .ok (.iload_n 3, 1) := by decide +kernel
theorem dW_law_1349 : decode code 1349 = .ok (.iconst 4, 1) := by decide +kernel
theorem dW_law_1350 : decode code 1350 = .ok (.iadd, 1) := by decide +kernel
theorem dW_law_1351 : decode code 1351 = .ok (.iaload, 1) := by decide +kernel
theorem dW_law_1352 : decode code 1352 = .ok (.invokevirtual 153, 3) := by decide +kernel
theorem dW_law_1355 : decode code 1355 = .ok (.aload_n 2, 1) := by decide +kernel
theorem dW_law_1356 : decode code 1356 = .ok (.aload_n 0, 1) := by decide +kernel
theorem dW_law_1357 : decode code 1357 = .ok (.iload_n 3, 1) := by decide +kernel
theorem dW_law_1358 : decode code 1358 = .ok (.iconst 1, 1) := by decide +kernel
theorem dW_law_1359 : decode code 1359 = .ok (.iadd, 1) := by decide +kernel
theorem dW_law_1360 : decode code 1360 = .ok (.iaload, 1) := by decide +kernel
theorem dW_law_1361 : decode code 1361 = .ok (.aload_n 0, 1) := by decide +kernel
theorem dW_law_1362 : decode code 1362 = .ok (.iload_n 3, 1) := by decide +kernel
theorem dW_law_1363 : decode code 1363 = .ok (.iconst 2, 1) := by decide +kernel
theorem dW_law_1364 : decode code 1364 = .ok (.iadd, 1) := by decide +kernel
theorem dW_law_1365 : decode code 1365 = .ok (.iaload, 1) := by decide +kernel
theorem dW_law_1366 : decode code 1366 = .ok (.aload_n 0, 1) := by decide +kernel
theorem dW_law_1367 : decode code 1367 = .ok (.iload_n 3, 1) := by decide +kernel
theorem dW_law_1368 : decode code 1368 = .ok (.iconst 3, 1) := by decide +kernel
theorem dW_law_1369 : decode code 1369 = .ok (.iadd, 1) := by decide +kernel
theorem dW_law_1370 : decode code 1370 = .ok (.iaload, 1) := by decide +kernel
theorem dW_law_1371 : decode code 1371 = .ok (.aload_n 0, 1) := by decide +kernel
theorem dW_law_1372 : decode code 1372 = .ok (.iload_n 3, 1) := by decide +kernel
theorem dW_law_1373 : decode code 1373 = .ok (.iconst 4, 1) := by decide +kernel
theorem dW_law_1374 : decode code 1374 = .ok (.iadd, 1) := by decide +kernel
theorem dW_law_1375 : decode code 1375 = .ok (.iaload, 1) := by decide +kernel
theorem dW_law_1376 : decode code 1376 = .ok (.invokevirtual 157, 3) := by decide +kernel
theorem dW_law_1379 : decode code 1379 = .ok (.if_icmp .eq 38, 3) := by decide +kernel
theorem dW_law_1384 : decode code 1384 = .ok (.aload_n 1, 1) := by decide +kernel
theorem dW_law_1385 : decode code 1385 = .ok (.aload_n 0, 1) := by decide +kernel
theorem dW_law_1386 : decode code 1386 = .ok (.iload_n 3, 1) := by decide +kernel
theorem dW_law_1387 : decode code 1387 = .ok (.iconst 1, 1) := by decide +kernel
theorem dW_law_1388 : decode code 1388 = .ok (.iadd, 1) := by decide +kernel
theorem dW_law_1389 : decode code 1389 = .ok (.iaload, 1) := by decide +kernel
theorem dW_law_1390 : decode code 1390 = .ok (.aload_n 0, 1) := by decide +kernel
theorem dW_law_1391 : decode code 1391 = .ok (.iload_n 3, 1) := by decide +kernel
theorem dW_law_1392 : decode code 1392 = .ok (.iconst 2, 1) := by decide +kernel
theorem dW_law_1393 : decode code 1393 = .ok (.iadd, 1) := by decide +kernel
theorem dW_law_1394 : decode code 1394 = .ok (.iaload, 1) := by decide +kernel
theorem dW_law_1395 : decode code 1395 = .ok (.invokevirtual 158, 3) := by decide +kernel
theorem dW_law_1398 : decode code 1398 = .ok (.aload_n 2, 1) := by decide +kernel
theorem dW_law_1399 : decode code 1399 = .ok (.aload_n 0, 1) := by decide +kernel
theorem dW_law_1400 : decode code 1400 = .ok (.iload_n 3, 1) := by decide +kernel
theorem dW_law_1401 : decode code 1401 = .ok (.iconst 1, 1) := by decide +kernel
theorem dW_law_1402 : decode code 1402 = .ok (.iadd, 1) := by decide +kernel
theorem dW_law_1403 : decode code 1403 = .ok (.iaload, 1) := by decide +kernel
theorem dW_law_1404 : decode code 1404 = .ok (.aload_n 0, 1) := by decide +kernel
theorem dW_law_1405 : decode code 1405 = .ok (.iload_n 3, 1) := by decide +kernel
theorem dW_law_1406 : decode code 1406 = .ok (.iconst 2, 1) := by decide +kernel
theorem dW_law_1407 : decode code 1407 = .ok (.iadd, 1) := by decide +kernel
theorem dW_law_1408 : decode code 1408 = .ok (.iaload, 1) := by decide +kernel
theorem dW_law_1409 : decode code 1409 = .ok (.invokevirtual 161, 3) := by decide +kernel
theorem dW_law_1412 : decode code 1412 = .ok (.if_icmp .eq 5, 3) := by decide +kernel
theorem dW_law_1417 : decode code 1417 = .ok (.iinc 3 7, 3) := by decide +kernel
theorem dW_law_1420 : decode code 1420 = .ok (.goto (-1402), 3) := by decide +kernel
theorem dW_law_1423 : decode code 1423 = .ok (.iconst 1, 1) := by decide +kernel
theorem dW_law_1424 : decode code 1424 = .ok (.ireturn, 1) := by decide +kernel
theorem law_cond {L i : Nat} (hL : L ≤ 3584) (hi : i ≤ L + 7) : nI L - 7 < nI i ↔ L < i + 7 := by
  have e7 : (7 : Int32) = nI 7 := rfl
  rw [Int32.lt_iff_toInt_lt, e7, pk_sub_toInt (by omega) (by omega), nI_toInt (by omega)]
  omega
theorem law_in {L i : Nat} (hL : L ≤ 3584) (h : i + 7 ≤ L) (k : Nat) (hk : k < 7) (x : Int32) (hx : nI k = x) : vp_in (nI i + x) L := by
  rw [← hx, nI_add]
  exact vp_in_nI (by omega) (by omega)
/-- one turn of the loop: the pair of calls that the script names, then the next turn -/
theorem law_turn {p : Program} {l : Launch} {e : Env} {s : State} {m : MethodId} {below : List Frame} {meth : Method} {c : Code} {b L : Nat} {xs : Nat → Int32} {G : GT} (C : CXA p s m #[.ref b] meth c R_law code 4 ret G I99 (fun q => s.heap.size ≤ q)) (hX : va_X b L xs s s.heap) (hbl : b < s.heap.size) {fu : Nat} {Inv : Sg → Prop} (hstep : StepOK fu Inv) (hL : L ≤ 3584) {i : Nat} (hi : i + 7 ≤ L) {z : Sg} {H : Heap} {locs : List Loc} {ls : Array Slot} (hInv : Inv z) (hG : GWA G I99 (fun q => s.heap.size ≤ q) z s.heap H locs) (hl : lv_has ls 4 [(3, .int (nI i)), (2, .ref (gA G 78)), (1, .ref (gA G 0)), (0, .ref b)])
    (hgo : ∀ (z2 : Sg) (H : Heap) (locs : List Loc), Inv z2 → GWA G I99 (fun q => s.heap.size ≤ q) z2 s.heap H locs → W p l e room_1 s m #[.ref b] below meth c H locs 99 5106 (lw_Z below #[Value.ref b] s) (F0 m 1417 ls [])) : W p l e room_1 s m #[.ref b] below meth c H locs 99 5106 (lw_Z below #[Value.ref b] s) (F0 m 18 ls []) := by
  have hbA : ¬ (fun q : Nat => s.heap.size ≤ q) b := Nat.not_le.mpr hbl
  have hin := law_in hL hi
  refine rIload_n C dW_law_18 hl 0 rfl ?_
  refine rAload_n C dW_law_19 hl 3 rfl ?_
  refine va_slen C.1 C.2.1 hX hbl hbA hG.2.2 dW_law_20 ?_
  refine lv_bipush (v := 7) C.1 C.2.1 dW_law_21 (by decide) ?_
  refine lv_isub C.1 C.2.1 dW_law_23 ?_
  refine lv_icmp_gt (tgt := 1423) C.1 C.2.1 dW_law_24 (by decide) (fun q => absurd ((law_cond hL (by omega)).mp q) (by omega)) (fun _ => ?_)
  refine rAload_n C dW_law_27 hl 3 rfl ?_
  refine rIload_n C dW_law_28 hl 0 rfl ?_
  refine va_sld C.1 C.2.1 hX hbl hbA hG.2.2 (vp_in_nI (by omega) (by omega)) dW_law_29 ?_
  refine lv_bipush (v := 63) C.1 C.2.1 dW_law_30 (by decide) ?_
  refine lv_iand C.1 C.2.1 dW_law_32 ?_
  refine lv_topi (fun w _ => ?_)
  by_cases q0 : w = 0
  · refine rSwT C dW_law_33 0 q0 (by decide) (off := 155) (tgt := 188) (by decide) (by decide) ?_
    obtain ⟨r, z1, z2, e1, e2, hI2⟩ := hstep.1 z (xs (nI i + 1).toNatClampNeg) hInv
    refine rAload_n C dW_law_188 hl 2 rfl ?_
    refine rAload_n C dW_law_189 hl 3 rfl ?_
    refine rIload_n C dW_law_190 hl 0 rfl ?_
    refine lv_iconst (v := 1) C.1 C.2.1 dW_law_191 (by decide) ?_
    refine lv_iadd C.1 C.2.1 dW_law_192 ?_
    refine va_sld C.1 C.2.1 hX hbl hbA hG.2.2 (hin 1 (by decide) 1 rfl) dW_law_193 ?_
    refine rLCi [.int (xs (nI i + 1).toNatClampNeg)] [] C hG (cS_count (cI99) e1) mvS_count k_401 ⟨Nat.le_of_ble_eq_true rfl, Nat.le_of_ble_eq_true rfl⟩ ⟨rfl, rfl⟩ (rRecv C hG (cI99 0 (by decide)) e_0 rfl) rfl hl.1 (Nat.le_of_ble_eq_true rfl) dW_law_194 ⟨Nat.le_of_ble_eq_true rfl, Nat.le_of_ble_eq_true rfl⟩ rfl (fun H locs hG => ?_)
    refine rAload_n C dW_law_197 hl 1 rfl ?_
    refine rAload_n C dW_law_198 hl 3 rfl ?_
    refine rIload_n C dW_law_199 hl 0 rfl ?_
    refine lv_iconst (v := 1) C.1 C.2.1 dW_law_200 (by decide) ?_
    refine lv_iadd C.1 C.2.1 dW_law_201 ?_
    refine va_sld C.1 C.2.1 hX hbl hbA hG.2.2 (hin 1 (by decide) 1 rfl) dW_law_202 ?_
    refine rLCi [.int (xs (nI i + 1).toNatClampNeg)] [.int r] C hG (cM_count (mI99) e2) mvM_count k_909 ⟨Nat.le_of_ble_eq_true rfl, Nat.le_of_ble_eq_true rfl⟩ ⟨rfl, rfl⟩ (rRecv C hG (mI99 78 (by decide) (by decide)) e_78 rfl) rfl hl.1 (Nat.le_of_ble_eq_true rfl) dW_law_203 ⟨Nat.le_of_ble_eq_true rfl, Nat.le_of_ble_eq_true rfl⟩ rfl (fun H locs hG => ?_)
    refine lv_icmp_eq (tgt := 1417) C.1 C.2.1 dW_law_206 (by decide) (fun _ => ?_) (fun q => absurd rfl q)
    exact hgo z2 H locs hI2 hG
  by_cases q1 : w = 1
  · refine rSwT C dW_law_33 1 q1 (by decide) (off := 178) (tgt := 211) (by decide) (by decide) ?_
    obtain ⟨r, z1, z2, e1, e2, hI2⟩ := hstep.2.1 z (xs (nI i + 1).toNatClampNeg) (xs (nI i + 2).toNatClampNeg) hInv
    refine rAload_n C dW_law_211 hl 2 rfl ?_
    refine rAload_n C dW_law_212 hl 3 rfl ?_
    refine rIload_n C dW_law_213 hl 0 rfl ?_
    refine lv_iconst (v := 1) C.1 C.2.1 dW_law_214 (by decide) ?_
    refine lv_iadd C.1 C.2.1 dW_law_215 ?_
    refine va_sld C.1 C.2.1 hX hbl hbA hG.2.2 (hin 1 (by decide) 1 rfl) dW_law_216 ?_
    refine rAload_n C dW_law_217 hl 3 rfl ?_
    refine rIload_n C dW_law_218 hl 0 rfl ?_
    refine lv_iconst (v := 2) C.1 C.2.1 dW_law_219 (by decide) ?_
    refine lv_iadd C.1 C.2.1 dW_law_220 ?_
    refine va_sld C.1 C.2.1 hX hbl hbA hG.2.2 (hin 2 (by decide) 2 rfl) dW_law_221 ?_
    refine rLCi [.int (xs (nI i + 1).toNatClampNeg), .int (xs (nI i + 2).toNatClampNeg)] [] C hG (cS_sets (cI99) e1) mvS_sets k_419 ⟨Nat.le_of_ble_eq_true rfl, Nat.le_of_ble_eq_true rfl⟩ ⟨rfl, rfl⟩ (rRecv C hG (cI99 0 (by decide)) e_0 rfl) rfl hl.1 (Nat.le_of_ble_eq_true rfl) dW_law_222 ⟨Nat.le_of_ble_eq_true rfl, Nat.le_of_ble_eq_true rfl⟩ rfl (fun H locs hG => ?_)
    refine rAload_n C dW_law_225 hl 1 rfl ?_
    refine rAload_n C dW_law_226 hl 3 rfl ?_
    refine rIload_n C dW_law_227 hl 0 rfl ?_
    refine lv_iconst (v := 1) C.1 C.2.1 dW_law_228 (by decide) ?_
    refine lv_iadd C.1 C.2.1 dW_law_229 ?_
    refine va_sld C.1 C.2.1 hX hbl hbA hG.2.2 (hin 1 (by decide) 1 rfl) dW_law_230 ?_
    refine rAload_n C dW_law_231 hl 3 rfl ?_
    refine rIload_n C dW_law_232 hl 0 rfl ?_
    refine lv_iconst (v := 2) C.1 C.2.1 dW_law_233 (by decide) ?_
    refine lv_iadd C.1 C.2.1 dW_law_234 ?_
    refine va_sld C.1 C.2.1 hX hbl hbA hG.2.2 (hin 2 (by decide) 2 rfl) dW_law_235 ?_
    refine rLCi [.int (xs (nI i + 1).toNatClampNeg), .int (xs (nI i + 2).toNatClampNeg)] [.int r] C hG (cM_sets (mI99) e2) mvM_sets k_920 ⟨Nat.le_of_ble_eq_true rfl, Nat.le_of_ble_eq_true rfl⟩ ⟨rfl, rfl⟩ (rRecv C hG (mI99 78 (by decide) (by decide)) e_78 rfl) rfl hl.1 (Nat.le_of_ble_eq_true rfl) dW_law_236 ⟨Nat.le_of_ble_eq_true rfl, Nat.le_of_ble_eq_true rfl⟩ rfl (fun H locs hG => ?_)
    refine lv_icmp_eq (tgt := 1417) C.1 C.2.1 dW_law_239 (by decide) (fun _ => ?_) (fun q => absurd rfl q)
    exact hgo z2 H locs hI2 hG
  by_cases q2 : w = 2
  · refine rSwT C dW_law_33 2 q2 (by decide) (off := 211) (tgt := 244) (by decide) (by decide) ?_
    obtain ⟨r, z1, z2, e1, e2, hI2⟩ := hstep.2.2.1 z (xs (nI i + 1).toNatClampNeg) hInv
    refine rAload_n C dW_law_244 hl 2 rfl ?_
    refine rAload_n C dW_law_245 hl 3 rfl ?_
    refine rIload_n C dW_law_246 hl 0 rfl ?_
    refine lv_iconst (v := 1) C.1 C.2.1 dW_law_247 (by decide) ?_
    refine lv_iadd C.1 C.2.1 dW_law_248 ?_
    refine va_sld C.1 C.2.1 hX hbl hbA hG.2.2 (hin 1 (by decide) 1 rfl) dW_law_249 ?_
    refine rLCi [.int (xs (nI i + 1).toNatClampNeg)] [] C hG (cS_row (cI99) e1) mvS_row k_432 ⟨Nat.le_of_ble_eq_true rfl, Nat.le_of_ble_eq_true rfl⟩ ⟨rfl, rfl⟩ (rRecv C hG (cI99 0 (by decide)) e_0 rfl) rfl hl.1 (Nat.le_of_ble_eq_true rfl) dW_law_250 ⟨Nat.le_of_ble_eq_true rfl, Nat.le_of_ble_eq_true rfl⟩ rfl (fun H locs hG => ?_)
    refine rAload_n C dW_law_253 hl 1 rfl ?_
    refine rAload_n C dW_law_254 hl 3 rfl ?_
    refine rIload_n C dW_law_255 hl 0 rfl ?_
    refine lv_iconst (v := 1) C.1 C.2.1 dW_law_256 (by decide) ?_
    refine lv_iadd C.1 C.2.1 dW_law_257 ?_
    refine va_sld C.1 C.2.1 hX hbl hbA hG.2.2 (hin 1 (by decide) 1 rfl) dW_law_258 ?_
    refine rLCi [.int (xs (nI i + 1).toNatClampNeg)] [.int r] C hG (cM_row (mI99) e2) mvM_row k_928 ⟨Nat.le_of_ble_eq_true rfl, Nat.le_of_ble_eq_true rfl⟩ ⟨rfl, rfl⟩ (rRecv C hG (mI99 78 (by decide) (by decide)) e_78 rfl) rfl hl.1 (Nat.le_of_ble_eq_true rfl) dW_law_259 ⟨Nat.le_of_ble_eq_true rfl, Nat.le_of_ble_eq_true rfl⟩ rfl (fun H locs hG => ?_)
    refine lv_icmp_eq (tgt := 1417) C.1 C.2.1 dW_law_262 (by decide) (fun _ => ?_) (fun q => absurd rfl q)
    exact hgo z2 H locs hI2 hG
  by_cases q3 : w = 3
  · refine rSwT C dW_law_33 3 q3 (by decide) (off := 234) (tgt := 267) (by decide) (by decide) ?_
    obtain ⟨r, z1, z2, e1, e2, hI2⟩ := hstep.2.2.2.1 z (xs (nI i + 1).toNatClampNeg) (xs (nI i + 2).toNatClampNeg) (xs (nI i + 3).toNatClampNeg) (xs (nI i + 4).toNatClampNeg) (xs (nI i + 5).toNatClampNeg) (xs (nI i + 6).toNatClampNeg) hInv
    refine rAload_n C dW_law_267 hl 2 rfl ?_
    refine rAload_n C dW_law_268 hl 3 rfl ?_
    refine rIload_n C dW_law_269 hl 0 rfl ?_
    refine lv_iconst (v := 1) C.1 C.2.1 dW_law_270 (by decide) ?_
    refine lv_iadd C.1 C.2.1 dW_law_271 ?_
    refine va_sld C.1 C.2.1 hX hbl hbA hG.2.2 (hin 1 (by decide) 1 rfl) dW_law_272 ?_
    refine rAload_n C dW_law_273 hl 3 rfl ?_
    refine rIload_n C dW_law_274 hl 0 rfl ?_
    refine lv_iconst (v := 2) C.1 C.2.1 dW_law_275 (by decide) ?_
    refine lv_iadd C.1 C.2.1 dW_law_276 ?_
    refine va_sld C.1 C.2.1 hX hbl hbA hG.2.2 (hin 2 (by decide) 2 rfl) dW_law_277 ?_
    refine rAload_n C dW_law_278 hl 3 rfl ?_
    refine rIload_n C dW_law_279 hl 0 rfl ?_
    refine lv_iconst (v := 3) C.1 C.2.1 dW_law_280 (by decide) ?_
    refine lv_iadd C.1 C.2.1 dW_law_281 ?_
    refine va_sld C.1 C.2.1 hX hbl hbA hG.2.2 (hin 3 (by decide) 3 rfl) dW_law_282 ?_
    refine rAload_n C dW_law_283 hl 3 rfl ?_
    refine rIload_n C dW_law_284 hl 0 rfl ?_
    refine lv_iconst (v := 4) C.1 C.2.1 dW_law_285 (by decide) ?_
    refine lv_iadd C.1 C.2.1 dW_law_286 ?_
    refine va_sld C.1 C.2.1 hX hbl hbA hG.2.2 (hin 4 (by decide) 4 rfl) dW_law_287 ?_
    refine rAload_n C dW_law_288 hl 3 rfl ?_
    refine rIload_n C dW_law_289 hl 0 rfl ?_
    refine lv_iconst (v := 5) C.1 C.2.1 dW_law_290 (by decide) ?_
    refine lv_iadd C.1 C.2.1 dW_law_291 ?_
    refine va_sld C.1 C.2.1 hX hbl hbA hG.2.2 (hin 5 (by decide) 5 rfl) dW_law_292 ?_
    refine rAload_n C dW_law_293 hl 3 rfl ?_
    refine rIload_n C dW_law_294 hl 0 rfl ?_
    refine lv_bipush (v := 6) C.1 C.2.1 dW_law_295 (by decide) ?_
    refine lv_iadd C.1 C.2.1 dW_law_297 ?_
    refine va_sld C.1 C.2.1 hX hbl hbA hG.2.2 (hin 6 (by decide) 6 rfl) dW_law_298 ?_
    refine rLCi [.int (xs (nI i + 1).toNatClampNeg), .int (xs (nI i + 2).toNatClampNeg), .int (xs (nI i + 3).toNatClampNeg), .int (xs (nI i + 4).toNatClampNeg), .int (xs (nI i + 5).toNatClampNeg), .int (xs (nI i + 6).toNatClampNeg)] [] C hG (cS_feed (cI99) e1) mvS_feed k_436 ⟨Nat.le_of_ble_eq_true rfl, Nat.le_of_ble_eq_true rfl⟩ ⟨rfl, rfl⟩ (rRecv C hG (cI99 0 (by decide)) e_0 rfl) rfl hl.1 (Nat.le_of_ble_eq_true rfl) dW_law_299 ⟨Nat.le_of_ble_eq_true rfl, Nat.le_of_ble_eq_true rfl⟩ rfl (fun H locs hG => ?_)
    refine rAload_n C dW_law_302 hl 1 rfl ?_
    refine rAload_n C dW_law_303 hl 3 rfl ?_
    refine rIload_n C dW_law_304 hl 0 rfl ?_
    refine lv_iconst (v := 1) C.1 C.2.1 dW_law_305 (by decide) ?_
    refine lv_iadd C.1 C.2.1 dW_law_306 ?_
    refine va_sld C.1 C.2.1 hX hbl hbA hG.2.2 (hin 1 (by decide) 1 rfl) dW_law_307 ?_
    refine rAload_n C dW_law_308 hl 3 rfl ?_
    refine rIload_n C dW_law_309 hl 0 rfl ?_
    refine lv_iconst (v := 2) C.1 C.2.1 dW_law_310 (by decide) ?_
    refine lv_iadd C.1 C.2.1 dW_law_311 ?_
    refine va_sld C.1 C.2.1 hX hbl hbA hG.2.2 (hin 2 (by decide) 2 rfl) dW_law_312 ?_
    refine rAload_n C dW_law_313 hl 3 rfl ?_
    refine rIload_n C dW_law_314 hl 0 rfl ?_
    refine lv_iconst (v := 3) C.1 C.2.1 dW_law_315 (by decide) ?_
    refine lv_iadd C.1 C.2.1 dW_law_316 ?_
    refine va_sld C.1 C.2.1 hX hbl hbA hG.2.2 (hin 3 (by decide) 3 rfl) dW_law_317 ?_
    refine rAload_n C dW_law_318 hl 3 rfl ?_
    refine rIload_n C dW_law_319 hl 0 rfl ?_
    refine lv_iconst (v := 4) C.1 C.2.1 dW_law_320 (by decide) ?_
    refine lv_iadd C.1 C.2.1 dW_law_321 ?_
    refine va_sld C.1 C.2.1 hX hbl hbA hG.2.2 (hin 4 (by decide) 4 rfl) dW_law_322 ?_
    refine rAload_n C dW_law_323 hl 3 rfl ?_
    refine rIload_n C dW_law_324 hl 0 rfl ?_
    refine lv_iconst (v := 5) C.1 C.2.1 dW_law_325 (by decide) ?_
    refine lv_iadd C.1 C.2.1 dW_law_326 ?_
    refine va_sld C.1 C.2.1 hX hbl hbA hG.2.2 (hin 5 (by decide) 5 rfl) dW_law_327 ?_
    refine rAload_n C dW_law_328 hl 3 rfl ?_
    refine rIload_n C dW_law_329 hl 0 rfl ?_
    refine lv_bipush (v := 6) C.1 C.2.1 dW_law_330 (by decide) ?_
    refine lv_iadd C.1 C.2.1 dW_law_332 ?_
    refine va_sld C.1 C.2.1 hX hbl hbA hG.2.2 (hin 6 (by decide) 6 rfl) dW_law_333 ?_
    refine rLCi [.int (xs (nI i + 1).toNatClampNeg), .int (xs (nI i + 2).toNatClampNeg), .int (xs (nI i + 3).toNatClampNeg), .int (xs (nI i + 4).toNatClampNeg), .int (xs (nI i + 5).toNatClampNeg), .int (xs (nI i + 6).toNatClampNeg)] [.int r] C hG (cM_feed (mI99) e2) mvM_feed k_932 ⟨Nat.le_of_ble_eq_true rfl, Nat.le_of_ble_eq_true rfl⟩ ⟨rfl, rfl⟩ (rRecv C hG (mI99 78 (by decide) (by decide)) e_78 rfl) rfl hl.1 (Nat.le_of_ble_eq_true rfl) dW_law_334 ⟨Nat.le_of_ble_eq_true rfl, Nat.le_of_ble_eq_true rfl⟩ rfl (fun H locs hG => ?_)
    refine lv_icmp_eq (tgt := 1417) C.1 C.2.1 dW_law_337 (by decide) (fun _ => ?_) (fun q => absurd rfl q)
    exact hgo z2 H locs hI2 hG
  by_cases q4 : w = 4
  · refine rSwT C dW_law_33 4 q4 (by decide) (off := 309) (tgt := 342) (by decide) (by decide) ?_
    obtain ⟨r, z1, z2, e1, e2, hI2⟩ := hstep.2.2.2.2.1 z hInv
    refine rAload_n C dW_law_342 hl 2 rfl ?_
    refine rLCi [] [] C hG (cS_text (cI99) e1) mvS_text k_440 ⟨Nat.le_of_ble_eq_true rfl, Nat.le_of_ble_eq_true rfl⟩ ⟨rfl, rfl⟩ (rRecv C hG (cI99 0 (by decide)) e_0 rfl) rfl hl.1 (Nat.le_of_ble_eq_true rfl) dW_law_343 ⟨Nat.le_of_ble_eq_true rfl, Nat.le_of_ble_eq_true rfl⟩ rfl (fun H locs hG => ?_)
    refine rAload_n C dW_law_346 hl 1 rfl ?_
    refine rLCi [] [.int r] C hG (cM_text (mI99) e2) mvM_text k_939 ⟨Nat.le_of_ble_eq_true rfl, Nat.le_of_ble_eq_true rfl⟩ ⟨rfl, rfl⟩ (rRecv C hG (mI99 78 (by decide) (by decide)) e_78 rfl) rfl hl.1 (Nat.le_of_ble_eq_true rfl) dW_law_347 ⟨Nat.le_of_ble_eq_true rfl, Nat.le_of_ble_eq_true rfl⟩ rfl (fun H locs hG => ?_)
    refine lv_icmp_eq (tgt := 1417) C.1 C.2.1 dW_law_350 (by decide) (fun _ => ?_) (fun q => absurd rfl q)
    exact hgo z2 H locs hI2 hG
  by_cases q5 : w = 5
  · refine rSwT C dW_law_33 5 q5 (by decide) (off := 322) (tgt := 355) (by decide) (by decide) ?_
    obtain ⟨r, z1, z2, e1, e2, hI2⟩ := hstep.2.2.2.2.2.1 z (xs (nI i + 1).toNatClampNeg) hInv
    refine rAload_n C dW_law_355 hl 2 rfl ?_
    refine rAload_n C dW_law_356 hl 3 rfl ?_
    refine rIload_n C dW_law_357 hl 0 rfl ?_
    refine lv_iconst (v := 1) C.1 C.2.1 dW_law_358 (by decide) ?_
    refine lv_iadd C.1 C.2.1 dW_law_359 ?_
    refine va_sld C.1 C.2.1 hX hbl hbA hG.2.2 (hin 1 (by decide) 1 rfl) dW_law_360 ?_
    refine rLCi [.int (xs (nI i + 1).toNatClampNeg)] [] C hG (cS_force (cI99) e1) mvS_force k_444 ⟨Nat.le_of_ble_eq_true rfl, Nat.le_of_ble_eq_true rfl⟩ ⟨rfl, rfl⟩ (rRecv C hG (cI99 0 (by decide)) e_0 rfl) rfl hl.1 (Nat.le_of_ble_eq_true rfl) dW_law_361 ⟨Nat.le_of_ble_eq_true rfl, Nat.le_of_ble_eq_true rfl⟩ rfl (fun H locs hG => ?_)
    refine rAload_n C dW_law_364 hl 1 rfl ?_
    refine rAload_n C dW_law_365 hl 3 rfl ?_
    refine rIload_n C dW_law_366 hl 0 rfl ?_
    refine lv_iconst (v := 1) C.1 C.2.1 dW_law_367 (by decide) ?_
    refine lv_iadd C.1 C.2.1 dW_law_368 ?_
    refine va_sld C.1 C.2.1 hX hbl hbA hG.2.2 (hin 1 (by decide) 1 rfl) dW_law_369 ?_
    refine rLCi [.int (xs (nI i + 1).toNatClampNeg)] [.int r] C hG (cM_force (mI99) e2) mvM_force k_940 ⟨Nat.le_of_ble_eq_true rfl, Nat.le_of_ble_eq_true rfl⟩ ⟨rfl, rfl⟩ (rRecv C hG (mI99 78 (by decide) (by decide)) e_78 rfl) rfl hl.1 (Nat.le_of_ble_eq_true rfl) dW_law_370 ⟨Nat.le_of_ble_eq_true rfl, Nat.le_of_ble_eq_true rfl⟩ rfl (fun H locs hG => ?_)
    refine lv_icmp_eq (tgt := 1417) C.1 C.2.1 dW_law_373 (by decide) (fun _ => ?_) (fun q => absurd rfl q)
    exact hgo z2 H locs hI2 hG
  by_cases q6 : w = 6
  · refine rSwT C dW_law_33 6 q6 (by decide) (off := 345) (tgt := 378) (by decide) (by decide) ?_
    obtain ⟨r, z1, z2, e1, e2, hI2⟩ := hstep.2.2.2.2.2.2.1 z (xs (nI i + 1).toNatClampNeg) (xs (nI i + 2).toNatClampNeg) hInv
    refine rAload_n C dW_law_378 hl 2 rfl ?_
    refine rAload_n C dW_law_379 hl 3 rfl ?_
    refine rIload_n C dW_law_380 hl 0 rfl ?_
    refine lv_iconst (v := 1) C.1 C.2.1 dW_law_381 (by decide) ?_
    refine lv_iadd C.1 C.2.1 dW_law_382 ?_
    refine va_sld C.1 C.2.1 hX hbl hbA hG.2.2 (hin 1 (by decide) 1 rfl) dW_law_383 ?_
    refine rAload_n C dW_law_384 hl 3 rfl ?_
    refine rIload_n C dW_law_385 hl 0 rfl ?_
    refine lv_iconst (v := 2) C.1 C.2.1 dW_law_386 (by decide) ?_
    refine lv_iadd C.1 C.2.1 dW_law_387 ?_
    refine va_sld C.1 C.2.1 hX hbl hbA hG.2.2 (hin 2 (by decide) 2 rfl) dW_law_388 ?_
    refine rLCi [.int (xs (nI i + 1).toNatClampNeg), .int (xs (nI i + 2).toNatClampNeg)] [] C hG (cS_asks (cI99) e1) mvS_asks k_448 ⟨Nat.le_of_ble_eq_true rfl, Nat.le_of_ble_eq_true rfl⟩ ⟨rfl, rfl⟩ (rRecv C hG (cI99 0 (by decide)) e_0 rfl) rfl hl.1 (Nat.le_of_ble_eq_true rfl) dW_law_389 ⟨Nat.le_of_ble_eq_true rfl, Nat.le_of_ble_eq_true rfl⟩ rfl (fun H locs hG => ?_)
    refine rAload_n C dW_law_392 hl 1 rfl ?_
    refine rAload_n C dW_law_393 hl 3 rfl ?_
    refine rIload_n C dW_law_394 hl 0 rfl ?_
    refine lv_iconst (v := 1) C.1 C.2.1 dW_law_395 (by decide) ?_
    refine lv_iadd C.1 C.2.1 dW_law_396 ?_
    refine va_sld C.1 C.2.1 hX hbl hbA hG.2.2 (hin 1 (by decide) 1 rfl) dW_law_397 ?_
    refine rAload_n C dW_law_398 hl 3 rfl ?_
    refine rIload_n C dW_law_399 hl 0 rfl ?_
    refine lv_iconst (v := 2) C.1 C.2.1 dW_law_400 (by decide) ?_
    refine lv_iadd C.1 C.2.1 dW_law_401 ?_
    refine va_sld C.1 C.2.1 hX hbl hbA hG.2.2 (hin 2 (by decide) 2 rfl) dW_law_402 ?_
    refine rLCi [.int (xs (nI i + 1).toNatClampNeg), .int (xs (nI i + 2).toNatClampNeg)] [.int r] C hG (cM_asks (mI99) e2) mvM_asks k_944 ⟨Nat.le_of_ble_eq_true rfl, Nat.le_of_ble_eq_true rfl⟩ ⟨rfl, rfl⟩ (rRecv C hG (mI99 78 (by decide) (by decide)) e_78 rfl) rfl hl.1 (Nat.le_of_ble_eq_true rfl) dW_law_403 ⟨Nat.le_of_ble_eq_true rfl, Nat.le_of_ble_eq_true rfl⟩ rfl (fun H locs hG => ?_)
    refine lv_icmp_eq (tgt := 1417) C.1 C.2.1 dW_law_406 (by decide) (fun _ => ?_) (fun q => absurd rfl q)
    exact hgo z2 H locs hI2 hG
  by_cases q7 : w = 7
  · refine rSwT C dW_law_33 7 q7 (by decide) (off := 378) (tgt := 411) (by decide) (by decide) ?_
    obtain ⟨r, z1, z2, e1, e2, hI2⟩ := hstep.2.2.2.2.2.2.2.1 z (xs (nI i + 1).toNatClampNeg) (xs (nI i + 2).toNatClampNeg) hInv
    refine rAload_n C dW_law_411 hl 2 rfl ?_
    refine rAload_n C dW_law_412 hl 3 rfl ?_
    refine rIload_n C dW_law_413 hl 0 rfl ?_
    refine lv_iconst (v := 1) C.1 C.2.1 dW_law_414 (by decide) ?_
    refine lv_iadd C.1 C.2.1 dW_law_415 ?_
    refine va_sld C.1 C.2.1 hX hbl hbA hG.2.2 (hin 1 (by decide) 1 rfl) dW_law_416 ?_
    refine rAload_n C dW_law_417 hl 3 rfl ?_
    refine rIload_n C dW_law_418 hl 0 rfl ?_
    refine lv_iconst (v := 2) C.1 C.2.1 dW_law_419 (by decide) ?_
    refine lv_iadd C.1 C.2.1 dW_law_420 ?_
    refine va_sld C.1 C.2.1 hX hbl hbA hG.2.2 (hin 2 (by decide) 2 rfl) dW_law_421 ?_
    refine rLCi [.int (xs (nI i + 1).toNatClampNeg), .int (xs (nI i + 2).toNatClampNeg)] [] C hG (cS_mower (cI99) e1) mvS_mower k_474 ⟨Nat.le_of_ble_eq_true rfl, Nat.le_of_ble_eq_true rfl⟩ ⟨rfl, rfl⟩ (rRecv C hG (cI99 0 (by decide)) e_0 rfl) rfl hl.1 (Nat.le_of_ble_eq_true rfl) dW_law_422 ⟨Nat.le_of_ble_eq_true rfl, Nat.le_of_ble_eq_true rfl⟩ rfl (fun H locs hG => ?_)
    refine rAload_n C dW_law_425 hl 1 rfl ?_
    refine rAload_n C dW_law_426 hl 3 rfl ?_
    refine rIload_n C dW_law_427 hl 0 rfl ?_
    refine lv_iconst (v := 1) C.1 C.2.1 dW_law_428 (by decide) ?_
    refine lv_iadd C.1 C.2.1 dW_law_429 ?_
    refine va_sld C.1 C.2.1 hX hbl hbA hG.2.2 (hin 1 (by decide) 1 rfl) dW_law_430 ?_
    refine rAload_n C dW_law_431 hl 3 rfl ?_
    refine rIload_n C dW_law_432 hl 0 rfl ?_
    refine lv_iconst (v := 2) C.1 C.2.1 dW_law_433 (by decide) ?_
    refine lv_iadd C.1 C.2.1 dW_law_434 ?_
    refine va_sld C.1 C.2.1 hX hbl hbA hG.2.2 (hin 2 (by decide) 2 rfl) dW_law_435 ?_
    refine rLCi [.int (xs (nI i + 1).toNatClampNeg), .int (xs (nI i + 2).toNatClampNeg)] [.int r] C hG (cM_mower (mI99) e2) mvM_mower k_978 ⟨Nat.le_of_ble_eq_true rfl, Nat.le_of_ble_eq_true rfl⟩ ⟨rfl, rfl⟩ (rRecv C hG (mI99 78 (by decide) (by decide)) e_78 rfl) rfl hl.1 (Nat.le_of_ble_eq_true rfl) dW_law_436 ⟨Nat.le_of_ble_eq_true rfl, Nat.le_of_ble_eq_true rfl⟩ rfl (fun H locs hG => ?_)
    refine lv_icmp_eq (tgt := 1417) C.1 C.2.1 dW_law_439 (by decide) (fun _ => ?_) (fun q => absurd rfl q)
    exact hgo z2 H locs hI2 hG
  by_cases q8 : w = 8
  · refine rSwT C dW_law_33 8 q8 (by decide) (off := 411) (tgt := 444) (by decide) (by decide) ?_
    obtain ⟨r, z1, z2, e1, e2, hI2⟩ := hstep.2.2.2.2.2.2.2.2.1 z (xs (nI i + 1).toNatClampNeg) (xs (nI i + 2).toNatClampNeg) (xs (nI i + 3).toNatClampNeg) hInv
    refine rAload_n C dW_law_444 hl 2 rfl ?_
    refine rAload_n C dW_law_445 hl 3 rfl ?_
    refine rIload_n C dW_law_446 hl 0 rfl ?_
    refine lv_iconst (v := 1) C.1 C.2.1 dW_law_447 (by decide) ?_
    refine lv_iadd C.1 C.2.1 dW_law_448 ?_
    refine va_sld C.1 C.2.1 hX hbl hbA hG.2.2 (hin 1 (by decide) 1 rfl) dW_law_449 ?_
    refine rAload_n C dW_law_450 hl 3 rfl ?_
    refine rIload_n C dW_law_451 hl 0 rfl ?_
    refine lv_iconst (v := 2) C.1 C.2.1 dW_law_452 (by decide) ?_
    refine lv_iadd C.1 C.2.1 dW_law_453 ?_
    refine va_sld C.1 C.2.1 hX hbl hbA hG.2.2 (hin 2 (by decide) 2 rfl) dW_law_454 ?_
    refine rAload_n C dW_law_455 hl 3 rfl ?_
    refine rIload_n C dW_law_456 hl 0 rfl ?_
    refine lv_iconst (v := 3) C.1 C.2.1 dW_law_457 (by decide) ?_
    refine lv_iadd C.1 C.2.1 dW_law_458 ?_
    refine va_sld C.1 C.2.1 hX hbl hbA hG.2.2 (hin 3 (by decide) 3 rfl) dW_law_459 ?_
    refine rLCi [.int (xs (nI i + 1).toNatClampNeg), .int (xs (nI i + 2).toNatClampNeg), .int (xs (nI i + 3).toNatClampNeg)] [] C hG (cS_put (cI99) e1) mvS_put k_491 ⟨Nat.le_of_ble_eq_true rfl, Nat.le_of_ble_eq_true rfl⟩ ⟨rfl, rfl⟩ (rRecv C hG (cI99 0 (by decide)) e_0 rfl) rfl hl.1 (Nat.le_of_ble_eq_true rfl) dW_law_460 ⟨Nat.le_of_ble_eq_true rfl, Nat.le_of_ble_eq_true rfl⟩ rfl (fun H locs hG => ?_)
    refine rAload_n C dW_law_463 hl 1 rfl ?_
    refine rAload_n C dW_law_464 hl 3 rfl ?_
    refine rIload_n C dW_law_465 hl 0 rfl ?_
    refine lv_iconst (v := 1) C.1 C.2.1 dW_law_466 (by decide) ?_
    refine lv_iadd C.1 C.2.1 dW_law_467 ?_
    refine va_sld C.1 C.2.1 hX hbl hbA hG.2.2 (hin 1 (by decide) 1 rfl) dW_law_468 ?_
    refine rAload_n C dW_law_469 hl 3 rfl ?_
    refine rIload_n C dW_law_470 hl 0 rfl ?_
    refine lv_iconst (v := 2) C.1 C.2.1 dW_law_471 (by decide) ?_
    refine lv_iadd C.1 C.2.1 dW_law_472 ?_
    refine va_sld C.1 C.2.1 hX hbl hbA hG.2.2 (hin 2 (by decide) 2 rfl) dW_law_473 ?_
    refine rAload_n C dW_law_474 hl 3 rfl ?_
    refine rIload_n C dW_law_475 hl 0 rfl ?_
    refine lv_iconst (v := 3) C.1 C.2.1 dW_law_476 (by decide) ?_
    refine lv_iadd C.1 C.2.1 dW_law_477 ?_
    refine va_sld C.1 C.2.1 hX hbl hbA hG.2.2 (hin 3 (by decide) 3 rfl) dW_law_478 ?_
    refine rLCi [.int (xs (nI i + 1).toNatClampNeg), .int (xs (nI i + 2).toNatClampNeg), .int (xs (nI i + 3).toNatClampNeg)] [.int r] C hG (cM_put (mI99) e2) mvM_put k_986 ⟨Nat.le_of_ble_eq_true rfl, Nat.le_of_ble_eq_true rfl⟩ ⟨rfl, rfl⟩ (rRecv C hG (mI99 78 (by decide) (by decide)) e_78 rfl) rfl hl.1 (Nat.le_of_ble_eq_true rfl) dW_law_479 ⟨Nat.le_of_ble_eq_true rfl, Nat.le_of_ble_eq_true rfl⟩ rfl (fun H locs hG => ?_)
    refine lv_icmp_eq (tgt := 1417) C.1 C.2.1 dW_law_482 (by decide) (fun _ => ?_) (fun q => absurd rfl q)
    exact hgo z2 H locs hI2 hG
  by_cases q9 : w = 9
  · refine rSwT C dW_law_33 9 q9 (by decide) (off := 454) (tgt := 487) (by decide) (by decide) ?_
    obtain ⟨r, z1, z2, e1, e2, hI2⟩ := hstep.2.2.2.2.2.2.2.2.2.1 z (xs (nI i + 1).toNatClampNeg) (xs (nI i + 2).toNatClampNeg) hInv
    refine rAload_n C dW_law_487 hl 2 rfl ?_
    refine rAload_n C dW_law_488 hl 3 rfl ?_
    refine rIload_n C dW_law_489 hl 0 rfl ?_
    refine lv_iconst (v := 1) C.1 C.2.1 dW_law_490 (by decide) ?_
    refine lv_iadd C.1 C.2.1 dW_law_491 ?_
    refine va_sld C.1 C.2.1 hX hbl hbA hG.2.2 (hin 1 (by decide) 1 rfl) dW_law_492 ?_
    refine rAload_n C dW_law_493 hl 3 rfl ?_
    refine rIload_n C dW_law_494 hl 0 rfl ?_
    refine lv_iconst (v := 2) C.1 C.2.1 dW_law_495 (by decide) ?_
    refine lv_iadd C.1 C.2.1 dW_law_496 ?_
    refine va_sld C.1 C.2.1 hX hbl hbA hG.2.2 (hin 2 (by decide) 2 rfl) dW_law_497 ?_
    refine rLCi [.int (xs (nI i + 1).toNatClampNeg), .int (xs (nI i + 2).toNatClampNeg)] [] C hG (cS_told (cI99) e1) mvS_told k_500 ⟨Nat.le_of_ble_eq_true rfl, Nat.le_of_ble_eq_true rfl⟩ ⟨rfl, rfl⟩ (rRecv C hG (cI99 0 (by decide)) e_0 rfl) rfl hl.1 (Nat.le_of_ble_eq_true rfl) dW_law_498 ⟨Nat.le_of_ble_eq_true rfl, Nat.le_of_ble_eq_true rfl⟩ rfl (fun H locs hG => ?_)
    refine rAload_n C dW_law_501 hl 1 rfl ?_
    refine rAload_n C dW_law_502 hl 3 rfl ?_
    refine rIload_n C dW_law_503 hl 0 rfl ?_
    refine lv_iconst (v := 1) C.1 C.2.1 dW_law_504 (by decide) ?_
    refine lv_iadd C.1 C.2.1 dW_law_505 ?_
    refine va_sld C.1 C.2.1 hX hbl hbA hG.2.2 (hin 1 (by decide) 1 rfl) dW_law_506 ?_
    refine rAload_n C dW_law_507 hl 3 rfl ?_
    refine rIload_n C dW_law_508 hl 0 rfl ?_
    refine lv_iconst (v := 2) C.1 C.2.1 dW_law_509 (by decide) ?_
    refine lv_iadd C.1 C.2.1 dW_law_510 ?_
    refine va_sld C.1 C.2.1 hX hbl hbA hG.2.2 (hin 2 (by decide) 2 rfl) dW_law_511 ?_
    refine rLCi [.int (xs (nI i + 1).toNatClampNeg), .int (xs (nI i + 2).toNatClampNeg)] [.int r] C hG (cM_told (mI99) e2) mvM_told k_990 ⟨Nat.le_of_ble_eq_true rfl, Nat.le_of_ble_eq_true rfl⟩ ⟨rfl, rfl⟩ (rRecv C hG (mI99 78 (by decide) (by decide)) e_78 rfl) rfl hl.1 (Nat.le_of_ble_eq_true rfl) dW_law_512 ⟨Nat.le_of_ble_eq_true rfl, Nat.le_of_ble_eq_true rfl⟩ rfl (fun H locs hG => ?_)
    refine lv_icmp_eq (tgt := 1417) C.1 C.2.1 dW_law_515 (by decide) (fun _ => ?_) (fun q => absurd rfl q)
    exact hgo z2 H locs hI2 hG
  by_cases q10 : w = 10
  · refine rSwT C dW_law_33 10 q10 (by decide) (off := 487) (tgt := 520) (by decide) (by decide) ?_
    obtain ⟨r, z1, z2, e1, e2, hI2⟩ := hstep.2.2.2.2.2.2.2.2.2.2.1 z hInv
    refine rAload_n C dW_law_520 hl 2 rfl ?_
    refine rLCi [] [] C hG (cS_stroke (cI99) e1) mvS_stroke k_536 ⟨Nat.le_of_ble_eq_true rfl, Nat.le_of_ble_eq_true rfl⟩ ⟨rfl, rfl⟩ (rRecv C hG (cI99 0 (by decide)) e_0 rfl) rfl hl.1 (Nat.le_of_ble_eq_true rfl) dW_law_521 ⟨Nat.le_of_ble_eq_true rfl, Nat.le_of_ble_eq_true rfl⟩ rfl (fun H locs hG => ?_)
    refine rAload_n C dW_law_524 hl 1 rfl ?_
    refine rLCi [] [.int r] C hG (cM_stroke (mI99) e2) mvM_stroke k_1013 ⟨Nat.le_of_ble_eq_true rfl, Nat.le_of_ble_eq_true rfl⟩ ⟨rfl, rfl⟩ (rRecv C hG (mI99 78 (by decide) (by decide)) e_78 rfl) rfl hl.1 (Nat.le_of_ble_eq_true rfl) dW_law_525 ⟨Nat.le_of_ble_eq_true rfl, Nat.le_of_ble_eq_true rfl⟩ rfl (fun H locs hG => ?_)
    refine lv_icmp_eq (tgt := 1417) C.1 C.2.1 dW_law_528 (by decide) (fun _ => ?_) (fun q => absurd rfl q)
    exact hgo z2 H locs hI2 hG
  by_cases q11 : w = 11
  · refine rSwT C dW_law_33 11 q11 (by decide) (off := 500) (tgt := 533) (by decide) (by decide) ?_
    obtain ⟨r, z1, z2, e1, e2, hI2⟩ := hstep.2.2.2.2.2.2.2.2.2.2.2.1 z (xs (nI i + 1).toNatClampNeg) (xs (nI i + 2).toNatClampNeg) hInv
    refine rAload_n C dW_law_533 hl 2 rfl ?_
    refine rAload_n C dW_law_534 hl 3 rfl ?_
    refine rIload_n C dW_law_535 hl 0 rfl ?_
    refine lv_iconst (v := 1) C.1 C.2.1 dW_law_536 (by decide) ?_
    refine lv_iadd C.1 C.2.1 dW_law_537 ?_
    refine va_sld C.1 C.2.1 hX hbl hbA hG.2.2 (hin 1 (by decide) 1 rfl) dW_law_538 ?_
    refine rAload_n C dW_law_539 hl 3 rfl ?_
    refine rIload_n C dW_law_540 hl 0 rfl ?_
    refine lv_iconst (v := 2) C.1 C.2.1 dW_law_541 (by decide) ?_
    refine lv_iadd C.1 C.2.1 dW_law_542 ?_
    refine va_sld C.1 C.2.1 hX hbl hbA hG.2.2 (hin 2 (by decide) 2 rfl) dW_law_543 ?_
    refine rLCi [.int (xs (nI i + 1).toNatClampNeg), .int (xs (nI i + 2).toNatClampNeg)] [] C hG (cS_run (cI99) e1) mvS_run k_548 ⟨Nat.le_of_ble_eq_true rfl, Nat.le_of_ble_eq_true rfl⟩ ⟨rfl, rfl⟩ (rRecv C hG (cI99 0 (by decide)) e_0 rfl) rfl hl.1 (Nat.le_of_ble_eq_true rfl) dW_law_544 ⟨Nat.le_of_ble_eq_true rfl, Nat.le_of_ble_eq_true rfl⟩ rfl (fun H locs hG => ?_)
    refine rAload_n C dW_law_547 hl 1 rfl ?_
    refine rAload_n C dW_law_548 hl 3 rfl ?_
    refine rIload_n C dW_law_549 hl 0 rfl ?_
    refine lv_iconst (v := 1) C.1 C.2.1 dW_law_550 (by decide) ?_
    refine lv_iadd C.1 C.2.1 dW_law_551 ?_
    refine va_sld C.1 C.2.1 hX hbl hbA hG.2.2 (hin 1 (by decide) 1 rfl) dW_law_552 ?_
    refine rAload_n C dW_law_553 hl 3 rfl ?_
    refine rIload_n C dW_law_554 hl 0 rfl ?_
    refine lv_iconst (v := 2) C.1 C.2.1 dW_law_555 (by decide) ?_
    refine lv_iadd C.1 C.2.1 dW_law_556 ?_
    refine va_sld C.1 C.2.1 hX hbl hbA hG.2.2 (hin 2 (by decide) 2 rfl) dW_law_557 ?_
    refine rLCi [.int (xs (nI i + 1).toNatClampNeg), .int (xs (nI i + 2).toNatClampNeg)] [.int r] C hG (cM_run (mI99) e2) mvM_run k_1021 ⟨Nat.le_of_ble_eq_true rfl, Nat.le_of_ble_eq_true rfl⟩ ⟨rfl, rfl⟩ (rRecv C hG (mI99 78 (by decide) (by decide)) e_78 rfl) rfl hl.1 (Nat.le_of_ble_eq_true rfl) dW_law_558 ⟨Nat.le_of_ble_eq_true rfl, Nat.le_of_ble_eq_true rfl⟩ rfl (fun H locs hG => ?_)
    refine lv_icmp_eq (tgt := 1417) C.1 C.2.1 dW_law_561 (by decide) (fun _ => ?_) (fun q => absurd rfl q)
    exact hgo z2 H locs hI2 hG
  by_cases q12 : w = 12
  · refine rSwT C dW_law_33 12 q12 (by decide) (off := 533) (tgt := 566) (by decide) (by decide) ?_
    obtain ⟨r, z1, z2, e1, e2, hI2⟩ := hstep.2.2.2.2.2.2.2.2.2.2.2.2.1 z (xs (nI i + 1).toNatClampNeg) hInv
    refine rAload_n C dW_law_566 hl 2 rfl ?_
    refine rAload_n C dW_law_567 hl 3 rfl ?_
    refine rIload_n C dW_law_568 hl 0 rfl ?_
    refine lv_iconst (v := 1) C.1 C.2.1 dW_law_569 (by decide) ?_
    refine lv_iadd C.1 C.2.1 dW_law_570 ?_
    refine va_sld C.1 C.2.1 hX hbl hbA hG.2.2 (hin 1 (by decide) 1 rfl) dW_law_571 ?_
    refine rLCi [.int (xs (nI i + 1).toNatClampNeg)] [] C hG (cS_when (cI99) e1) mvS_when k_566 ⟨Nat.le_of_ble_eq_true rfl, Nat.le_of_ble_eq_true rfl⟩ ⟨rfl, rfl⟩ (rRecv C hG (cI99 0 (by decide)) e_0 rfl) rfl hl.1 (Nat.le_of_ble_eq_true rfl) dW_law_572 ⟨Nat.le_of_ble_eq_true rfl, Nat.le_of_ble_eq_true rfl⟩ rfl (fun H locs hG => ?_)
    refine rAload_n C dW_law_575 hl 1 rfl ?_
    refine rAload_n C dW_law_576 hl 3 rfl ?_
    refine rIload_n C dW_law_577 hl 0 rfl ?_
    refine lv_iconst (v := 1) C.1 C.2.1 dW_law_578 (by decide) ?_
    refine lv_iadd C.1 C.2.1 dW_law_579 ?_
    refine va_sld C.1 C.2.1 hX hbl hbA hG.2.2 (hin 1 (by decide) 1 rfl) dW_law_580 ?_
    refine rLCi [.int (xs (nI i + 1).toNatClampNeg)] [.int r] C hG (cM_when (mI99) e2) mvM_when k_1045 ⟨Nat.le_of_ble_eq_true rfl, Nat.le_of_ble_eq_true rfl⟩ ⟨rfl, rfl⟩ (rRecv C hG (mI99 78 (by decide) (by decide)) e_78 rfl) rfl hl.1 (Nat.le_of_ble_eq_true rfl) dW_law_581 ⟨Nat.le_of_ble_eq_true rfl, Nat.le_of_ble_eq_true rfl⟩ rfl (fun H locs hG => ?_)
    refine lv_icmp_eq (tgt := 1417) C.1 C.2.1 dW_law_584 (by decide) (fun _ => ?_) (fun q => absurd rfl q)
    exact hgo z2 H locs hI2 hG
  by_cases q13 : w = 13
  · refine rSwT C dW_law_33 13 q13 (by decide) (off := 556) (tgt := 589) (by decide) (by decide) ?_
    obtain ⟨r, z1, z2, e1, e2, hI2⟩ := hstep.2.2.2.2.2.2.2.2.2.2.2.2.2.1 z (xs (nI i + 1).toNatClampNeg) (xs (nI i + 2).toNatClampNeg) (xs (nI i + 3).toNatClampNeg) hInv
    refine rAload_n C dW_law_589 hl 2 rfl ?_
    refine rAload_n C dW_law_590 hl 3 rfl ?_
    refine rIload_n C dW_law_591 hl 0 rfl ?_
    refine lv_iconst (v := 1) C.1 C.2.1 dW_law_592 (by decide) ?_
    refine lv_iadd C.1 C.2.1 dW_law_593 ?_
    refine va_sld C.1 C.2.1 hX hbl hbA hG.2.2 (hin 1 (by decide) 1 rfl) dW_law_594 ?_
    refine rAload_n C dW_law_595 hl 3 rfl ?_
    refine rIload_n C dW_law_596 hl 0 rfl ?_
    refine lv_iconst (v := 2) C.1 C.2.1 dW_law_597 (by decide) ?_
    refine lv_iadd C.1 C.2.1 dW_law_598 ?_
    refine va_sld C.1 C.2.1 hX hbl hbA hG.2.2 (hin 2 (by decide) 2 rfl) dW_law_599 ?_
    refine rAload_n C dW_law_600 hl 3 rfl ?_
    refine rIload_n C dW_law_601 hl 0 rfl ?_
    refine lv_iconst (v := 3) C.1 C.2.1 dW_law_602 (by decide) ?_
    refine lv_iadd C.1 C.2.1 dW_law_603 ?_
    refine va_sld C.1 C.2.1 hX hbl hbA hG.2.2 (hin 3 (by decide) 3 rfl) dW_law_604 ?_
    refine rLCi [.int (xs (nI i + 1).toNatClampNeg), .int (xs (nI i + 2).toNatClampNeg), .int (xs (nI i + 3).toNatClampNeg)] [] C hG (cS_often (cI99) e1) mvS_often k_578 ⟨Nat.le_of_ble_eq_true rfl, Nat.le_of_ble_eq_true rfl⟩ ⟨rfl, rfl⟩ (rRecv C hG (cI99 0 (by decide)) e_0 rfl) rfl hl.1 (Nat.le_of_ble_eq_true rfl) dW_law_605 ⟨Nat.le_of_ble_eq_true rfl, Nat.le_of_ble_eq_true rfl⟩ rfl (fun H locs hG => ?_)
    refine rAload_n C dW_law_608 hl 1 rfl ?_
    refine rAload_n C dW_law_609 hl 3 rfl ?_
    refine rIload_n C dW_law_610 hl 0 rfl ?_
    refine lv_iconst (v := 1) C.1 C.2.1 dW_law_611 (by decide) ?_
    refine lv_iadd C.1 C.2.1 dW_law_612 ?_
    refine va_sld C.1 C.2.1 hX hbl hbA hG.2.2 (hin 1 (by decide) 1 rfl) dW_law_613 ?_
    refine rAload_n C dW_law_614 hl 3 rfl ?_
    refine rIload_n C dW_law_615 hl 0 rfl ?_
    refine lv_iconst (v := 2) C.1 C.2.1 dW_law_616 (by decide) ?_
    refine lv_iadd C.1 C.2.1 dW_law_617 ?_
    refine va_sld C.1 C.2.1 hX hbl hbA hG.2.2 (hin 2 (by decide) 2 rfl) dW_law_618 ?_
    refine rAload_n C dW_law_619 hl 3 rfl ?_
    refine rIload_n C dW_law_620 hl 0 rfl ?_
    refine lv_iconst (v := 3) C.1 C.2.1 dW_law_621 (by decide) ?_
    refine lv_iadd C.1 C.2.1 dW_law_622 ?_
    refine va_sld C.1 C.2.1 hX hbl hbA hG.2.2 (hin 3 (by decide) 3 rfl) dW_law_623 ?_
    refine rLCi [.int (xs (nI i + 1).toNatClampNeg), .int (xs (nI i + 2).toNatClampNeg), .int (xs (nI i + 3).toNatClampNeg)] [.int r] C hG (cM_often (mI99) e2) mvM_often k_1053 ⟨Nat.le_of_ble_eq_true rfl, Nat.le_of_ble_eq_true rfl⟩ ⟨rfl, rfl⟩ (rRecv C hG (mI99 78 (by decide) (by decide)) e_78 rfl) rfl hl.1 (Nat.le_of_ble_eq_true rfl) dW_law_624 ⟨Nat.le_of_ble_eq_true rfl, Nat.le_of_ble_eq_true rfl⟩ rfl (fun H locs hG => ?_)
    refine lv_icmp_eq (tgt := 1417) C.1 C.2.1 dW_law_627 (by decide) (fun _ => ?_) (fun q => absurd rfl q)
    exact hgo z2 H locs hI2 hG
  by_cases q14 : w = 14
  · refine rSwT C dW_law_33 14 q14 (by decide) (off := 599) (tgt := 632) (by decide) (by decide) ?_
    obtain ⟨r, z1, z2, e1, e2, hI2⟩ := hstep.2.2.2.2.2.2.2.2.2.2.2.2.2.2.1 z (xs (nI i + 1).toNatClampNeg) (xs (nI i + 2).toNatClampNeg) hInv
    refine rAload_n C dW_law_632 hl 2 rfl ?_
    refine rAload_n C dW_law_633 hl 3 rfl ?_
    refine rIload_n C dW_law_634 hl 0 rfl ?_
    refine lv_iconst (v := 1) C.1 C.2.1 dW_law_635 (by decide) ?_
    refine lv_iadd C.1 C.2.1 dW_law_636 ?_
    refine va_sld C.1 C.2.1 hX hbl hbA hG.2.2 (hin 1 (by decide) 1 rfl) dW_law_637 ?_
    refine rAload_n C dW_law_638 hl 3 rfl ?_
    refine rIload_n C dW_law_639 hl 0 rfl ?_
    refine lv_iconst (v := 2) C.1 C.2.1 dW_law_640 (by decide) ?_
    refine lv_iadd C.1 C.2.1 dW_law_641 ?_
    refine va_sld C.1 C.2.1 hX hbl hbA hG.2.2 (hin 2 (by decide) 2 rfl) dW_law_642 ?_
    refine rLCi [.int (xs (nI i + 1).toNatClampNeg), .int (xs (nI i + 2).toNatClampNeg)] [] C hG (cS_gap (cI99) e1) mvS_gap k_582 ⟨Nat.le_of_ble_eq_true rfl, Nat.le_of_ble_eq_true rfl⟩ ⟨rfl, rfl⟩ (rRecv C hG (cI99 0 (by decide)) e_0 rfl) rfl hl.1 (Nat.le_of_ble_eq_true rfl) dW_law_643 ⟨Nat.le_of_ble_eq_true rfl, Nat.le_of_ble_eq_true rfl⟩ rfl (fun H locs hG => ?_)
    refine rAload_n C dW_law_646 hl 1 rfl ?_
    refine rAload_n C dW_law_647 hl 3 rfl ?_
    refine rIload_n C dW_law_648 hl 0 rfl ?_
    refine lv_iconst (v := 1) C.1 C.2.1 dW_law_649 (by decide) ?_
    refine lv_iadd C.1 C.2.1 dW_law_650 ?_
    refine va_sld C.1 C.2.1 hX hbl hbA hG.2.2 (hin 1 (by decide) 1 rfl) dW_law_651 ?_
    refine rAload_n C dW_law_652 hl 3 rfl ?_
    refine rIload_n C dW_law_653 hl 0 rfl ?_
    refine lv_iconst (v := 2) C.1 C.2.1 dW_law_654 (by decide) ?_
    refine lv_iadd C.1 C.2.1 dW_law_655 ?_
    refine va_sld C.1 C.2.1 hX hbl hbA hG.2.2 (hin 2 (by decide) 2 rfl) dW_law_656 ?_
    refine rLCi [.int (xs (nI i + 1).toNatClampNeg), .int (xs (nI i + 2).toNatClampNeg)] [.int r] C hG (cM_gap (mI99) e2) mvM_gap k_1057 ⟨Nat.le_of_ble_eq_true rfl, Nat.le_of_ble_eq_true rfl⟩ ⟨rfl, rfl⟩ (rRecv C hG (mI99 78 (by decide) (by decide)) e_78 rfl) rfl hl.1 (Nat.le_of_ble_eq_true rfl) dW_law_657 ⟨Nat.le_of_ble_eq_true rfl, Nat.le_of_ble_eq_true rfl⟩ rfl (fun H locs hG => ?_)
    refine lv_icmp_eq (tgt := 1417) C.1 C.2.1 dW_law_660 (by decide) (fun _ => ?_) (fun q => absurd rfl q)
    exact hgo z2 H locs hI2 hG
  by_cases q15 : w = 15
  · refine rSwT C dW_law_33 15 q15 (by decide) (off := 632) (tgt := 665) (by decide) (by decide) ?_
    obtain ⟨r, z1, z2, e1, e2, hI2⟩ := hstep.2.2.2.2.2.2.2.2.2.2.2.2.2.2.2.1 z (xs (nI i + 1).toNatClampNeg) (xs (nI i + 2).toNatClampNeg) (xs (nI i + 3).toNatClampNeg) hInv
    refine rAload_n C dW_law_665 hl 2 rfl ?_
    refine rAload_n C dW_law_666 hl 3 rfl ?_
    refine rIload_n C dW_law_667 hl 0 rfl ?_
    refine lv_iconst (v := 1) C.1 C.2.1 dW_law_668 (by decide) ?_
    refine lv_iadd C.1 C.2.1 dW_law_669 ?_
    refine va_sld C.1 C.2.1 hX hbl hbA hG.2.2 (hin 1 (by decide) 1 rfl) dW_law_670 ?_
    refine rAload_n C dW_law_671 hl 3 rfl ?_
    refine rIload_n C dW_law_672 hl 0 rfl ?_
    refine lv_iconst (v := 2) C.1 C.2.1 dW_law_673 (by decide) ?_
    refine lv_iadd C.1 C.2.1 dW_law_674 ?_
    refine va_sld C.1 C.2.1 hX hbl hbA hG.2.2 (hin 2 (by decide) 2 rfl) dW_law_675 ?_
    refine rAload_n C dW_law_676 hl 3 rfl ?_
    refine rIload_n C dW_law_677 hl 0 rfl ?_
    refine lv_iconst (v := 3) C.1 C.2.1 dW_law_678 (by decide) ?_
    refine lv_iadd C.1 C.2.1 dW_law_679 ?_
    refine va_sld C.1 C.2.1 hX hbl hbA hG.2.2 (hin 3 (by decide) 3 rfl) dW_law_680 ?_
    refine rLCi [.int (xs (nI i + 1).toNatClampNeg), .int (xs (nI i + 2).toNatClampNeg), .int (xs (nI i + 3).toNatClampNeg)] [] C hG (cS_stands (cI99) e1) mvS_stands k_598 ⟨Nat.le_of_ble_eq_true rfl, Nat.le_of_ble_eq_true rfl⟩ ⟨rfl, rfl⟩ (rRecv C hG (cI99 0 (by decide)) e_0 rfl) rfl hl.1 (Nat.le_of_ble_eq_true rfl) dW_law_681 ⟨Nat.le_of_ble_eq_true rfl, Nat.le_of_ble_eq_true rfl⟩ rfl (fun H locs hG => ?_)
    refine rAload_n C dW_law_684 hl 1 rfl ?_
    refine rAload_n C dW_law_685 hl 3 rfl ?_
    refine rIload_n C dW_law_686 hl 0 rfl ?_
    refine lv_iconst (v := 1) C.1 C.2.1 dW_law_687 (by decide) ?_
    refine lv_iadd C.1 C.2.1 dW_law_688 ?_
    refine va_sld C.1 C.2.1 hX hbl hbA hG.2.2 (hin 1 (by decide) 1 rfl) dW_law_689 ?_
    refine rAload_n C dW_law_690 hl 3 rfl ?_
    refine rIload_n C dW_law_691 hl 0 rfl ?_
    refine lv_iconst (v := 2) C.1 C.2.1 dW_law_692 (by decide) ?_
    refine lv_iadd C.1 C.2.1 dW_law_693 ?_
    refine va_sld C.1 C.2.1 hX hbl hbA hG.2.2 (hin 2 (by decide) 2 rfl) dW_law_694 ?_
    refine rAload_n C dW_law_695 hl 3 rfl ?_
    refine rIload_n C dW_law_696 hl 0 rfl ?_
    refine lv_iconst (v := 3) C.1 C.2.1 dW_law_697 (by decide) ?_
    refine lv_iadd C.1 C.2.1 dW_law_698 ?_
    refine va_sld C.1 C.2.1 hX hbl hbA hG.2.2 (hin 3 (by decide) 3 rfl) dW_law_699 ?_
    refine rLCi [.int (xs (nI i + 1).toNatClampNeg), .int (xs (nI i + 2).toNatClampNeg), .int (xs (nI i + 3).toNatClampNeg)] [.int r] C hG (cM_stands (mI99) e2) mvM_stands k_1065 ⟨Nat.le_of_ble_eq_true rfl, Nat.le_of_ble_eq_true rfl⟩ ⟨rfl, rfl⟩ (rRecv C hG (mI99 78 (by decide) (by decide)) e_78 rfl) rfl hl.1 (Nat.le_of_ble_eq_true rfl) dW_law_700 ⟨Nat.le_of_ble_eq_true rfl, Nat.le_of_ble_eq_true rfl⟩ rfl (fun H locs hG => ?_)
    refine lv_icmp_eq (tgt := 1417) C.1 C.2.1 dW_law_703 (by decide) (fun _ => ?_) (fun q => absurd rfl q)
    exact hgo z2 H locs hI2 hG
  by_cases q16 : w = 16
  · refine rSwT C dW_law_33 16 q16 (by decide) (off := 675) (tgt := 708) (by decide) (by decide) ?_
    obtain ⟨r, z1, z2, e1, e2, hI2⟩ := hstep.2.2.2.2.2.2.2.2.2.2.2.2.2.2.2.2.1 z (xs (nI i + 1).toNatClampNeg) (xs (nI i + 2).toNatClampNeg) hInv
    refine rAload_n C dW_law_708 hl 2 rfl ?_
    refine rAload_n C dW_law_709 hl 3 rfl ?_
    refine rIload_n C dW_law_710 hl 0 rfl ?_
    refine lv_iconst (v := 1) C.1 C.2.1 dW_law_711 (by decide) ?_
    refine lv_iadd C.1 C.2.1 dW_law_712 ?_
    refine va_sld C.1 C.2.1 hX hbl hbA hG.2.2 (hin 1 (by decide) 1 rfl) dW_law_713 ?_
    refine rAload_n C dW_law_714 hl 3 rfl ?_
    refine rIload_n C dW_law_715 hl 0 rfl ?_
    refine lv_iconst (v := 2) C.1 C.2.1 dW_law_716 (by decide) ?_
    refine lv_iadd C.1 C.2.1 dW_law_717 ?_
    refine va_sld C.1 C.2.1 hX hbl hbA hG.2.2 (hin 2 (by decide) 2 rfl) dW_law_718 ?_
    refine rLCi [.int (xs (nI i + 1).toNatClampNeg), .int (xs (nI i + 2).toNatClampNeg)] [] C hG (cS_tempo (cI99) e1) mvS_tempo k_602 ⟨Nat.le_of_ble_eq_true rfl, Nat.le_of_ble_eq_true rfl⟩ ⟨rfl, rfl⟩ (rRecv C hG (cI99 0 (by decide)) e_0 rfl) rfl hl.1 (Nat.le_of_ble_eq_true rfl) dW_law_719 ⟨Nat.le_of_ble_eq_true rfl, Nat.le_of_ble_eq_true rfl⟩ rfl (fun H locs hG => ?_)
    refine rAload_n C dW_law_722 hl 1 rfl ?_
    refine rAload_n C dW_law_723 hl 3 rfl ?_
    refine rIload_n C dW_law_724 hl 0 rfl ?_
    refine lv_iconst (v := 1) C.1 C.2.1 dW_law_725 (by decide) ?_
    refine lv_iadd C.1 C.2.1 dW_law_726 ?_
    refine va_sld C.1 C.2.1 hX hbl hbA hG.2.2 (hin 1 (by decide) 1 rfl) dW_law_727 ?_
    refine rAload_n C dW_law_728 hl 3 rfl ?_
    refine rIload_n C dW_law_729 hl 0 rfl ?_
    refine lv_iconst (v := 2) C.1 C.2.1 dW_law_730 (by decide) ?_
    refine lv_iadd C.1 C.2.1 dW_law_731 ?_
    refine va_sld C.1 C.2.1 hX hbl hbA hG.2.2 (hin 2 (by decide) 2 rfl) dW_law_732 ?_
    refine rLCi [.int (xs (nI i + 1).toNatClampNeg), .int (xs (nI i + 2).toNatClampNeg)] [.int r] C hG (cM_tempo (mI99) e2) mvM_tempo k_1069 ⟨Nat.le_of_ble_eq_true rfl, Nat.le_of_ble_eq_true rfl⟩ ⟨rfl, rfl⟩ (rRecv C hG (mI99 78 (by decide) (by decide)) e_78 rfl) rfl hl.1 (Nat.le_of_ble_eq_true rfl) dW_law_733 ⟨Nat.le_of_ble_eq_true rfl, Nat.le_of_ble_eq_true rfl⟩ rfl (fun H locs hG => ?_)
    refine lv_icmp_eq (tgt := 1417) C.1 C.2.1 dW_law_736 (by decide) (fun _ => ?_) (fun q => absurd rfl q)
    exact hgo z2 H locs hI2 hG
  by_cases q17 : w = 17
  · refine rSwT C dW_law_33 17 q17 (by decide) (off := 708) (tgt := 741) (by decide) (by decide) ?_
    obtain ⟨r, z1, z2, e1, e2, hI2⟩ := hstep.2.2.2.2.2.2.2.2.2.2.2.2.2.2.2.2.2.1 z (xs (nI i + 1).toNatClampNeg) (xs (nI i + 2).toNatClampNeg) hInv
    refine rAload_n C dW_law_741 hl 2 rfl ?_
    refine rAload_n C dW_law_742 hl 3 rfl ?_
    refine rIload_n C dW_law_743 hl 0 rfl ?_
    refine lv_iconst (v := 1) C.1 C.2.1 dW_law_744 (by decide) ?_
    refine lv_iadd C.1 C.2.1 dW_law_745 ?_
    refine va_sld C.1 C.2.1 hX hbl hbA hG.2.2 (hin 1 (by decide) 1 rfl) dW_law_746 ?_
    refine rAload_n C dW_law_747 hl 3 rfl ?_
    refine rIload_n C dW_law_748 hl 0 rfl ?_
    refine lv_iconst (v := 2) C.1 C.2.1 dW_law_749 (by decide) ?_
    refine lv_iadd C.1 C.2.1 dW_law_750 ?_
    refine va_sld C.1 C.2.1 hX hbl hbA hG.2.2 (hin 2 (by decide) 2 rfl) dW_law_751 ?_
    refine rLCi [.int (xs (nI i + 1).toNatClampNeg), .int (xs (nI i + 2).toNatClampNeg)] [] C hG (cS_order (cI99) e1) mvS_order k_606 ⟨Nat.le_of_ble_eq_true rfl, Nat.le_of_ble_eq_true rfl⟩ ⟨rfl, rfl⟩ (rRecv C hG (cI99 0 (by decide)) e_0 rfl) rfl hl.1 (Nat.le_of_ble_eq_true rfl) dW_law_752 ⟨Nat.le_of_ble_eq_true rfl, Nat.le_of_ble_eq_true rfl⟩ rfl (fun H locs hG => ?_)
    refine rAload_n C dW_law_755 hl 1 rfl ?_
    refine rAload_n C dW_law_756 hl 3 rfl ?_
    refine rIload_n C dW_law_757 hl 0 rfl ?_
    refine lv_iconst (v := 1) C.1 C.2.1 dW_law_758 (by decide) ?_
    refine lv_iadd C.1 C.2.1 dW_law_759 ?_
    refine va_sld C.1 C.2.1 hX hbl hbA hG.2.2 (hin 1 (by decide) 1 rfl) dW_law_760 ?_
    refine rAload_n C dW_law_761 hl 3 rfl ?_
    refine rIload_n C dW_law_762 hl 0 rfl ?_
    refine lv_iconst (v := 2) C.1 C.2.1 dW_law_763 (by decide) ?_
    refine lv_iadd C.1 C.2.1 dW_law_764 ?_
    refine va_sld C.1 C.2.1 hX hbl hbA hG.2.2 (hin 2 (by decide) 2 rfl) dW_law_765 ?_
    refine rLCi [.int (xs (nI i + 1).toNatClampNeg), .int (xs (nI i + 2).toNatClampNeg)] [.int r] C hG (cM_order (mI99) e2) mvM_order k_1073 ⟨Nat.le_of_ble_eq_true rfl, Nat.le_of_ble_eq_true rfl⟩ ⟨rfl, rfl⟩ (rRecv C hG (mI99 78 (by decide) (by decide)) e_78 rfl) rfl hl.1 (Nat.le_of_ble_eq_true rfl) dW_law_766 ⟨Nat.le_of_ble_eq_true rfl, Nat.le_of_ble_eq_true rfl⟩ rfl (fun H locs hG => ?_)
    refine lv_icmp_eq (tgt := 1417) C.1 C.2.1 dW_law_769 (by decide) (fun _ => ?_) (fun q => absurd rfl q)
    exact hgo z2 H locs hI2 hG
  by_cases q18 : w = 18
  · refine rSwT C dW_law_33 18 q18 (by decide) (off := 741) (tgt := 774) (by decide) (by decide) ?_
    obtain ⟨r, z1, z2, e1, e2, hI2⟩ := hstep.2.2.2.2.2.2.2.2.2.2.2.2.2.2.2.2.2.2.1 z (xs (nI i + 1).toNatClampNeg) (xs (nI i + 2).toNatClampNeg) hInv
    refine rAload_n C dW_law_774 hl 2 rfl ?_
    refine rAload_n C dW_law_775 hl 3 rfl ?_
    refine rIload_n C dW_law_776 hl 0 rfl ?_
    refine lv_iconst (v := 1) C.1 C.2.1 dW_law_777 (by decide) ?_
    refine lv_iadd C.1 C.2.1 dW_law_778 ?_
    refine va_sld C.1 C.2.1 hX hbl hbA hG.2.2 (hin 1 (by decide) 1 rfl) dW_law_779 ?_
    refine rAload_n C dW_law_780 hl 3 rfl ?_
    refine rIload_n C dW_law_781 hl 0 rfl ?_
    refine lv_iconst (v := 2) C.1 C.2.1 dW_law_782 (by decide) ?_
    refine lv_iadd C.1 C.2.1 dW_law_783 ?_
    refine va_sld C.1 C.2.1 hX hbl hbA hG.2.2 (hin 2 (by decide) 2 rfl) dW_law_784 ?_
    refine rLCl [.int (xs (nI i + 1).toNatClampNeg), .int (xs (nI i + 2).toNatClampNeg)] [] C hG (cS_mean (cI99) e1) mvS_mean k_631 ⟨Nat.le_of_ble_eq_true rfl, Nat.le_of_ble_eq_true rfl⟩ ⟨rfl, rfl⟩ (rRecv C hG (cI99 0 (by decide)) e_0 rfl) rfl hl.1 (Nat.le_of_ble_eq_true rfl) dW_law_785 ⟨Nat.le_of_ble_eq_true rfl, Nat.le_of_ble_eq_true rfl⟩ rfl (fun H locs hG => ?_)
    refine rAload_n C dW_law_788 hl 1 rfl ?_
    refine rAload_n C dW_law_789 hl 3 rfl ?_
    refine rIload_n C dW_law_790 hl 0 rfl ?_
    refine lv_iconst (v := 1) C.1 C.2.1 dW_law_791 (by decide) ?_
    refine lv_iadd C.1 C.2.1 dW_law_792 ?_
    refine va_sld C.1 C.2.1 hX hbl hbA hG.2.2 (hin 1 (by decide) 1 rfl) dW_law_793 ?_
    refine rAload_n C dW_law_794 hl 3 rfl ?_
    refine rIload_n C dW_law_795 hl 0 rfl ?_
    refine lv_iconst (v := 2) C.1 C.2.1 dW_law_796 (by decide) ?_
    refine lv_iadd C.1 C.2.1 dW_law_797 ?_
    refine va_sld C.1 C.2.1 hX hbl hbA hG.2.2 (hin 2 (by decide) 2 rfl) dW_law_798 ?_
    refine rLCl [.int (xs (nI i + 1).toNatClampNeg), .int (xs (nI i + 2).toNatClampNeg)] [.long r] C hG (cM_mean (mI99) e2) mvM_mean k_1085 ⟨Nat.le_of_ble_eq_true rfl, Nat.le_of_ble_eq_true rfl⟩ ⟨rfl, rfl⟩ (rRecv C hG (mI99 78 (by decide) (by decide)) e_78 rfl) rfl hl.1 (Nat.le_of_ble_eq_true rfl) dW_law_799 ⟨Nat.le_of_ble_eq_true rfl, Nat.le_of_ble_eq_true rfl⟩ rfl (fun H locs hG => ?_)
    refine W.lcmp C.1 C.2.1 dW_law_802 ?_
    refine lv_if_eq (tgt := 1417) C.1 C.2.1 dW_law_803 (by decide) (fun _ => ?_) (fun q => absurd (lg_cmp_self r) q)
    exact hgo z2 H locs hI2 hG
  by_cases q19 : w = 19
  · refine rSwT C dW_law_33 19 q19 (by decide) (off := 775) (tgt := 808) (by decide) (by decide) ?_
    obtain ⟨r, z1, z2, e1, e2, hI2⟩ := hstep.2.2.2.2.2.2.2.2.2.2.2.2.2.2.2.2.2.2.2.1 z (xs (nI i + 1).toNatClampNeg) (xs (nI i + 2).toNatClampNeg) hInv
    refine rAload_n C dW_law_808 hl 2 rfl ?_
    refine rAload_n C dW_law_809 hl 3 rfl ?_
    refine rIload_n C dW_law_810 hl 0 rfl ?_
    refine lv_iconst (v := 1) C.1 C.2.1 dW_law_811 (by decide) ?_
    refine lv_iadd C.1 C.2.1 dW_law_812 ?_
    refine va_sld C.1 C.2.1 hX hbl hbA hG.2.2 (hin 1 (by decide) 1 rfl) dW_law_813 ?_
    refine rAload_n C dW_law_814 hl 3 rfl ?_
    refine rIload_n C dW_law_815 hl 0 rfl ?_
    refine lv_iconst (v := 2) C.1 C.2.1 dW_law_816 (by decide) ?_
    refine lv_iadd C.1 C.2.1 dW_law_817 ?_
    refine va_sld C.1 C.2.1 hX hbl hbA hG.2.2 (hin 2 (by decide) 2 rfl) dW_law_818 ?_
    refine rLCi [.int (xs (nI i + 1).toNatClampNeg), .int (xs (nI i + 2).toNatClampNeg)] [] C hG (cS_judge (cI99) e1) mvS_judge k_639 ⟨Nat.le_of_ble_eq_true rfl, Nat.le_of_ble_eq_true rfl⟩ ⟨rfl, rfl⟩ (rRecv C hG (cI99 0 (by decide)) e_0 rfl) rfl hl.1 (Nat.le_of_ble_eq_true rfl) dW_law_819 ⟨Nat.le_of_ble_eq_true rfl, Nat.le_of_ble_eq_true rfl⟩ rfl (fun H locs hG => ?_)
    refine rAload_n C dW_law_822 hl 1 rfl ?_
    refine rAload_n C dW_law_823 hl 3 rfl ?_
    refine rIload_n C dW_law_824 hl 0 rfl ?_
    refine lv_iconst (v := 1) C.1 C.2.1 dW_law_825 (by decide) ?_
    refine lv_iadd C.1 C.2.1 dW_law_826 ?_
    refine va_sld C.1 C.2.1 hX hbl hbA hG.2.2 (hin 1 (by decide) 1 rfl) dW_law_827 ?_
    refine rAload_n C dW_law_828 hl 3 rfl ?_
    refine rIload_n C dW_law_829 hl 0 rfl ?_
    refine lv_iconst (v := 2) C.1 C.2.1 dW_law_830 (by decide) ?_
    refine lv_iadd C.1 C.2.1 dW_law_831 ?_
    refine va_sld C.1 C.2.1 hX hbl hbA hG.2.2 (hin 2 (by decide) 2 rfl) dW_law_832 ?_
    refine rLCi [.int (xs (nI i + 1).toNatClampNeg), .int (xs (nI i + 2).toNatClampNeg)] [.int r] C hG (cM_judge (mI99) e2) mvM_judge k_1093 ⟨Nat.le_of_ble_eq_true rfl, Nat.le_of_ble_eq_true rfl⟩ ⟨rfl, rfl⟩ (rRecv C hG (mI99 78 (by decide) (by decide)) e_78 rfl) rfl hl.1 (Nat.le_of_ble_eq_true rfl) dW_law_833 ⟨Nat.le_of_ble_eq_true rfl, Nat.le_of_ble_eq_true rfl⟩ rfl (fun H locs hG => ?_)
    refine lv_icmp_eq (tgt := 1417) C.1 C.2.1 dW_law_836 (by decide) (fun _ => ?_) (fun q => absurd rfl q)
    exact hgo z2 H locs hI2 hG
  by_cases q20 : w = 20
  · refine rSwT C dW_law_33 20 q20 (by decide) (off := 808) (tgt := 841) (by decide) (by decide) ?_
    obtain ⟨r, z1, z2, e1, e2, hI2⟩ := hstep.2.2.2.2.2.2.2.2.2.2.2.2.2.2.2.2.2.2.2.2.1 z (xs (nI i + 1).toNatClampNeg) (xs (nI i + 2).toNatClampNeg) (xs (nI i + 3).toNatClampNeg) hInv
    refine rAload_n C dW_law_841 hl 2 rfl ?_
    refine rAload_n C dW_law_842 hl 3 rfl ?_
    refine rIload_n C dW_law_843 hl 0 rfl ?_
    refine lv_iconst (v := 1) C.1 C.2.1 dW_law_844 (by decide) ?_
    refine lv_iadd C.1 C.2.1 dW_law_845 ?_
    refine va_sld C.1 C.2.1 hX hbl hbA hG.2.2 (hin 1 (by decide) 1 rfl) dW_law_846 ?_
    refine rAload_n C dW_law_847 hl 3 rfl ?_
    refine rIload_n C dW_law_848 hl 0 rfl ?_
    refine lv_iconst (v := 2) C.1 C.2.1 dW_law_849 (by decide) ?_
    refine lv_iadd C.1 C.2.1 dW_law_850 ?_
    refine va_sld C.1 C.2.1 hX hbl hbA hG.2.2 (hin 2 (by decide) 2 rfl) dW_law_851 ?_
    refine rAload_n C dW_law_852 hl 3 rfl ?_
    refine rIload_n C dW_law_853 hl 0 rfl ?_
    refine lv_iconst (v := 3) C.1 C.2.1 dW_law_854 (by decide) ?_
    refine lv_iadd C.1 C.2.1 dW_law_855 ?_
    refine va_sld C.1 C.2.1 hX hbl hbA hG.2.2 (hin 3 (by decide) 3 rfl) dW_law_856 ?_
    refine rLCi [.int (xs (nI i + 1).toNatClampNeg), .int (xs (nI i + 2).toNatClampNeg), .int (xs (nI i + 3).toNatClampNeg)] [] C hG (cS_kinds (cI99) e1) mvS_kinds k_659 ⟨Nat.le_of_ble_eq_true rfl, Nat.le_of_ble_eq_true rfl⟩ ⟨rfl, rfl⟩ (rRecv C hG (cI99 0 (by decide)) e_0 rfl) rfl hl.1 (Nat.le_of_ble_eq_true rfl) dW_law_857 ⟨Nat.le_of_ble_eq_true rfl, Nat.le_of_ble_eq_true rfl⟩ rfl (fun H locs hG => ?_)
    refine rAload_n C dW_law_860 hl 1 rfl ?_
    refine rAload_n C dW_law_861 hl 3 rfl ?_
    refine rIload_n C dW_law_862 hl 0 rfl ?_
    refine lv_iconst (v := 1) C.1 C.2.1 dW_law_863 (by decide) ?_
    refine lv_iadd C.1 C.2.1 dW_law_864 ?_
    refine va_sld C.1 C.2.1 hX hbl hbA hG.2.2 (hin 1 (by decide) 1 rfl) dW_law_865 ?_
    refine rAload_n C dW_law_866 hl 3 rfl ?_
    refine rIload_n C dW_law_867 hl 0 rfl ?_
    refine lv_iconst (v := 2) C.1 C.2.1 dW_law_868 (by decide) ?_
    refine lv_iadd C.1 C.2.1 dW_law_869 ?_
    refine va_sld C.1 C.2.1 hX hbl hbA hG.2.2 (hin 2 (by decide) 2 rfl) dW_law_870 ?_
    refine rAload_n C dW_law_871 hl 3 rfl ?_
    refine rIload_n C dW_law_872 hl 0 rfl ?_
    refine lv_iconst (v := 3) C.1 C.2.1 dW_law_873 (by decide) ?_
    refine lv_iadd C.1 C.2.1 dW_law_874 ?_
    refine va_sld C.1 C.2.1 hX hbl hbA hG.2.2 (hin 3 (by decide) 3 rfl) dW_law_875 ?_
    refine rLCi [.int (xs (nI i + 1).toNatClampNeg), .int (xs (nI i + 2).toNatClampNeg), .int (xs (nI i + 3).toNatClampNeg)] [.int r] C hG (cM_kinds (mI99) e2) mvM_kinds k_1109 ⟨Nat.le_of_ble_eq_true rfl, Nat.le_of_ble_eq_true rfl⟩ ⟨rfl, rfl⟩ (rRecv C hG (mI99 78 (by decide) (by decide)) e_78 rfl) rfl hl.1 (Nat.le_of_ble_eq_true rfl) dW_law_876 ⟨Nat.le_of_ble_eq_true rfl, Nat.le_of_ble_eq_true rfl⟩ rfl (fun H locs hG => ?_)
    refine lv_icmp_eq (tgt := 1417) C.1 C.2.1 dW_law_879 (by decide) (fun _ => ?_) (fun q => absurd rfl q)
    exact hgo z2 H locs hI2 hG
  by_cases q21 : w = 21
  · refine rSwT C dW_law_33 21 q21 (by decide) (off := 851) (tgt := 884) (by decide) (by decide) ?_
    obtain ⟨r, z1, z2, e1, e2, hI2⟩ := hstep.2.2.2.2.2.2.2.2.2.2.2.2.2.2.2.2.2.2.2.2.2.1 z (xs (nI i + 1).toNatClampNeg) (xs (nI i + 2).toNatClampNeg) (xs (nI i + 3).toNatClampNeg) hInv
    refine rAload_n C dW_law_884 hl 2 rfl ?_
    refine rAload_n C dW_law_885 hl 3 rfl ?_
    refine rIload_n C dW_law_886 hl 0 rfl ?_
    refine lv_iconst (v := 1) C.1 C.2.1 dW_law_887 (by decide) ?_
    refine lv_iadd C.1 C.2.1 dW_law_888 ?_
    refine va_sld C.1 C.2.1 hX hbl hbA hG.2.2 (hin 1 (by decide) 1 rfl) dW_law_889 ?_
    refine rAload_n C dW_law_890 hl 3 rfl ?_
    refine rIload_n C dW_law_891 hl 0 rfl ?_
    refine lv_iconst (v := 2) C.1 C.2.1 dW_law_892 (by decide) ?_
    refine lv_iadd C.1 C.2.1 dW_law_893 ?_
    refine va_sld C.1 C.2.1 hX hbl hbA hG.2.2 (hin 2 (by decide) 2 rfl) dW_law_894 ?_
    refine rAload_n C dW_law_895 hl 3 rfl ?_
    refine rIload_n C dW_law_896 hl 0 rfl ?_
    refine lv_iconst (v := 3) C.1 C.2.1 dW_law_897 (by decide) ?_
    refine lv_iadd C.1 C.2.1 dW_law_898 ?_
    refine va_sld C.1 C.2.1 hX hbl hbA hG.2.2 (hin 3 (by decide) 3 rfl) dW_law_899 ?_
    refine rLCi [.int (xs (nI i + 1).toNatClampNeg), .int (xs (nI i + 2).toNatClampNeg), .int (xs (nI i + 3).toNatClampNeg)] [] C hG (cS_states (cI99) e1) mvS_states k_667 ⟨Nat.le_of_ble_eq_true rfl, Nat.le_of_ble_eq_true rfl⟩ ⟨rfl, rfl⟩ (rRecv C hG (cI99 0 (by decide)) e_0 rfl) rfl hl.1 (Nat.le_of_ble_eq_true rfl) dW_law_900 ⟨Nat.le_of_ble_eq_true rfl, Nat.le_of_ble_eq_true rfl⟩ rfl (fun H locs hG => ?_)
    refine rAload_n C dW_law_903 hl 1 rfl ?_
    refine rAload_n C dW_law_904 hl 3 rfl ?_
    refine rIload_n C dW_law_905 hl 0 rfl ?_
    refine lv_iconst (v := 1) C.1 C.2.1 dW_law_906 (by decide) ?_
    refine lv_iadd C.1 C.2.1 dW_law_907 ?_
    refine va_sld C.1 C.2.1 hX hbl hbA hG.2.2 (hin 1 (by decide) 1 rfl) dW_law_908 ?_
    refine rAload_n C dW_law_909 hl 3 rfl ?_
    refine rIload_n C dW_law_910 hl 0 rfl ?_
    refine lv_iconst (v := 2) C.1 C.2.1 dW_law_911 (by decide) ?_
    refine lv_iadd C.1 C.2.1 dW_law_912 ?_
    refine va_sld C.1 C.2.1 hX hbl hbA hG.2.2 (hin 2 (by decide) 2 rfl) dW_law_913 ?_
    refine rAload_n C dW_law_914 hl 3 rfl ?_
    refine rIload_n C dW_law_915 hl 0 rfl ?_
    refine lv_iconst (v := 3) C.1 C.2.1 dW_law_916 (by decide) ?_
    refine lv_iadd C.1 C.2.1 dW_law_917 ?_
    refine va_sld C.1 C.2.1 hX hbl hbA hG.2.2 (hin 3 (by decide) 3 rfl) dW_law_918 ?_
    refine rLCi [.int (xs (nI i + 1).toNatClampNeg), .int (xs (nI i + 2).toNatClampNeg), .int (xs (nI i + 3).toNatClampNeg)] [.int r] C hG (cM_states (mI99) e2) mvM_states k_1113 ⟨Nat.le_of_ble_eq_true rfl, Nat.le_of_ble_eq_true rfl⟩ ⟨rfl, rfl⟩ (rRecv C hG (mI99 78 (by decide) (by decide)) e_78 rfl) rfl hl.1 (Nat.le_of_ble_eq_true rfl) dW_law_919 ⟨Nat.le_of_ble_eq_true rfl, Nat.le_of_ble_eq_true rfl⟩ rfl (fun H locs hG => ?_)
    refine lv_icmp_eq (tgt := 1417) C.1 C.2.1 dW_law_922 (by decide) (fun _ => ?_) (fun q => absurd rfl q)
    exact hgo z2 H locs hI2 hG
  by_cases q22 : w = 22
  · refine rSwT C dW_law_33 22 q22 (by decide) (off := 894) (tgt := 927) (by decide) (by decide) ?_
    obtain ⟨r, z1, z2, e1, e2, hI2⟩ := hstep.2.2.2.2.2.2.2.2.2.2.2.2.2.2.2.2.2.2.2.2.2.2.1 z (xs (nI i + 1).toNatClampNeg) (xs (nI i + 2).toNatClampNeg) (xs (nI i + 3).toNatClampNeg) hInv
    refine rAload_n C dW_law_927 hl 2 rfl ?_
    refine rAload_n C dW_law_928 hl 3 rfl ?_
    refine rIload_n C dW_law_929 hl 0 rfl ?_
    refine lv_iconst (v := 1) C.1 C.2.1 dW_law_930 (by decide) ?_
    refine lv_iadd C.1 C.2.1 dW_law_931 ?_
    refine va_sld C.1 C.2.1 hX hbl hbA hG.2.2 (hin 1 (by decide) 1 rfl) dW_law_932 ?_
    refine rAload_n C dW_law_933 hl 3 rfl ?_
    refine rIload_n C dW_law_934 hl 0 rfl ?_
    refine lv_iconst (v := 2) C.1 C.2.1 dW_law_935 (by decide) ?_
    refine lv_iadd C.1 C.2.1 dW_law_936 ?_
    refine va_sld C.1 C.2.1 hX hbl hbA hG.2.2 (hin 2 (by decide) 2 rfl) dW_law_937 ?_
    refine rAload_n C dW_law_938 hl 3 rfl ?_
    refine rIload_n C dW_law_939 hl 0 rfl ?_
    refine lv_iconst (v := 3) C.1 C.2.1 dW_law_940 (by decide) ?_
    refine lv_iadd C.1 C.2.1 dW_law_941 ?_
    refine va_sld C.1 C.2.1 hX hbl hbA hG.2.2 (hin 3 (by decide) 3 rfl) dW_law_942 ?_
    refine rLCi [.int (xs (nI i + 1).toNatClampNeg), .int (xs (nI i + 2).toNatClampNeg), .int (xs (nI i + 3).toNatClampNeg)] [] C hG (cS_weary (cI99) e1) mvS_weary k_675 ⟨Nat.le_of_ble_eq_true rfl, Nat.le_of_ble_eq_true rfl⟩ ⟨rfl, rfl⟩ (rRecv C hG (cI99 0 (by decide)) e_0 rfl) rfl hl.1 (Nat.le_of_ble_eq_true rfl) dW_law_943 ⟨Nat.le_of_ble_eq_true rfl, Nat.le_of_ble_eq_true rfl⟩ rfl (fun H locs hG => ?_)
    refine rAload_n C dW_law_946 hl 1 rfl ?_
    refine rAload_n C dW_law_947 hl 3 rfl ?_
    refine rIload_n C dW_law_948 hl 0 rfl ?_
    refine lv_iconst (v := 1) C.1 C.2.1 dW_law_949 (by decide) ?_
    refine lv_iadd C.1 C.2.1 dW_law_950 ?_
    refine va_sld C.1 C.2.1 hX hbl hbA hG.2.2 (hin 1 (by decide) 1 rfl) dW_law_951 ?_
    refine rAload_n C dW_law_952 hl 3 rfl ?_
    refine rIload_n C dW_law_953 hl 0 rfl ?_
    refine lv_iconst (v := 2) C.1 C.2.1 dW_law_954 (by decide) ?_
    refine lv_iadd C.1 C.2.1 dW_law_955 ?_
    refine va_sld C.1 C.2.1 hX hbl hbA hG.2.2 (hin 2 (by decide) 2 rfl) dW_law_956 ?_
    refine rAload_n C dW_law_957 hl 3 rfl ?_
    refine rIload_n C dW_law_958 hl 0 rfl ?_
    refine lv_iconst (v := 3) C.1 C.2.1 dW_law_959 (by decide) ?_
    refine lv_iadd C.1 C.2.1 dW_law_960 ?_
    refine va_sld C.1 C.2.1 hX hbl hbA hG.2.2 (hin 3 (by decide) 3 rfl) dW_law_961 ?_
    refine rLCi [.int (xs (nI i + 1).toNatClampNeg), .int (xs (nI i + 2).toNatClampNeg), .int (xs (nI i + 3).toNatClampNeg)] [.int r] C hG (cM_weary (mI99) e2) mvM_weary k_1129 ⟨Nat.le_of_ble_eq_true rfl, Nat.le_of_ble_eq_true rfl⟩ ⟨rfl, rfl⟩ (rRecv C hG (mI99 78 (by decide) (by decide)) e_78 rfl) rfl hl.1 (Nat.le_of_ble_eq_true rfl) dW_law_962 ⟨Nat.le_of_ble_eq_true rfl, Nat.le_of_ble_eq_true rfl⟩ rfl (fun H locs hG => ?_)
    refine lv_icmp_eq (tgt := 1417) C.1 C.2.1 dW_law_965 (by decide) (fun _ => ?_) (fun q => absurd rfl q)
    exact hgo z2 H locs hI2 hG
  by_cases q23 : w = 23
  · refine rSwT C dW_law_33 23 q23 (by decide) (off := 937) (tgt := 970) (by decide) (by decide) ?_
    obtain ⟨r, z1, z2, e1, e2, hI2⟩ := hstep.2.2.2.2.2.2.2.2.2.2.2.2.2.2.2.2.2.2.2.2.2.2.2.1 z (xs (nI i + 1).toNatClampNeg) hInv
    refine rAload_n C dW_law_970 hl 2 rfl ?_
    refine rAload_n C dW_law_971 hl 3 rfl ?_
    refine rIload_n C dW_law_972 hl 0 rfl ?_
    refine lv_iconst (v := 1) C.1 C.2.1 dW_law_973 (by decide) ?_
    refine lv_iadd C.1 C.2.1 dW_law_974 ?_
    refine va_sld C.1 C.2.1 hX hbl hbA hG.2.2 (hin 1 (by decide) 1 rfl) dW_law_975 ?_
    refine rLCi [.int (xs (nI i + 1).toNatClampNeg)] [] C hG (cS_whose (cI99) e1) mvS_whose k_679 ⟨Nat.le_of_ble_eq_true rfl, Nat.le_of_ble_eq_true rfl⟩ ⟨rfl, rfl⟩ (rRecv C hG (cI99 0 (by decide)) e_0 rfl) rfl hl.1 (Nat.le_of_ble_eq_true rfl) dW_law_976 ⟨Nat.le_of_ble_eq_true rfl, Nat.le_of_ble_eq_true rfl⟩ rfl (fun H locs hG => ?_)
    refine rAload_n C dW_law_979 hl 1 rfl ?_
    refine rAload_n C dW_law_980 hl 3 rfl ?_
    refine rIload_n C dW_law_981 hl 0 rfl ?_
    refine lv_iconst (v := 1) C.1 C.2.1 dW_law_982 (by decide) ?_
    refine lv_iadd C.1 C.2.1 dW_law_983 ?_
    refine va_sld C.1 C.2.1 hX hbl hbA hG.2.2 (hin 1 (by decide) 1 rfl) dW_law_984 ?_
    refine rLCi [.int (xs (nI i + 1).toNatClampNeg)] [.int r] C hG (cM_whose (mI99) e2) mvM_whose k_1133 ⟨Nat.le_of_ble_eq_true rfl, Nat.le_of_ble_eq_true rfl⟩ ⟨rfl, rfl⟩ (rRecv C hG (mI99 78 (by decide) (by decide)) e_78 rfl) rfl hl.1 (Nat.le_of_ble_eq_true rfl) dW_law_985 ⟨Nat.le_of_ble_eq_true rfl, Nat.le_of_ble_eq_true rfl⟩ rfl (fun H locs hG => ?_)
    refine lv_icmp_eq (tgt := 1417) C.1 C.2.1 dW_law_988 (by decide) (fun _ => ?_) (fun q => absurd rfl q)
    exact hgo z2 H locs hI2 hG
  by_cases q24 : w = 24
  · refine rSwT C dW_law_33 24 q24 (by decide) (off := 960) (tgt := 993) (by decide) (by decide) ?_
    obtain ⟨r, z1, z2, e1, e2, hI2⟩ := hstep.2.2.2.2.2.2.2.2.2.2.2.2.2.2.2.2.2.2.2.2.2.2.2.2.1 z (xs (nI i + 1).toNatClampNeg) (xs (nI i + 2).toNatClampNeg) hInv
    refine rAload_n C dW_law_993 hl 2 rfl ?_
    refine rAload_n C dW_law_994 hl 3 rfl ?_
    refine rIload_n C dW_law_995 hl 0 rfl ?_
    refine lv_iconst (v := 1) C.1 C.2.1 dW_law_996 (by decide) ?_
    refine lv_iadd C.1 C.2.1 dW_law_997 ?_
    refine va_sld C.1 C.2.1 hX hbl hbA hG.2.2 (hin 1 (by decide) 1 rfl) dW_law_998 ?_
    refine rAload_n C dW_law_999 hl 3 rfl ?_
    refine rIload_n C dW_law_1000 hl 0 rfl ?_
    refine lv_iconst (v := 2) C.1 C.2.1 dW_law_1001 (by decide) ?_
    refine lv_iadd C.1 C.2.1 dW_law_1002 ?_
    refine va_sld C.1 C.2.1 hX hbl hbA hG.2.2 (hin 2 (by decide) 2 rfl) dW_law_1003 ?_
    refine rLCi [.int (xs (nI i + 1).toNatClampNeg), .int (xs (nI i + 2).toNatClampNeg)] [] C hG (cS_laws (cI99) e1) mvS_laws k_683 ⟨Nat.le_of_ble_eq_true rfl, Nat.le_of_ble_eq_true rfl⟩ ⟨rfl, rfl⟩ (rRecv C hG (cI99 0 (by decide)) e_0 rfl) rfl hl.1 (Nat.le_of_ble_eq_true rfl) dW_law_1004 ⟨Nat.le_of_ble_eq_true rfl, Nat.le_of_ble_eq_true rfl⟩ rfl (fun H locs hG => ?_)
    refine rAload_n C dW_law_1007 hl 1 rfl ?_
    refine rAload_n C dW_law_1008 hl 3 rfl ?_
    refine rIload_n C dW_law_1009 hl 0 rfl ?_
    refine lv_iconst (v := 1) C.1 C.2.1 dW_law_1010 (by decide) ?_
    refine lv_iadd C.1 C.2.1 dW_law_1011 ?_
    refine va_sld C.1 C.2.1 hX hbl hbA hG.2.2 (hin 1 (by decide) 1 rfl) dW_law_1012 ?_
    refine rAload_n C dW_law_1013 hl 3 rfl ?_
    refine rIload_n C dW_law_1014 hl 0 rfl ?_
    refine lv_iconst (v := 2) C.1 C.2.1 dW_law_1015 (by decide) ?_
    refine lv_iadd C.1 C.2.1 dW_law_1016 ?_
    refine va_sld C.1 C.2.1 hX hbl hbA hG.2.2 (hin 2 (by decide) 2 rfl) dW_law_1017 ?_
    refine rLCi [.int (xs (nI i + 1).toNatClampNeg), .int (xs (nI i + 2).toNatClampNeg)] [.int r] C hG (cM_laws (mI99) e2) mvM_laws k_1137 ⟨Nat.le_of_ble_eq_true rfl, Nat.le_of_ble_eq_true rfl⟩ ⟨rfl, rfl⟩ (rRecv C hG (mI99 78 (by decide) (by decide)) e_78 rfl) rfl hl.1 (Nat.le_of_ble_eq_true rfl) dW_law_1018 ⟨Nat.le_of_ble_eq_true rfl, Nat.le_of_ble_eq_true rfl⟩ rfl (fun H locs hG => ?_)
    refine lv_icmp_eq (tgt := 1417) C.1 C.2.1 dW_law_1021 (by decide) (fun _ => ?_) (fun q => absurd rfl q)
    exact hgo z2 H locs hI2 hG
  by_cases q25 : w = 25
  · refine rSwT C dW_law_33 25 q25 (by decide) (off := 993) (tgt := 1026) (by decide) (by decide) ?_
    obtain ⟨r, z1, z2, e1, e2, hI2⟩ := hstep.2.2.2.2.2.2.2.2.2.2.2.2.2.2.2.2.2.2.2.2.2.2.2.2.2.1 z (xs (nI i + 1).toNatClampNeg) (xs (nI i + 2).toNatClampNeg) (xs (nI i + 3).toNatClampNeg) hInv
    refine rAload_n C dW_law_1026 hl 2 rfl ?_
    refine rAload_n C dW_law_1027 hl 3 rfl ?_
    refine rIload_n C dW_law_1028 hl 0 rfl ?_
    refine lv_iconst (v := 1) C.1 C.2.1 dW_law_1029 (by decide) ?_
    refine lv_iadd C.1 C.2.1 dW_law_1030 ?_
    refine va_sld C.1 C.2.1 hX hbl hbA hG.2.2 (hin 1 (by decide) 1 rfl) dW_law_1031 ?_
    refine rAload_n C dW_law_1032 hl 3 rfl ?_
    refine rIload_n C dW_law_1033 hl 0 rfl ?_
    refine lv_iconst (v := 2) C.1 C.2.1 dW_law_1034 (by decide) ?_
    refine lv_iadd C.1 C.2.1 dW_law_1035 ?_
    refine va_sld C.1 C.2.1 hX hbl hbA hG.2.2 (hin 2 (by decide) 2 rfl) dW_law_1036 ?_
    refine rAload_n C dW_law_1037 hl 3 rfl ?_
    refine rIload_n C dW_law_1038 hl 0 rfl ?_
    refine lv_iconst (v := 3) C.1 C.2.1 dW_law_1039 (by decide) ?_
    refine lv_iadd C.1 C.2.1 dW_law_1040 ?_
    refine va_sld C.1 C.2.1 hX hbl hbA hG.2.2 (hin 3 (by decide) 3 rfl) dW_law_1041 ?_
    refine rLCi [.int (xs (nI i + 1).toNatClampNeg), .int (xs (nI i + 2).toNatClampNeg), .int (xs (nI i + 3).toNatClampNeg)] [] C hG (cS_film (cI99) e1) mvS_film k_687 ⟨Nat.le_of_ble_eq_true rfl, Nat.le_of_ble_eq_true rfl⟩ ⟨rfl, rfl⟩ (rRecv C hG (cI99 0 (by decide)) e_0 rfl) rfl hl.1 (Nat.le_of_ble_eq_true rfl) dW_law_1042 ⟨Nat.le_of_ble_eq_true rfl, Nat.le_of_ble_eq_true rfl⟩ rfl (fun H locs hG => ?_)
    refine rAload_n C dW_law_1045 hl 1 rfl ?_
    refine rAload_n C dW_law_1046 hl 3 rfl ?_
    refine rIload_n C dW_law_1047 hl 0 rfl ?_
    refine lv_iconst (v := 1) C.1 C.2.1 dW_law_1048 (by decide) ?_
    refine lv_iadd C.1 C.2.1 dW_law_1049 ?_
    refine va_sld C.1 C.2.1 hX hbl hbA hG.2.2 (hin 1 (by decide) 1 rfl) dW_law_1050 ?_
    refine rAload_n C dW_law_1051 hl 3 rfl ?_
    refine rIload_n C dW_law_1052 hl 0 rfl ?_
    refine lv_iconst (v := 2) C.1 C.2.1 dW_law_1053 (by decide) ?_
    refine lv_iadd C.1 C.2.1 dW_law_1054 ?_
    refine va_sld C.1 C.2.1 hX hbl hbA hG.2.2 (hin 2 (by decide) 2 rfl) dW_law_1055 ?_
    refine rAload_n C dW_law_1056 hl 3 rfl ?_
    refine rIload_n C dW_law_1057 hl 0 rfl ?_
    refine lv_iconst (v := 3) C.1 C.2.1 dW_law_1058 (by decide) ?_
    refine lv_iadd C.1 C.2.1 dW_law_1059 ?_
    refine va_sld C.1 C.2.1 hX hbl hbA hG.2.2 (hin 3 (by decide) 3 rfl) dW_law_1060 ?_
    refine rLCi [.int (xs (nI i + 1).toNatClampNeg), .int (xs (nI i + 2).toNatClampNeg), .int (xs (nI i + 3).toNatClampNeg)] [.int r] C hG (cM_film (mI99) e2) mvM_film k_1141 ⟨Nat.le_of_ble_eq_true rfl, Nat.le_of_ble_eq_true rfl⟩ ⟨rfl, rfl⟩ (rRecv C hG (mI99 78 (by decide) (by decide)) e_78 rfl) rfl hl.1 (Nat.le_of_ble_eq_true rfl) dW_law_1061 ⟨Nat.le_of_ble_eq_true rfl, Nat.le_of_ble_eq_true rfl⟩ rfl (fun H locs hG => ?_)
    refine lv_icmp_eq (tgt := 1417) C.1 C.2.1 dW_law_1064 (by decide) (fun _ => ?_) (fun q => absurd rfl q)
    exact hgo z2 H locs hI2 hG
  by_cases q26 : w = 26
  · refine rSwT C dW_law_33 26 q26 (by decide) (off := 1036) (tgt := 1069) (by decide) (by decide) ?_
    obtain ⟨r, z1, z2, e1, e2, hI2⟩ := hstep.2.2.2.2.2.2.2.2.2.2.2.2.2.2.2.2.2.2.2.2.2.2.2.2.2.2.1 z (xs (nI i + 1).toNatClampNeg) (xs (nI i + 2).toNatClampNeg) hInv
    refine rAload_n C dW_law_1069 hl 2 rfl ?_
    refine rAload_n C dW_law_1070 hl 3 rfl ?_
    refine rIload_n C dW_law_1071 hl 0 rfl ?_
    refine lv_iconst (v := 1) C.1 C.2.1 dW_law_1072 (by decide) ?_
    refine lv_iadd C.1 C.2.1 dW_law_1073 ?_
    refine va_sld C.1 C.2.1 hX hbl hbA hG.2.2 (hin 1 (by decide) 1 rfl) dW_law_1074 ?_
    refine rAload_n C dW_law_1075 hl 3 rfl ?_
    refine rIload_n C dW_law_1076 hl 0 rfl ?_
    refine lv_iconst (v := 2) C.1 C.2.1 dW_law_1077 (by decide) ?_
    refine lv_iadd C.1 C.2.1 dW_law_1078 ?_
    refine va_sld C.1 C.2.1 hX hbl hbA hG.2.2 (hin 2 (by decide) 2 rfl) dW_law_1079 ?_
    refine rLCi [.int (xs (nI i + 1).toNatClampNeg), .int (xs (nI i + 2).toNatClampNeg)] [] C hG (cS_drawn (cI99) e1) mvS_drawn k_699 ⟨Nat.le_of_ble_eq_true rfl, Nat.le_of_ble_eq_true rfl⟩ ⟨rfl, rfl⟩ (rRecv C hG (cI99 0 (by decide)) e_0 rfl) rfl hl.1 (Nat.le_of_ble_eq_true rfl) dW_law_1080 ⟨Nat.le_of_ble_eq_true rfl, Nat.le_of_ble_eq_true rfl⟩ rfl (fun H locs hG => ?_)
    refine rAload_n C dW_law_1083 hl 1 rfl ?_
    refine rAload_n C dW_law_1084 hl 3 rfl ?_
    refine rIload_n C dW_law_1085 hl 0 rfl ?_
    refine lv_iconst (v := 1) C.1 C.2.1 dW_law_1086 (by decide) ?_
    refine lv_iadd C.1 C.2.1 dW_law_1087 ?_
    refine va_sld C.1 C.2.1 hX hbl hbA hG.2.2 (hin 1 (by decide) 1 rfl) dW_law_1088 ?_
    refine rAload_n C dW_law_1089 hl 3 rfl ?_
    refine rIload_n C dW_law_1090 hl 0 rfl ?_
    refine lv_iconst (v := 2) C.1 C.2.1 dW_law_1091 (by decide) ?_
    refine lv_iadd C.1 C.2.1 dW_law_1092 ?_
    refine va_sld C.1 C.2.1 hX hbl hbA hG.2.2 (hin 2 (by decide) 2 rfl) dW_law_1093 ?_
    refine rLCi [.int (xs (nI i + 1).toNatClampNeg), .int (xs (nI i + 2).toNatClampNeg)] [.int r] C hG (cM_drawn (mI99) e2) mvM_drawn k_1145 ⟨Nat.le_of_ble_eq_true rfl, Nat.le_of_ble_eq_true rfl⟩ ⟨rfl, rfl⟩ (rRecv C hG (mI99 78 (by decide) (by decide)) e_78 rfl) rfl hl.1 (Nat.le_of_ble_eq_true rfl) dW_law_1094 ⟨Nat.le_of_ble_eq_true rfl, Nat.le_of_ble_eq_true rfl⟩ rfl (fun H locs hG => ?_)
    refine lv_icmp_eq (tgt := 1417) C.1 C.2.1 dW_law_1097 (by decide) (fun _ => ?_) (fun q => absurd rfl q)
    exact hgo z2 H locs hI2 hG
  by_cases q27 : w = 27
  · refine rSwT C dW_law_33 27 q27 (by decide) (off := 1069) (tgt := 1102) (by decide) (by decide) ?_
    obtain ⟨r, z1, z2, e1, e2, hI2⟩ := hstep.2.2.2.2.2.2.2.2.2.2.2.2.2.2.2.2.2.2.2.2.2.2.2.2.2.2.2.1 z (xs (nI i + 1).toNatClampNeg) (xs (nI i + 2).toNatClampNeg) (xs (nI i + 3).toNatClampNeg) (xs (nI i + 4).toNatClampNeg) hInv
    refine rAload_n C dW_law_1102 hl 2 rfl ?_
    refine rAload_n C dW_law_1103 hl 3 rfl ?_
    refine rIload_n C dW_law_1104 hl 0 rfl ?_
    refine lv_iconst (v := 1) C.1 C.2.1 dW_law_1105 (by decide) ?_
    refine lv_iadd C.1 C.2.1 dW_law_1106 ?_
    refine va_sld C.1 C.2.1 hX hbl hbA hG.2.2 (hin 1 (by decide) 1 rfl) dW_law_1107 ?_
    refine rAload_n C dW_law_1108 hl 3 rfl ?_
    refine rIload_n C dW_law_1109 hl 0 rfl ?_
    refine lv_iconst (v := 2) C.1 C.2.1 dW_law_1110 (by decide) ?_
    refine lv_iadd C.1 C.2.1 dW_law_1111 ?_
    refine va_sld C.1 C.2.1 hX hbl hbA hG.2.2 (hin 2 (by decide) 2 rfl) dW_law_1112 ?_
    refine rAload_n C dW_law_1113 hl 3 rfl ?_
    refine rIload_n C dW_law_1114 hl 0 rfl ?_
    refine lv_iconst (v := 3) C.1 C.2.1 dW_law_1115 (by decide) ?_
    refine lv_iadd C.1 C.2.1 dW_law_1116 ?_
    refine va_sld C.1 C.2.1 hX hbl hbA hG.2.2 (hin 3 (by decide) 3 rfl) dW_law_1117 ?_
    refine rAload_n C dW_law_1118 hl 3 rfl ?_
    refine rIload_n C dW_law_1119 hl 0 rfl ?_
    refine lv_iconst (v := 4) C.1 C.2.1 dW_law_1120 (by decide) ?_
    refine lv_iadd C.1 C.2.1 dW_law_1121 ?_
    refine va_sld C.1 C.2.1 hX hbl hbA hG.2.2 (hin 4 (by decide) 4 rfl) dW_law_1122 ?_
    refine rLCl [.int (xs (nI i + 1).toNatClampNeg), .int (xs (nI i + 2).toNatClampNeg), .int (xs (nI i + 3).toNatClampNeg), .int (xs (nI i + 4).toNatClampNeg)] [] C hG (cS_odds (cI99) e1) mvS_odds k_715 ⟨Nat.le_of_ble_eq_true rfl, Nat.le_of_ble_eq_true rfl⟩ ⟨rfl, rfl⟩ (rRecv C hG (cI99 0 (by decide)) e_0 rfl) rfl hl.1 (Nat.le_of_ble_eq_true rfl) dW_law_1123 ⟨Nat.le_of_ble_eq_true rfl, Nat.le_of_ble_eq_true rfl⟩ rfl (fun H locs hG => ?_)
    refine rAload_n C dW_law_1126 hl 1 rfl ?_
    refine rAload_n C dW_law_1127 hl 3 rfl ?_
    refine rIload_n C dW_law_1128 hl 0 rfl ?_
    refine lv_iconst (v := 1) C.1 C.2.1 dW_law_1129 (by decide) ?_
    refine lv_iadd C.1 C.2.1 dW_law_1130 ?_
    refine va_sld C.1 C.2.1 hX hbl hbA hG.2.2 (hin 1 (by decide) 1 rfl) dW_law_1131 ?_
    refine rAload_n C dW_law_1132 hl 3 rfl ?_
    refine rIload_n C dW_law_1133 hl 0 rfl ?_
    refine lv_iconst (v := 2) C.1 C.2.1 dW_law_1134 (by decide) ?_
    refine lv_iadd C.1 C.2.1 dW_law_1135 ?_
    refine va_sld C.1 C.2.1 hX hbl hbA hG.2.2 (hin 2 (by decide) 2 rfl) dW_law_1136 ?_
    refine rAload_n C dW_law_1137 hl 3 rfl ?_
    refine rIload_n C dW_law_1138 hl 0 rfl ?_
    refine lv_iconst (v := 3) C.1 C.2.1 dW_law_1139 (by decide) ?_
    refine lv_iadd C.1 C.2.1 dW_law_1140 ?_
    refine va_sld C.1 C.2.1 hX hbl hbA hG.2.2 (hin 3 (by decide) 3 rfl) dW_law_1141 ?_
    refine rAload_n C dW_law_1142 hl 3 rfl ?_
    refine rIload_n C dW_law_1143 hl 0 rfl ?_
    refine lv_iconst (v := 4) C.1 C.2.1 dW_law_1144 (by decide) ?_
    refine lv_iadd C.1 C.2.1 dW_law_1145 ?_
    refine va_sld C.1 C.2.1 hX hbl hbA hG.2.2 (hin 4 (by decide) 4 rfl) dW_law_1146 ?_
    refine rLCl [.int (xs (nI i + 1).toNatClampNeg), .int (xs (nI i + 2).toNatClampNeg), .int (xs (nI i + 3).toNatClampNeg), .int (xs (nI i + 4).toNatClampNeg)] [.long r] C hG (cM_odds (mI99) e2) mvM_odds k_1158 ⟨Nat.le_of_ble_eq_true rfl, Nat.le_of_ble_eq_true rfl⟩ ⟨rfl, rfl⟩ (rRecv C hG (mI99 78 (by decide) (by decide)) e_78 rfl) rfl hl.1 (Nat.le_of_ble_eq_true rfl) dW_law_1147 ⟨Nat.le_of_ble_eq_true rfl, Nat.le_of_ble_eq_true rfl⟩ rfl (fun H locs hG => ?_)
    refine W.lcmp C.1 C.2.1 dW_law_1150 ?_
    refine lv_if_eq (tgt := 1417) C.1 C.2.1 dW_law_1151 (by decide) (fun _ => ?_) (fun q => absurd (lg_cmp_self r) q)
    exact hgo z2 H locs hI2 hG
  by_cases q28 : w = 28
  · refine rSwT C dW_law_33 28 q28 (by decide) (off := 1123) (tgt := 1156) (by decide) (by decide) ?_
    obtain ⟨r, z1, z2, e1, e2, hI2⟩ := hstep.2.2.2.2.2.2.2.2.2.2.2.2.2.2.2.2.2.2.2.2.2.2.2.2.2.2.2.2.1 z hInv
    refine rAload_n C dW_law_1156 hl 2 rfl ?_
    refine rLCi [] [] C hG (cS_image (cI99) e1) mvS_image k_719 ⟨Nat.le_of_ble_eq_true rfl, Nat.le_of_ble_eq_true rfl⟩ ⟨rfl, rfl⟩ (rRecv C hG (cI99 0 (by decide)) e_0 rfl) rfl hl.1 (Nat.le_of_ble_eq_true rfl) dW_law_1157 ⟨Nat.le_of_ble_eq_true rfl, Nat.le_of_ble_eq_true rfl⟩ rfl (fun H locs hG => ?_)
    refine rAload_n C dW_law_1160 hl 1 rfl ?_
    refine rLCi [] [.int r] C hG (cM_image (mI99) e2) mvM_image k_1162 ⟨Nat.le_of_ble_eq_true rfl, Nat.le_of_ble_eq_true rfl⟩ ⟨rfl, rfl⟩ (rRecv C hG (mI99 78 (by decide) (by decide)) e_78 rfl) rfl hl.1 (Nat.le_of_ble_eq_true rfl) dW_law_1161 ⟨Nat.le_of_ble_eq_true rfl, Nat.le_of_ble_eq_true rfl⟩ rfl (fun H locs hG => ?_)
    refine lv_icmp_eq (tgt := 1417) C.1 C.2.1 dW_law_1164 (by decide) (fun _ => ?_) (fun q => absurd rfl q)
    exact hgo z2 H locs hI2 hG
  by_cases q29 : w = 29
  · refine rSwT C dW_law_33 29 q29 (by decide) (off := 1136) (tgt := 1169) (by decide) (by decide) ?_
    obtain ⟨r, z1, z2, e1, e2, hI2⟩ := hstep.2.2.2.2.2.2.2.2.2.2.2.2.2.2.2.2.2.2.2.2.2.2.2.2.2.2.2.2.2.1 z hInv
    refine rAload_n C dW_law_1169 hl 2 rfl ?_
    refine rLCi [] [] C hG (cS_back (cI99) e1) mvS_back k_723 ⟨Nat.le_of_ble_eq_true rfl, Nat.le_of_ble_eq_true rfl⟩ ⟨rfl, rfl⟩ (rRecv C hG (cI99 0 (by decide)) e_0 rfl) rfl hl.1 (Nat.le_of_ble_eq_true rfl) dW_law_1170 ⟨Nat.le_of_ble_eq_true rfl, Nat.le_of_ble_eq_true rfl⟩ rfl (fun H locs hG => ?_)
    refine rAload_n C dW_law_1173 hl 1 rfl ?_
    refine rLCi [] [.int r] C hG (cM_back (mI99) e2) mvM_back k_1166 ⟨Nat.le_of_ble_eq_true rfl, Nat.le_of_ble_eq_true rfl⟩ ⟨rfl, rfl⟩ (rRecv C hG (mI99 78 (by decide) (by decide)) e_78 rfl) rfl hl.1 (Nat.le_of_ble_eq_true rfl) dW_law_1174 ⟨Nat.le_of_ble_eq_true rfl, Nat.le_of_ble_eq_true rfl⟩ rfl (fun H locs hG => ?_)
    refine lv_icmp_eq (tgt := 1417) C.1 C.2.1 dW_law_1177 (by decide) (fun _ => ?_) (fun q => absurd rfl q)
    exact hgo z2 H locs hI2 hG
  by_cases q30 : w = 30
  · refine rSwT C dW_law_33 30 q30 (by decide) (off := 1149) (tgt := 1182) (by decide) (by decide) ?_
    obtain ⟨r, z1, z2, e1, e2, hI2⟩ := hstep.2.2.2.2.2.2.2.2.2.2.2.2.2.2.2.2.2.2.2.2.2.2.2.2.2.2.2.2.2.2.1 z (xs (nI i + 1).toNatClampNeg) (xs (nI i + 2).toNatClampNeg) (xs (nI i + 3).toNatClampNeg) hInv
    refine rAload_n C dW_law_1182 hl 2 rfl ?_
    refine rAload_n C dW_law_1183 hl 3 rfl ?_
    refine rIload_n C dW_law_1184 hl 0 rfl ?_
    refine lv_iconst (v := 1) C.1 C.2.1 dW_law_1185 (by decide) ?_
    refine lv_iadd C.1 C.2.1 dW_law_1186 ?_
    refine va_sld C.1 C.2.1 hX hbl hbA hG.2.2 (hin 1 (by decide) 1 rfl) dW_law_1187 ?_
    refine rAload_n C dW_law_1188 hl 3 rfl ?_
    refine rIload_n C dW_law_1189 hl 0 rfl ?_
    refine lv_iconst (v := 2) C.1 C.2.1 dW_law_1190 (by decide) ?_
    refine lv_iadd C.1 C.2.1 dW_law_1191 ?_
    refine va_sld C.1 C.2.1 hX hbl hbA hG.2.2 (hin 2 (by decide) 2 rfl) dW_law_1192 ?_
    refine rAload_n C dW_law_1193 hl 3 rfl ?_
    refine rIload_n C dW_law_1194 hl 0 rfl ?_
    refine lv_iconst (v := 3) C.1 C.2.1 dW_law_1195 (by decide) ?_
    refine lv_iadd C.1 C.2.1 dW_law_1196 ?_
    refine va_sld C.1 C.2.1 hX hbl hbA hG.2.2 (hin 3 (by decide) 3 rfl) dW_law_1197 ?_
    refine rLCi [.int (xs (nI i + 1).toNatClampNeg), .int (xs (nI i + 2).toNatClampNeg), .int (xs (nI i + 3).toNatClampNeg)] [] C hG (cS_sheet (cI99) e1) mvS_sheet k_727 ⟨Nat.le_of_ble_eq_true rfl, Nat.le_of_ble_eq_true rfl⟩ ⟨rfl, rfl⟩ (rRecv C hG (cI99 0 (by decide)) e_0 rfl) rfl hl.1 (Nat.le_of_ble_eq_true rfl) dW_law_1198 ⟨Nat.le_of_ble_eq_true rfl, Nat.le_of_ble_eq_true rfl⟩ rfl (fun H locs hG => ?_)
    refine rAload_n C dW_law_1201 hl 1 rfl ?_
    refine rAload_n C dW_law_1202 hl 3 rfl ?_
    refine rIload_n C dW_law_1203 hl 0 rfl ?_
    refine lv_iconst (v := 1) C.1 C.2.1 dW_law_1204 (by decide) ?_
    refine lv_iadd C.1 C.2.1 dW_law_1205 ?_
    refine va_sld C.1 C.2.1 hX hbl hbA hG.2.2 (hin 1 (by decide) 1 rfl) dW_law_1206 ?_
    refine rAload_n C dW_law_1207 hl 3 rfl ?_
    refine rIload_n C dW_law_1208 hl 0 rfl ?_
    refine lv_iconst (v := 2) C.1 C.2.1 dW_law_1209 (by decide) ?_
    refine lv_iadd C.1 C.2.1 dW_law_1210 ?_
    refine va_sld C.1 C.2.1 hX hbl hbA hG.2.2 (hin 2 (by decide) 2 rfl) dW_law_1211 ?_
    refine rAload_n C dW_law_1212 hl 3 rfl ?_
    refine rIload_n C dW_law_1213 hl 0 rfl ?_
    refine lv_iconst (v := 3) C.1 C.2.1 dW_law_1214 (by decide) ?_
    refine lv_iadd C.1 C.2.1 dW_law_1215 ?_
    refine va_sld C.1 C.2.1 hX hbl hbA hG.2.2 (hin 3 (by decide) 3 rfl) dW_law_1216 ?_
    refine rLCi [.int (xs (nI i + 1).toNatClampNeg), .int (xs (nI i + 2).toNatClampNeg), .int (xs (nI i + 3).toNatClampNeg)] [.int r] C hG (cM_sheet (mI99) e2) mvM_sheet k_1170 ⟨Nat.le_of_ble_eq_true rfl, Nat.le_of_ble_eq_true rfl⟩ ⟨rfl, rfl⟩ (rRecv C hG (mI99 78 (by decide) (by decide)) e_78 rfl) rfl hl.1 (Nat.le_of_ble_eq_true rfl) dW_law_1217 ⟨Nat.le_of_ble_eq_true rfl, Nat.le_of_ble_eq_true rfl⟩ rfl (fun H locs hG => ?_)
    refine lv_icmp_eq (tgt := 1417) C.1 C.2.1 dW_law_1220 (by decide) (fun _ => ?_) (fun q => absurd rfl q)
    exact hgo z2 H locs hI2 hG
  by_cases q31 : w = 31
  · refine rSwT C dW_law_33 31 q31 (by decide) (off := 1192) (tgt := 1225) (by decide) (by decide) ?_
    obtain ⟨r, z1, z2, e1, e2, hI2⟩ := hstep.2.2.2.2.2.2.2.2.2.2.2.2.2.2.2.2.2.2.2.2.2.2.2.2.2.2.2.2.2.2.2.1 z (xs (nI i + 1).toNatClampNeg) (xs (nI i + 2).toNatClampNeg) (xs (nI i + 3).toNatClampNeg) hInv
    refine rAload_n C dW_law_1225 hl 2 rfl ?_
    refine rAload_n C dW_law_1226 hl 3 rfl ?_
    refine rIload_n C dW_law_1227 hl 0 rfl ?_
    refine lv_iconst (v := 1) C.1 C.2.1 dW_law_1228 (by decide) ?_
    refine lv_iadd C.1 C.2.1 dW_law_1229 ?_
    refine va_sld C.1 C.2.1 hX hbl hbA hG.2.2 (hin 1 (by decide) 1 rfl) dW_law_1230 ?_
    refine rAload_n C dW_law_1231 hl 3 rfl ?_
    refine rIload_n C dW_law_1232 hl 0 rfl ?_
    refine lv_iconst (v := 2) C.1 C.2.1 dW_law_1233 (by decide) ?_
    refine lv_iadd C.1 C.2.1 dW_law_1234 ?_
    refine va_sld C.1 C.2.1 hX hbl hbA hG.2.2 (hin 2 (by decide) 2 rfl) dW_law_1235 ?_
    refine rAload_n C dW_law_1236 hl 3 rfl ?_
    refine rIload_n C dW_law_1237 hl 0 rfl ?_
    refine lv_iconst (v := 3) C.1 C.2.1 dW_law_1238 (by decide) ?_
    refine lv_iadd C.1 C.2.1 dW_law_1239 ?_
    refine va_sld C.1 C.2.1 hX hbl hbA hG.2.2 (hin 3 (by decide) 3 rfl) dW_law_1240 ?_
    refine rLCi [.int (xs (nI i + 1).toNatClampNeg), .int (xs (nI i + 2).toNatClampNeg), .int (xs (nI i + 3).toNatClampNeg)] [] C hG (cS_cell (cI99) e1) mvS_cell k_731 ⟨Nat.le_of_ble_eq_true rfl, Nat.le_of_ble_eq_true rfl⟩ ⟨rfl, rfl⟩ (rRecv C hG (cI99 0 (by decide)) e_0 rfl) rfl hl.1 (Nat.le_of_ble_eq_true rfl) dW_law_1241 ⟨Nat.le_of_ble_eq_true rfl, Nat.le_of_ble_eq_true rfl⟩ rfl (fun H locs hG => ?_)
    refine rAload_n C dW_law_1244 hl 1 rfl ?_
    refine rAload_n C dW_law_1245 hl 3 rfl ?_
    refine rIload_n C dW_law_1246 hl 0 rfl ?_
    refine lv_iconst (v := 1) C.1 C.2.1 dW_law_1247 (by decide) ?_
    refine lv_iadd C.1 C.2.1 dW_law_1248 ?_
    refine va_sld C.1 C.2.1 hX hbl hbA hG.2.2 (hin 1 (by decide) 1 rfl) dW_law_1249 ?_
    refine rAload_n C dW_law_1250 hl 3 rfl ?_
    refine rIload_n C dW_law_1251 hl 0 rfl ?_
    refine lv_iconst (v := 2) C.1 C.2.1 dW_law_1252 (by decide) ?_
    refine lv_iadd C.1 C.2.1 dW_law_1253 ?_
    refine va_sld C.1 C.2.1 hX hbl hbA hG.2.2 (hin 2 (by decide) 2 rfl) dW_law_1254 ?_
    refine rAload_n C dW_law_1255 hl 3 rfl ?_
    refine rIload_n C dW_law_1256 hl 0 rfl ?_
    refine lv_iconst (v := 3) C.1 C.2.1 dW_law_1257 (by decide) ?_
    refine lv_iadd C.1 C.2.1 dW_law_1258 ?_
    refine va_sld C.1 C.2.1 hX hbl hbA hG.2.2 (hin 3 (by decide) 3 rfl) dW_law_1259 ?_
    refine rLCi [.int (xs (nI i + 1).toNatClampNeg), .int (xs (nI i + 2).toNatClampNeg), .int (xs (nI i + 3).toNatClampNeg)] [.int r] C hG (cM_cell (mI99) e2) mvM_cell k_1174 ⟨Nat.le_of_ble_eq_true rfl, Nat.le_of_ble_eq_true rfl⟩ ⟨rfl, rfl⟩ (rRecv C hG (mI99 78 (by decide) (by decide)) e_78 rfl) rfl hl.1 (Nat.le_of_ble_eq_true rfl) dW_law_1260 ⟨Nat.le_of_ble_eq_true rfl, Nat.le_of_ble_eq_true rfl⟩ rfl (fun H locs hG => ?_)
    refine lv_icmp_eq (tgt := 1417) C.1 C.2.1 dW_law_1263 (by decide) (fun _ => ?_) (fun q => absurd rfl q)
    exact hgo z2 H locs hI2 hG
  by_cases q32 : w = 32
  · refine rSwT C dW_law_33 32 q32 (by decide) (off := 1235) (tgt := 1268) (by decide) (by decide) ?_
    obtain ⟨r, z1, z2, e1, e2, hI2⟩ := hstep.2.2.2.2.2.2.2.2.2.2.2.2.2.2.2.2.2.2.2.2.2.2.2.2.2.2.2.2.2.2.2.2.1 z (xs (nI i + 1).toNatClampNeg) (xs (nI i + 2).toNatClampNeg) (xs (nI i + 3).toNatClampNeg) (xs (nI i + 4).toNatClampNeg) (xs (nI i + 5).toNatClampNeg) hInv
    refine rAload_n C dW_law_1268 hl 2 rfl ?_
    refine rAload_n C dW_law_1269 hl 3 rfl ?_
    refine rIload_n C dW_law_1270 hl 0 rfl ?_
    refine lv_iconst (v := 1) C.1 C.2.1 dW_law_1271 (by decide) ?_
    refine lv_iadd C.1 C.2.1 dW_law_1272 ?_
    refine va_sld C.1 C.2.1 hX hbl hbA hG.2.2 (hin 1 (by decide) 1 rfl) dW_law_1273 ?_
    refine rAload_n C dW_law_1274 hl 3 rfl ?_
    refine rIload_n C dW_law_1275 hl 0 rfl ?_
    refine lv_iconst (v := 2) C.1 C.2.1 dW_law_1276 (by decide) ?_
    refine lv_iadd C.1 C.2.1 dW_law_1277 ?_
    refine va_sld C.1 C.2.1 hX hbl hbA hG.2.2 (hin 2 (by decide) 2 rfl) dW_law_1278 ?_
    refine rAload_n C dW_law_1279 hl 3 rfl ?_
    refine rIload_n C dW_law_1280 hl 0 rfl ?_
    refine lv_iconst (v := 3) C.1 C.2.1 dW_law_1281 (by decide) ?_
    refine lv_iadd C.1 C.2.1 dW_law_1282 ?_
    refine va_sld C.1 C.2.1 hX hbl hbA hG.2.2 (hin 3 (by decide) 3 rfl) dW_law_1283 ?_
    refine rAload_n C dW_law_1284 hl 3 rfl ?_
    refine rIload_n C dW_law_1285 hl 0 rfl ?_
    refine lv_iconst (v := 4) C.1 C.2.1 dW_law_1286 (by decide) ?_
    refine lv_iadd C.1 C.2.1 dW_law_1287 ?_
    refine va_sld C.1 C.2.1 hX hbl hbA hG.2.2 (hin 4 (by decide) 4 rfl) dW_law_1288 ?_
    refine rAload_n C dW_law_1289 hl 3 rfl ?_
    refine rIload_n C dW_law_1290 hl 0 rfl ?_
    refine lv_iconst (v := 5) C.1 C.2.1 dW_law_1291 (by decide) ?_
    refine lv_iadd C.1 C.2.1 dW_law_1292 ?_
    refine va_sld C.1 C.2.1 hX hbl hbA hG.2.2 (hin 5 (by decide) 5 rfl) dW_law_1293 ?_
    refine rLCi [.int (xs (nI i + 1).toNatClampNeg), .int (xs (nI i + 2).toNatClampNeg), .int (xs (nI i + 3).toNatClampNeg), .int (xs (nI i + 4).toNatClampNeg), .int (xs (nI i + 5).toNatClampNeg)] [] C hG (cS_copy (cI99) e1) mvS_copy k_735 ⟨Nat.le_of_ble_eq_true rfl, Nat.le_of_ble_eq_true rfl⟩ ⟨rfl, rfl⟩ (rRecv C hG (cI99 0 (by decide)) e_0 rfl) rfl hl.1 (Nat.le_of_ble_eq_true rfl) dW_law_1294 ⟨Nat.le_of_ble_eq_true rfl, Nat.le_of_ble_eq_true rfl⟩ rfl (fun H locs hG => ?_)
    refine rAload_n C dW_law_1297 hl 1 rfl ?_
    refine rAload_n C dW_law_1298 hl 3 rfl ?_
    refine rIload_n C dW_law_1299 hl 0 rfl ?_
    refine lv_iconst (v := 1) C.1 C.2.1 dW_law_1300 (by decide) ?_
    refine lv_iadd C.1 C.2.1 dW_law_1301 ?_
    refine va_sld C.1 C.2.1 hX hbl hbA hG.2.2 (hin 1 (by decide) 1 rfl) dW_law_1302 ?_
    refine rAload_n C dW_law_1303 hl 3 rfl ?_
    refine rIload_n C dW_law_1304 hl 0 rfl ?_
    refine lv_iconst (v := 2) C.1 C.2.1 dW_law_1305 (by decide) ?_
    refine lv_iadd C.1 C.2.1 dW_law_1306 ?_
    refine va_sld C.1 C.2.1 hX hbl hbA hG.2.2 (hin 2 (by decide) 2 rfl) dW_law_1307 ?_
    refine rAload_n C dW_law_1308 hl 3 rfl ?_
    refine rIload_n C dW_law_1309 hl 0 rfl ?_
    refine lv_iconst (v := 3) C.1 C.2.1 dW_law_1310 (by decide) ?_
    refine lv_iadd C.1 C.2.1 dW_law_1311 ?_
    refine va_sld C.1 C.2.1 hX hbl hbA hG.2.2 (hin 3 (by decide) 3 rfl) dW_law_1312 ?_
    refine rAload_n C dW_law_1313 hl 3 rfl ?_
    refine rIload_n C dW_law_1314 hl 0 rfl ?_
    refine lv_iconst (v := 4) C.1 C.2.1 dW_law_1315 (by decide) ?_
    refine lv_iadd C.1 C.2.1 dW_law_1316 ?_
    refine va_sld C.1 C.2.1 hX hbl hbA hG.2.2 (hin 4 (by decide) 4 rfl) dW_law_1317 ?_
    refine rAload_n C dW_law_1318 hl 3 rfl ?_
    refine rIload_n C dW_law_1319 hl 0 rfl ?_
    refine lv_iconst (v := 5) C.1 C.2.1 dW_law_1320 (by decide) ?_
    refine lv_iadd C.1 C.2.1 dW_law_1321 ?_
    refine va_sld C.1 C.2.1 hX hbl hbA hG.2.2 (hin 5 (by decide) 5 rfl) dW_law_1322 ?_
    refine rLCi [.int (xs (nI i + 1).toNatClampNeg), .int (xs (nI i + 2).toNatClampNeg), .int (xs (nI i + 3).toNatClampNeg), .int (xs (nI i + 4).toNatClampNeg), .int (xs (nI i + 5).toNatClampNeg)] [.int r] C hG (cM_copy (mI99) e2) mvM_copy k_1178 ⟨Nat.le_of_ble_eq_true rfl, Nat.le_of_ble_eq_true rfl⟩ ⟨rfl, rfl⟩ (rRecv C hG (mI99 78 (by decide) (by decide)) e_78 rfl) rfl hl.1 (Nat.le_of_ble_eq_true rfl) dW_law_1323 ⟨Nat.le_of_ble_eq_true rfl, Nat.le_of_ble_eq_true rfl⟩ rfl (fun H locs hG => ?_)
    refine lv_icmp_eq (tgt := 1417) C.1 C.2.1 dW_law_1326 (by decide) (fun _ => ?_) (fun q => absurd rfl q)
    exact hgo z2 H locs hI2 hG
  by_cases q33 : w = 33
  · refine rSwT C dW_law_33 33 q33 (by decide) (off := 1298) (tgt := 1331) (by decide) (by decide) ?_
    obtain ⟨r, z1, z2, e1, e2, hI2⟩ := hstep.2.2.2.2.2.2.2.2.2.2.2.2.2.2.2.2.2.2.2.2.2.2.2.2.2.2.2.2.2.2.2.2.2.1 z (xs (nI i + 1).toNatClampNeg) (xs (nI i + 2).toNatClampNeg) (xs (nI i + 3).toNatClampNeg) (xs (nI i + 4).toNatClampNeg) hInv
    refine rAload_n C dW_law_1331 hl 2 rfl ?_
    refine rAload_n C dW_law_1332 hl 3 rfl ?_
    refine rIload_n C dW_law_1333 hl 0 rfl ?_
    refine lv_iconst (v := 1) C.1 C.2.1 dW_law_1334 (by decide) ?_
    refine lv_iadd C.1 C.2.1 dW_law_1335 ?_
    refine va_sld C.1 C.2.1 hX hbl hbA hG.2.2 (hin 1 (by decide) 1 rfl) dW_law_1336 ?_
    refine rAload_n C dW_law_1337 hl 3 rfl ?_
    refine rIload_n C dW_law_1338 hl 0 rfl ?_
    refine lv_iconst (v := 2) C.1 C.2.1 dW_law_1339 (by decide) ?_
    refine lv_iadd C.1 C.2.1 dW_law_1340 ?_
    refine va_sld C.1 C.2.1 hX hbl hbA hG.2.2 (hin 2 (by decide) 2 rfl) dW_law_1341 ?_
    refine rAload_n C dW_law_1342 hl 3 rfl ?_
    refine rIload_n C dW_law_1343 hl 0 rfl ?_
    refine lv_iconst (v := 3) C.1 C.2.1 dW_law_1344 (by decide) ?_
    refine lv_iadd C.1 C.2.1 dW_law_1345 ?_
    refine va_sld C.1 C.2.1 hX hbl hbA hG.2.2 (hin 3 (by decide) 3 rfl) dW_law_1346 ?_
    refine rAload_n C dW_law_1347 hl 3 rfl ?_
    refine rIload_n C dW_law_1348 hl 0 rfl ?_
    refine lv_iconst (v := 4) C.1 C.2.1 dW_law_1349 (by decide) ?_
    refine lv_iadd C.1 C.2.1 dW_law_1350 ?_
    refine va_sld C.1 C.2.1 hX hbl hbA hG.2.2 (hin 4 (by decide) 4 rfl) dW_law_1351 ?_
    refine rLCi [.int (xs (nI i + 1).toNatClampNeg), .int (xs (nI i + 2).toNatClampNeg), .int (xs (nI i + 3).toNatClampNeg), .int (xs (nI i + 4).toNatClampNeg)] [] C hG (cS_mowersBy (cI99) e1) mvS_mowersBy k_744 ⟨Nat.le_of_ble_eq_true rfl, Nat.le_of_ble_eq_true rfl⟩ ⟨rfl, rfl⟩ (rRecv C hG (cI99 0 (by decide)) e_0 rfl) rfl hl.1 (Nat.le_of_ble_eq_true rfl) dW_law_1352 ⟨Nat.le_of_ble_eq_true rfl, Nat.le_of_ble_eq_true rfl⟩ rfl (fun H locs hG => ?_)
    refine rAload_n C dW_law_1355 hl 1 rfl ?_
    refine rAload_n C dW_law_1356 hl 3 rfl ?_
    refine rIload_n C dW_law_1357 hl 0 rfl ?_
    refine lv_iconst (v := 1) C.1 C.2.1 dW_law_1358 (by decide) ?_
    refine lv_iadd C.1 C.2.1 dW_law_1359 ?_
    refine va_sld C.1 C.2.1 hX hbl hbA hG.2.2 (hin 1 (by decide) 1 rfl) dW_law_1360 ?_
    refine rAload_n C dW_law_1361 hl 3 rfl ?_
    refine rIload_n C dW_law_1362 hl 0 rfl ?_
    refine lv_iconst (v := 2) C.1 C.2.1 dW_law_1363 (by decide) ?_
    refine lv_iadd C.1 C.2.1 dW_law_1364 ?_
    refine va_sld C.1 C.2.1 hX hbl hbA hG.2.2 (hin 2 (by decide) 2 rfl) dW_law_1365 ?_
    refine rAload_n C dW_law_1366 hl 3 rfl ?_
    refine rIload_n C dW_law_1367 hl 0 rfl ?_
    refine lv_iconst (v := 3) C.1 C.2.1 dW_law_1368 (by decide) ?_
    refine lv_iadd C.1 C.2.1 dW_law_1369 ?_
    refine va_sld C.1 C.2.1 hX hbl hbA hG.2.2 (hin 3 (by decide) 3 rfl) dW_law_1370 ?_
    refine rAload_n C dW_law_1371 hl 3 rfl ?_
    refine rIload_n C dW_law_1372 hl 0 rfl ?_
    refine lv_iconst (v := 4) C.1 C.2.1 dW_law_1373 (by decide) ?_
    refine lv_iadd C.1 C.2.1 dW_law_1374 ?_
    refine va_sld C.1 C.2.1 hX hbl hbA hG.2.2 (hin 4 (by decide) 4 rfl) dW_law_1375 ?_
    refine rLCi [.int (xs (nI i + 1).toNatClampNeg), .int (xs (nI i + 2).toNatClampNeg), .int (xs (nI i + 3).toNatClampNeg), .int (xs (nI i + 4).toNatClampNeg)] [.int r] C hG (cM_mowersBy (mI99) e2) mvM_mowersBy k_1182 ⟨Nat.le_of_ble_eq_true rfl, Nat.le_of_ble_eq_true rfl⟩ ⟨rfl, rfl⟩ (rRecv C hG (mI99 78 (by decide) (by decide)) e_78 rfl) rfl hl.1 (Nat.le_of_ble_eq_true rfl) dW_law_1376 ⟨Nat.le_of_ble_eq_true rfl, Nat.le_of_ble_eq_true rfl⟩ rfl (fun H locs hG => ?_)
    refine lv_icmp_eq (tgt := 1417) C.1 C.2.1 dW_law_1379 (by decide) (fun _ => ?_) (fun q => absurd rfl q)
    exact hgo z2 H locs hI2 hG
  by_cases q34 : w = 34
  · refine rSwT C dW_law_33 34 q34 (by decide) (off := 1351) (tgt := 1384) (by decide) (by decide) ?_
    obtain ⟨r, z1, z2, e1, e2, hI2⟩ := hstep.2.2.2.2.2.2.2.2.2.2.2.2.2.2.2.2.2.2.2.2.2.2.2.2.2.2.2.2.2.2.2.2.2.2 z (xs (nI i + 1).toNatClampNeg) (xs (nI i + 2).toNatClampNeg) hInv
    refine rAload_n C dW_law_1384 hl 2 rfl ?_
    refine rAload_n C dW_law_1385 hl 3 rfl ?_
    refine rIload_n C dW_law_1386 hl 0 rfl ?_
    refine lv_iconst (v := 1) C.1 C.2.1 dW_law_1387 (by decide) ?_
    refine lv_iadd C.1 C.2.1 dW_law_1388 ?_
    refine va_sld C.1 C.2.1 hX hbl hbA hG.2.2 (hin 1 (by decide) 1 rfl) dW_law_1389 ?_
    refine rAload_n C dW_law_1390 hl 3 rfl ?_
    refine rIload_n C dW_law_1391 hl 0 rfl ?_
    refine lv_iconst (v := 2) C.1 C.2.1 dW_law_1392 (by decide) ?_
    refine lv_iadd C.1 C.2.1 dW_law_1393 ?_
    refine va_sld C.1 C.2.1 hX hbl hbA hG.2.2 (hin 2 (by decide) 2 rfl) dW_law_1394 ?_
    refine rLCi [.int (xs (nI i + 1).toNatClampNeg), .int (xs (nI i + 2).toNatClampNeg)] [] C hG (cS_taken (cI99) e1) mvS_taken k_748 ⟨Nat.le_of_ble_eq_true rfl, Nat.le_of_ble_eq_true rfl⟩ ⟨rfl, rfl⟩ (rRecv C hG (cI99 0 (by decide)) e_0 rfl) rfl hl.1 (Nat.le_of_ble_eq_true rfl) dW_law_1395 ⟨Nat.le_of_ble_eq_true rfl, Nat.le_of_ble_eq_true rfl⟩ rfl (fun H locs hG => ?_)
    refine rAload_n C dW_law_1398 hl 1 rfl ?_
    refine rAload_n C dW_law_1399 hl 3 rfl ?_
    refine rIload_n C dW_law_1400 hl 0 rfl ?_
    refine lv_iconst (v := 1) C.1 C.2.1 dW_law_1401 (by decide) ?_
    refine lv_iadd C.1 C.2.1 dW_law_1402 ?_
    refine va_sld C.1 C.2.1 hX hbl hbA hG.2.2 (hin 1 (by decide) 1 rfl) dW_law_1403 ?_
    refine rAload_n C dW_law_1404 hl 3 rfl ?_
    refine rIload_n C dW_law_1405 hl 0 rfl ?_
    refine lv_iconst (v := 2) C.1 C.2.1 dW_law_1406 (by decide) ?_
    refine lv_iadd C.1 C.2.1 dW_law_1407 ?_
    refine va_sld C.1 C.2.1 hX hbl hbA hG.2.2 (hin 2 (by decide) 2 rfl) dW_law_1408 ?_
    refine rLCi [.int (xs (nI i + 1).toNatClampNeg), .int (xs (nI i + 2).toNatClampNeg)] [.int r] C hG (cM_taken (mI99) e2) mvM_taken k_1187 ⟨Nat.le_of_ble_eq_true rfl, Nat.le_of_ble_eq_true rfl⟩ ⟨rfl, rfl⟩ (rRecv C hG (mI99 78 (by decide) (by decide)) e_78 rfl) rfl hl.1 (Nat.le_of_ble_eq_true rfl) dW_law_1409 ⟨Nat.le_of_ble_eq_true rfl, Nat.le_of_ble_eq_true rfl⟩ rfl (fun H locs hG => ?_)
    refine lv_icmp_eq (tgt := 1417) C.1 C.2.1 dW_law_1412 (by decide) (fun _ => ?_) (fun q => absurd rfl q)
    exact hgo z2 H locs hI2 hG
  refine rSwD C dW_law_33 (tgt := 1417) (by have q0n := ne_toInt (k := 0) q0 (by decide); have q1n := ne_toInt (k := 1) q1 (by decide); have q2n := ne_toInt (k := 2) q2 (by decide); have q3n := ne_toInt (k := 3) q3 (by decide); have q4n := ne_toInt (k := 4) q4 (by decide); have q5n := ne_toInt (k := 5) q5 (by decide); have q6n := ne_toInt (k := 6) q6 (by decide); have q7n := ne_toInt (k := 7) q7 (by decide); have q8n := ne_toInt (k := 8) q8 (by decide); have q9n := ne_toInt (k := 9) q9 (by decide); have q10n := ne_toInt (k := 10) q10 (by decide); have q11n := ne_toInt (k := 11) q11 (by decide); have q12n := ne_toInt (k := 12) q12 (by decide); have q13n := ne_toInt (k := 13) q13 (by decide); have q14n := ne_toInt (k := 14) q14 (by decide); have q15n := ne_toInt (k := 15) q15 (by decide); have q16n := ne_toInt (k := 16) q16 (by decide); have q17n := ne_toInt (k := 17) q17 (by decide); have q18n := ne_toInt (k := 18) q18 (by decide); have q19n := ne_toInt (k := 19) q19 (by decide); have q20n := ne_toInt (k := 20) q20 (by decide); have q21n := ne_toInt (k := 21) q21 (by decide); have q22n := ne_toInt (k := 22) q22 (by decide); have q23n := ne_toInt (k := 23) q23 (by decide); have q24n := ne_toInt (k := 24) q24 (by decide); have q25n := ne_toInt (k := 25) q25 (by decide); have q26n := ne_toInt (k := 26) q26 (by decide); have q27n := ne_toInt (k := 27) q27 (by decide); have q28n := ne_toInt (k := 28) q28 (by decide); have q29n := ne_toInt (k := 29) q29 (by decide); have q30n := ne_toInt (k := 30) q30 (by decide); have q31n := ne_toInt (k := 31) q31 (by decide); have q32n := ne_toInt (k := 32) q32 (by decide); have q33n := ne_toInt (k := 33) q33 (by decide); have q34n := ne_toInt (k := 34) q34 (by decide); omega) (by decide) ?_
  exact hgo z H locs hInv hG
theorem law_loop {p : Program} {l : Launch} {e : Env} {s : State} {m : MethodId} {below : List Frame} {meth : Method} {c : Code} {b L : Nat} {xs : Nat → Int32} {G : GT} (C : CXA p s m #[.ref b] meth c R_law code 4 ret G I99 (fun q => s.heap.size ≤ q)) (hX : va_X b L xs s s.heap) (hbl : b < s.heap.size) {fu : Nat} {Inv : Sg → Prop} (hstep : StepOK fu Inv) (hL : L ≤ 3584) : ∀ (k i : Nat) {z : Sg} {H : Heap} {locs : List Loc} {ls : Array Slot}, L < i + k → i ≤ L + 7 → Inv z → GWA G I99 (fun q => s.heap.size ≤ q) z s.heap H locs → lv_has ls 4 [(3, .int (nI i)), (2, .ref (gA G 78)), (1, .ref (gA G 0)), (0, .ref b)] → W p l e room_1 s m #[.ref b] below meth c H locs 99 5106 (lw_Z below #[Value.ref b] s) (F0 m 18 ls []) := by
  have out : ∀ (i : Nat) {z : Sg} {H : Heap} {locs : List Loc} {ls : Array Slot}, L < i + 7 → i ≤ L + 7 → GWA G I99 (fun q => s.heap.size ≤ q) z s.heap H locs → lv_has ls 4 [(3, .int (nI i)), (2, .ref (gA G 78)), (1, .ref (gA G 0)), (0, .ref b)] → W p l e room_1 s m #[.ref b] below meth c H locs 99 5106 (lw_Z below #[Value.ref b] s) (F0 m 18 ls []) := by
    intro i z H locs ls h hi hG hl
    have hbA : ¬ (fun q : Nat => s.heap.size ≤ q) b := Nat.not_le.mpr hbl
    refine rIload_n C dW_law_18 hl 0 rfl ?_
    refine rAload_n C dW_law_19 hl 3 rfl ?_
    refine va_slen C.1 C.2.1 hX hbl hbA hG.2.2 dW_law_20 ?_
    refine lv_bipush (v := 7) C.1 C.2.1 dW_law_21 (by decide) ?_
    refine lv_isub C.1 C.2.1 dW_law_23 ?_
    refine lv_icmp_gt (tgt := 1423) C.1 C.2.1 dW_law_24 (by decide) (fun _ => ?_) (fun q => absurd ((law_cond hL hi).mpr h) q)
    refine va_forget hG.2.2.2.2 ?_
    refine W.widen (k := 600000) (n := 7302250) (Nat.le_of_ble_eq_true rfl) (Nat.le_of_ble_eq_true rfl) ?_
    refine lv_iconst (v := 1) C.1 C.2.1 dW_law_1423 (by decide) ?_
    exact lw_ret C.1 C.2.1 C.2.2.2.2.2.1 C.2.2.2.2.2.2.1.1 dW_law_1424
  intro k
  induction k with
  | zero =>
    intro i z H locs ls h hi hInv hG hl
    exact out i (by omega) hi hG hl
  | succ k ih =>
    intro i z H locs ls h hi hInv hG hl
    rcases Nat.lt_or_ge L (i + 7) with q | q
    · exact out i q hi hG hl
    · refine law_turn C hX hbl hstep hL q hInv hG hl (fun z2 H locs hI2 hG => ?_)
      refine lv_iinc (v := nI (i + 7)) C.1 C.2.1 dW_law_1417 hl (k := 0) rfl (nI_add i 7) (by decide) rfl (fun ls hl => ?_)
      refine lv_goto (tgt := 18) C.1 C.2.1 dW_law_1420 (by decide) ?_
      exact ih (i + 7) (by omega) (by omega) hI2 hG (lv_sub hl [0, 1, 2, 3] rfl)
