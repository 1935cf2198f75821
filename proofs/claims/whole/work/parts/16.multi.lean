/-! new int[5][6]: the outer array, five inner ones behind it -/
section MNA
variable {p : Program} {l : Launch} {e : Env} {R : Room} {s : State} {m : MethodId} {args : Array Value} {below : List Frame} {meth : Method} {c : Code} {H : Heap} {locs : List Loc} {cells slots : Nat} {Q : State → Prop}
variable {cc : ByteArray} {pc : Nat} {ls : Array Slot} {rest : List Value}
theorem mna_row (hexec : p.tables.exec = Jvm.exec) (hb : c.code = cc) {own : String} {index : Nat} (hown : s.vm.findClass own = some m.cls) (hclink : (Cond.classLink own index "[[I").before args s = true) (hover : (Cond.arrayOver (.array .int)).before args s = true) (harr : (Cond.arrayClass .int).before args s = true)
    (hcells : cells + 6 ≤ R.cells) (hslots : slots + 35 ≤ R.slots) (hdg : decode cc pc = .ok (.multianewarray index 2, 4))
    (kk : ∀ (cA cI : ClassId) (H1 : Heap), s.vm.findClass "[[I" = some cA → s.vm.findClass "[I" = some cI → H1.size = H.size + 6 → (∀ q : Nat, q < H.size → H1[q]? = H[q]?) → H1[H.size]? = some (vp_cell cA (5, .inr (.inr (.inr (.inr (fun i => if i < 5 then some (H.size + 1 + i) else none)))))) → (∀ j : Nat, j < 5 → H1[H.size + 1 + j]? = some (vp_cell cI (6, .inl (fun _ => 0)))) →
      W p l e R s m args below meth c H1 locs (cells + 6) (slots + 35) Q (F0 m (pc + 4) ls (.ref H.size :: rest))) : W p l e R s m args below meth c H locs cells slots Q (F0 m pc ls (.int 6 :: .int 5 :: rest)) := by
  intro T hT Xs
  have e5 : (5 : Int32).toNatClampNeg = 5 := rfl
  have e6 : (6 : Int32).toNatClampNeg = 6 := rfl
  obtain ⟨vm₁, cA, comp, -, fA, fC, hO, -, X', step⟩ := Jvm.Stand.multianewarray2F Xs hexec (ty := .int) hown hclink hover harr (g := F0 m pc ls (.int 6 :: .int 5 :: rest)) rfl (by rw [hb]; exact hdg) rfl (by decide) (by decide) (by rw [e5]; decide) (by rw [e6]; decide) (by rw [e6]; decide) rfl rfl (by rw [e5]; exact hcells) (by rw [e5, e6]; exact hslots)
  rw [e5, e6] at X' step
  generalize hF : Jvm.Free.Multi.fill (T.setVm vm₁) cA comp 5 6 (defaultValue .int) 5 = F at X' step
  have hTh : (T.setVm vm₁).heap = H := hT
  obtain ⟨f1, f2, -, -⟩ := Jvm.Free.Multi.fill_facts (T.setVm vm₁) cA comp 5 6 (defaultValue .int) 5
  rw [hF, hTh] at f1 f2
  have hold : ∀ x : Nat, x < H.size → F.heap[x]? = H[x]? := fun x hx => by
    have := Jvm.Free.Multi.fill_old (T.setVm vm₁) cA comp 5 6 (defaultValue .int) (a := x) (by rw [hTh]; exact hx) 5
    rw [hF, hTh] at this
    exact this
  have hrow : ∀ j : Nat, j < 5 → F.heap[H.size + 1 + j]? = some (vp_cell comp (6, .inl (fun _ => 0))) := fun j hj => by
    have := Jvm.Free.Multi.fill_inner (T.setVm vm₁) cA comp 5 6 (defaultValue .int) 5 j hj
    rw [hF, hTh] at this
    rw [this]
    show some (Jvm.Free.Multi.innerC comp 6 (defaultValue .int)) = _
    exact congrArg some (arrV_new comp 6 (.int 0))
  have hout : ∀ i : Nat, Jvm.Free.Multi.outerC cA 5 H.size i = arrV cA 5 (fun j => va_rf (if j < i then some (H.size + 1 + j) else none)) := by
    intro i
    induction i with
    | zero =>
      show ({ cls := cA, slots := Array.replicate 5 .null, vm := .none } : Cell) = _
      rw [arrV_new]
      refine congrArg (arrV cA 5) (funext fun j => ?_)
      simp [va_rf]
    | succ i ih =>
      show (Jvm.Free.Multi.outerC cA 5 H.size i).setSlot i (.ref (H.size + 1 + i)) = _
      rw [ih, arrV_store]
      refine congrArg (arrV cA 5) (funext fun j => ?_)
      by_cases e : j = i
      · subst e
        simp [updV, va_rf]
      · by_cases h : j < i
        · simp [updV, e, h, Nat.lt_succ_of_lt h]
        · simp [updV, e, h, show ¬ j < i + 1 by omega]
  rw [hout 5] at f2
  obtain ⟨t, a1, b1⟩ := kk cA comp F.heap fA fC (by rw [f1]) hold f2 hrow F rfl X'
  refine ⟨t, step t ?_, b1⟩
  have e : T.heap.size = H.size := by rw [hT]
  rw [e]
  exact a1
end MNA
