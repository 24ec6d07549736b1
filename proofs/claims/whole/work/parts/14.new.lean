/-! new objects and arrays: the world grows by a cell, at the heap's end -/
theorem zl_push {w : zV} {N : Nat} {h : zH} {e : va_E} : zl w (N + 1) (va_up h N e) = zl w N h ++ [(zo w + N, e)] := by
  unfold zl
  rw [List.range_succ, List.map_append]
  congr 1
  · apply List.map_congr_left
    intro a ha
    have := List.mem_range.mp ha
    simp [va_up, Nat.ne_of_lt this]
  · simp [va_up]
section ZNEW
variable {X : zC} {w : zV} {Q : State → Prop} {k n : Nat} {N : Nat} {h : zH} {pc pc' : Nat} {lv : List (Nat × Value)} {st : List Value} {own : String} {cc : ByteArray} {nL : Nat} {ret : Option FieldType} {rm : Room}
theorem z_new (C : zK X w own cc nL ret rm) {i ci M : Nat} {Cn : String} {T : u_T} {ty : Nat → FieldType} {fs : List Value} {h' : zH} (hci : zci ci Cn T M ty) (hl : Cond.classLink own i Cn ∈ zG) (hinst : Cond.instantiable Cn M ∈ zG) (hini : Cond.initialized Cn ∈ zG)
    (hfs : ∀ j, j < M → defaultValue (ty j) = vp_V fs j) (hh : va_up h N (.inr (ci, fs)) = h') (hr : (Nat.ble (k + 1) rm.cells && Nat.ble (n + M) rm.slots) = true) (d : decode cc pc = .ok (.new i, 3)) (he : pc + 3 = pc')
    (kk : zZ X w Q (k + 1) (n + M) true (N + 1) h' pc' lv (.ref (zo w + N) :: st)) : zZ X w Q k n true N h pc lv st := by
  subst he hh
  simp only [Bool.and_eq_true] at hr
  have r1 := Nat.le_of_ble_eq_true hr.1
  have r2 := Nat.le_of_ble_eq_true hr.2
  have hRm : X.2.2.2.1 = rm := C.2.2.2.2.2.2.2.2.1
  have hts := C.2.2.2.2.2.1
  have hK := C.2.2.2.2.2.2.2.2.2.1
  intro H locs ls hP hs hS hL
  have hz : H.size = zo w + N := hs rfl
  have hKn := hK.1 ci _ hci.1
  refine W.newcK C.1 C.2.2.1 C.2.2.2.2.1 (hts _ hl) (hts _ hinst) (hts _ hini) rfl d (by rw [hRm]; exact r1) (by rw [hRm]; exact r2) hKn.2.1 hz fun H1 kC hkC e1 z1 o1 => ?_
  have hk : ∀ (k : Nat) (x : Nat × va_E), (zl w N h)[k]? = some x → H1[x.1]? = H[x.1]? := fun k x hx => o1 x.1 (by rw [← hz]; exact (hP k x hx).lt)
  refine kk H1 locs ls ?_ (fun _ => by rw [z1]; rfl) ⟨Nat.le_trans hS.1 (by omega), fun x h1 h2 => (o1 x (by rw [← hz]; exact Nat.lt_of_lt_of_le h1 hS.1)).trans (hS.2.1 x h1 h2), hS.2.2⟩ hL
  rw [zl_push]
  refine (hP.kept hk).app (fun k x hx => ?_)
  have hz : k < 1 := (List.getElem?_eq_some_iff.mp hx).1
  rw [show k = 0 by omega] at hx
  cases hx
  exact ⟨_, hci.1, (u_born ty hts hci.2.1 hKn hkC e1 hci.2.2.1).to hfs⟩
theorem z_newa (C : zK X w own cc nL ret rm) {atype : ArrayType} {j L : Nat} {ty : FieldType} {i : Int32} {a0 : vp_A} {h' : zH} (hw : Cond.arrayClass (newarray.typeOf atype) ∈ zG) (hty : newarray.typeOf atype = ty) (hj : (zty w)[j]? = some (w.2.2.1 j, ty)) (hRA : ∀ U cA, va_RA U cA ty → U.vm.findClass ("[" ++ ty.toString) = some cA)
    (ha : ∀ cA : ClassId, vp_cell cA a0 = arrV cA L (fun _ => defaultValue ty)) (hn : ¬ i < 0) (hN : i.toNatClampNeg = L) (hb : Nat.ble (L * componentBytes ty) 536870912 = true) (hh : va_up h N (.inl (w.2.2.1 j, a0)) = h') (hr : (Nat.ble (k + 1) rm.cells && Nat.ble (n + L) rm.slots) = true) (d : decode cc pc = .ok (.newarray atype, 2)) (he : pc + 2 = pc')
    (kk : zZ X w Q (k + 1) (n + L) true (N + 1) h' pc' lv (.ref (zo w + N) :: st)) : zZ X w Q k n true N h pc lv (.int i :: st) := by
  subst he hh hty
  simp only [Bool.and_eq_true] at hr
  have r1 := Nat.le_of_ble_eq_true hr.1
  have r2 := Nat.le_of_ble_eq_true hr.2
  have hRm : X.2.2.2.1 = rm := C.2.2.2.2.2.2.2.2.1
  have hts := C.2.2.2.2.2.1
  have hK := C.2.2.2.2.2.2.2.2.2.1
  intro H locs ls hP hs hS hL
  have hz : H.size = zo w + N := hs rfl
  refine va_newaK C.1 C.2.2.1 (hts _ hw) rfl d rfl hn hN (Nat.le_of_ble_eq_true hb) (by rw [hRm]; exact r1) (by rw [hRm]; exact r2) hz fun H1 cA e1 z1 o1 hA hNm => ?_
  have hc : cA = w.2.2.1 j := Option.some.inj (hNm.symm.trans (hRA _ _ (hK.2 j _ hj).2))
  subst hc
  have hk : ∀ (k : Nat) (x : Nat × va_E), (zl w N h)[k]? = some x → H1[x.1]? = H[x.1]? := fun k x hx => o1 x.1 (by rw [← hz]; exact (hP k x hx).lt)
  refine kk H1 locs ls ?_ (fun _ => by rw [z1]; rfl) ⟨Nat.le_trans hS.1 (by omega), fun x h1 h2 => (o1 x (by rw [← hz]; exact Nat.lt_of_lt_of_le h1 hS.1)).trans (hS.2.1 x h1 h2), hS.2.2⟩ hL
  rw [zl_push]
  refine (hP.kept hk).app (fun k x hx => ?_)
  have hz : k < 1 := (List.getElem?_eq_some_iff.mp hx).1
  rw [show k = 0 by omega] at hx
  cases hx
  show H1[zo w + N]? = some (vp_cell _ _)
  rw [ha]
  exact e1
end ZNEW
