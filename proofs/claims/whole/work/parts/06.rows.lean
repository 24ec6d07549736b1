section ZR
def zs (x : Bool) (w : zV) (N : Nat) (H : Heap) : Prop := x = true → H.size = zo w + N
def zWd (w : zV) (x : Bool) (N : Nat) (h : zH) : State → Prop := fun U => va_P (zD w) vwCl (zl w N h) U.heap ∧ va_K (zD w) vwCl (zty w) U ∧ zs x w N U.heap
def zZ (X : zC) (w : zV) (Q : State → Prop) (k n : Nat) (x : Bool) (N : Nat) (h : zH) (pc : Nat) (lv : List (Nat × Value)) (st : List Value) : Prop :=
  ∀ (H : Heap) (locs : List Loc) (ls : Array Slot), va_P (zD w) vwCl (zl w N h) H → zs x w N H → va_S (fun q => zo w ≤ q) X.2.2.2.2.1.heap H locs → lv_has ls X.2.2.2.2.2.2.2.2.2.maxLocals lv →
    W X.1 X.2.1 X.2.2.1 X.2.2.2.1 X.2.2.2.2.1 X.2.2.2.2.2.1 X.2.2.2.2.2.2.1 X.2.2.2.2.2.2.2.1 X.2.2.2.2.2.2.2.2.1 X.2.2.2.2.2.2.2.2.2 H locs k n Q (F0 X.2.2.2.2.2.1 pc ls st)
def zK (X : zC) (w : zV) (own : String) (cc : ByteArray) (nL : Nat) (ret : Option FieldType) (rm : Room) : Prop :=
  X.1.tables.exec = Jvm.exec ∧ X.2.1 = w.1 ∧ X.2.2.2.2.2.2.2.2.2.code = cc ∧ X.2.2.2.2.2.2.2.2.2.maxLocals = nL ∧ X.2.2.2.2.1.vm.findClass own = some X.2.2.2.2.2.1.cls ∧ (∀ q ∈ zG, q.before X.2.2.2.2.2.2.1 X.2.2.2.2.1 = true) ∧ X.2.2.2.2.2.2.2.2.1.locks = false ∧ X.2.2.2.2.2.2.2.2.1.sig.returnType = ret ∧ X.2.2.2.1 = rm ∧ va_K (zD w) vwCl (zty w) X.2.2.2.2.1
variable {X : zC} {w : zV} {Q : State → Prop} {k n : Nat} {x : Bool} {N : Nat} {h : zH} {pc pc' : Nat} {lv : List (Nat × Value)} {st : List Value} {own : String} {cc : ByteArray} {nL : Nat} {ret : Option FieldType} {rm : Room}
/-- one instruction that touches the stack alone -/
theorem z_eq {h' : zH} (e : h = h') (kk : zZ X w Q k n x N h' pc lv st) : zZ X w Q k n x N h pc lv st := by subst e; exact kk
theorem z_widen {k' n' : Nat} (h1 : k ≤ k') (h2 : n ≤ n') (kk : zZ X w Q k' n' x N h pc lv st) : zZ X w Q k n x N h pc lv st :=
  fun H locs ls hP hs hS hl => W.widen h1 h2 (kk H locs ls hP hs hS hl)
theorem z_pick {lv' : List (Nat × Value)} (ks : List Nat) (e : lv_pick lv ks = lv') (kk : zZ X w Q k n x N h pc lv' st) : zZ X w Q k n x N h pc lv st :=
  fun H locs ls hP hs hS hl => kk H locs ls hP hs hS (lv_sub hl ks e)
theorem z_iload (C : zK X w own cc nL ret rm) {i : Nat} (j : Nat) {v : Int32} (d : decode cc pc = .ok (.iload i, 2)) (hl : lv[j]? = some (i, .int v)) (he : pc + 2 = pc') (kk : zZ X w Q k n x N h pc' lv (.int v :: st)) : zZ X w Q k n x N h pc lv st := by
  subst he
  exact fun H locs ls hP hs hS hL => lv_iload C.1 C.2.2.1 d (lv_at hL j hl) (kk H locs ls hP hs hS hL)
theorem z_iload_n (C : zK X w own cc nL ret rm) {i : Nat} {m : Fin 4} (j : Nat) {v : Int32} (d : decode cc pc = .ok (.iload_n m, 1)) (hm : (m : Nat) = i) (hl : lv[j]? = some (i, .int v)) (he : pc + 1 = pc') (kk : zZ X w Q k n x N h pc' lv (.int v :: st)) : zZ X w Q k n x N h pc lv st := by
  subst he
  exact fun H locs ls hP hs hS hL => lv_iload_n C.1 C.2.2.1 d hm (lv_at hL j hl) (kk H locs ls hP hs hS hL)
theorem z_lload (C : zK X w own cc nL ret rm) {i : Nat} (j : Nat) {v : Int64} (d : decode cc pc = .ok (.lload i, 2)) (hl : lv[j]? = some (i, .long v)) (he : pc + 2 = pc') (kk : zZ X w Q k n x N h pc' lv (.long v :: st)) : zZ X w Q k n x N h pc lv st := by
  subst he
  exact fun H locs ls hP hs hS hL => lv_lload C.1 C.2.2.1 d (lv_at hL j hl) (kk H locs ls hP hs hS hL)
theorem z_lload_n (C : zK X w own cc nL ret rm) {i : Nat} {m : Fin 4} (j : Nat) {v : Int64} (d : decode cc pc = .ok (.lload_n m, 1)) (hm : (m : Nat) = i) (hl : lv[j]? = some (i, .long v)) (he : pc + 1 = pc') (kk : zZ X w Q k n x N h pc' lv (.long v :: st)) : zZ X w Q k n x N h pc lv st := by
  subst he
  exact fun H locs ls hP hs hS hL => lv_lload_n C.1 C.2.2.1 d hm (lv_at hL j hl) (kk H locs ls hP hs hS hL)
theorem z_aload (C : zK X w own cc nL ret rm) {i : Nat} (j : Nat) {v : Nat} (d : decode cc pc = .ok (.aload i, 2)) (hl : lv[j]? = some (i, .ref v)) (he : pc + 2 = pc') (kk : zZ X w Q k n x N h pc' lv (.ref v :: st)) : zZ X w Q k n x N h pc lv st := by
  subst he
  exact fun H locs ls hP hs hS hL => lv_aload C.1 C.2.2.1 d (lv_at hL j hl) (kk H locs ls hP hs hS hL)
theorem z_aload_n (C : zK X w own cc nL ret rm) {i : Nat} {m : Fin 4} (j : Nat) {v : Nat} (d : decode cc pc = .ok (.aload_n m, 1)) (hm : (m : Nat) = i) (hl : lv[j]? = some (i, .ref v)) (he : pc + 1 = pc') (kk : zZ X w Q k n x N h pc' lv (.ref v :: st)) : zZ X w Q k n x N h pc lv st := by
  subst he
  exact fun H locs ls hP hs hS hL => lv_aload_n C.1 C.2.2.1 d hm (lv_at hL j hl) (kk H locs ls hP hs hS hL)
theorem z_istore (C : zK X w own cc nL ret rm) {i : Nat} {v : Int32} (lv' : List (Nat × Value)) (d : decode cc pc = .ok (.istore i, 2)) (hn : Nat.blt i nL = true) (hl : (i, Value.int v) :: lv.filter (fun q => !(q.1 == i) && !(q.1 + 1 == i && q.2.category == 2)) = lv') (he : pc + 2 = pc') (kk : zZ X w Q k n x N h pc' lv' st) : zZ X w Q k n x N h pc lv (.int v :: st) := by
  subst he
  exact fun H locs ls hP hs hS hL => lv_istore C.1 C.2.2.1 d hL (by rw [C.2.2.2.1]; exact Nat.le_of_ble_eq_true hn) hl (fun ls' hL' => kk H locs ls' hP hs hS hL')
theorem z_istore_n (C : zK X w own cc nL ret rm) {i : Nat} {m : Fin 4} {v : Int32} (lv' : List (Nat × Value)) (d : decode cc pc = .ok (.istore_n m, 1)) (hm : (m : Nat) = i) (hn : Nat.blt i nL = true) (hl : (i, Value.int v) :: lv.filter (fun q => !(q.1 == i) && !(q.1 + 1 == i && q.2.category == 2)) = lv') (he : pc + 1 = pc') (kk : zZ X w Q k n x N h pc' lv' st) : zZ X w Q k n x N h pc lv (.int v :: st) := by
  subst he
  exact fun H locs ls hP hs hS hL => lv_istore_n C.1 C.2.2.1 d hm hL (by rw [C.2.2.2.1]; exact Nat.le_of_ble_eq_true hn) hl (fun ls' hL' => kk H locs ls' hP hs hS hL')
theorem z_lstore (C : zK X w own cc nL ret rm) {i : Nat} {v : Int64} (lv' : List (Nat × Value)) (d : decode cc pc = .ok (.lstore i, 2)) (hn : Nat.blt (i + 1) nL = true) (hl : (i, Value.long v) :: lv.filter (fun q => !(q.1 == i) && (!(q.1 == i + 1) && !(q.1 + 1 == i && q.2.category == 2))) = lv') (he : pc + 2 = pc') (kk : zZ X w Q k n x N h pc' lv' st) : zZ X w Q k n x N h pc lv (.long v :: st) := by
  subst he
  exact fun H locs ls hP hs hS hL => lv_lstore C.1 C.2.2.1 d hL (by rw [C.2.2.2.1]; exact Nat.le_of_ble_eq_true hn) hl (fun ls' hL' => kk H locs ls' hP hs hS hL')
theorem z_lstore_n (C : zK X w own cc nL ret rm) {i : Nat} {m : Fin 4} {v : Int64} (lv' : List (Nat × Value)) (d : decode cc pc = .ok (.lstore_n m, 1)) (hm : (m : Nat) = i) (hn : Nat.blt (i + 1) nL = true) (hl : (i, Value.long v) :: lv.filter (fun q => !(q.1 == i) && (!(q.1 == i + 1) && !(q.1 + 1 == i && q.2.category == 2))) = lv') (he : pc + 1 = pc') (kk : zZ X w Q k n x N h pc' lv' st) : zZ X w Q k n x N h pc lv (.long v :: st) := by
  subst he
  exact fun H locs ls hP hs hS hL => lv_lstore_n C.1 C.2.2.1 d hm hL (by rw [C.2.2.2.1]; exact Nat.le_of_ble_eq_true hn) hl (fun ls' hL' => kk H locs ls' hP hs hS hL')
theorem z_astore (C : zK X w own cc nL ret rm) {i : Nat} {v : Nat} (lv' : List (Nat × Value)) (d : decode cc pc = .ok (.astore i, 2)) (hn : Nat.blt i nL = true) (hl : (i, Value.ref v) :: lv.filter (fun q => !(q.1 == i) && !(q.1 + 1 == i && q.2.category == 2)) = lv') (he : pc + 2 = pc') (kk : zZ X w Q k n x N h pc' lv' st) : zZ X w Q k n x N h pc lv (.ref v :: st) := by
  subst he
  exact fun H locs ls hP hs hS hL => lv_astore C.1 C.2.2.1 d hL (by rw [C.2.2.2.1]; exact Nat.le_of_ble_eq_true hn) hl (fun ls' hL' => kk H locs ls' hP hs hS hL')
theorem z_astore_n (C : zK X w own cc nL ret rm) {i : Nat} {m : Fin 4} {v : Nat} (lv' : List (Nat × Value)) (d : decode cc pc = .ok (.astore_n m, 1)) (hm : (m : Nat) = i) (hn : Nat.blt i nL = true) (hl : (i, Value.ref v) :: lv.filter (fun q => !(q.1 == i) && !(q.1 + 1 == i && q.2.category == 2)) = lv') (he : pc + 1 = pc') (kk : zZ X w Q k n x N h pc' lv' st) : zZ X w Q k n x N h pc lv (.ref v :: st) := by
  subst he
  exact fun H locs ls hP hs hS hL => lv_astore_n C.1 C.2.2.1 d hm hL (by rw [C.2.2.2.1]; exact Nat.le_of_ble_eq_true hn) hl (fun ls' hL' => kk H locs ls' hP hs hS hL')
theorem z_iinc (C : zK X w own cc nL ret rm) {i : Nat} {c : Int} (j : Nat) {u c' : Int32} (lv' : List (Nat × Value)) (d : decode cc pc = .ok (.iinc i c, 3)) (hj : lv[j]? = some (i, .int u)) (hc : Int32.ofInt c = c') (hn : Nat.blt i nL = true) (hl : (i, Value.int (u + c')) :: lv.filter (fun q => !(q.1 == i) && !(q.1 + 1 == i && q.2.category == 2)) = lv') (he : pc + 3 = pc') (kk : zZ X w Q k n x N h pc' lv' st) : zZ X w Q k n x N h pc lv st := by
  subst he
  exact fun H locs ls hP hs hS hL => lv_iinc C.1 C.2.2.1 d hL hj (by rw [hc]) (by rw [C.2.2.2.1]; exact Nat.le_of_ble_eq_true hn) hl (fun ls' hL' => kk H locs ls' hP hs hS hL')
theorem z_iconst (C : zK X w own cc nL ret rm) {c : Int} {v : Int32} (d : decode cc pc = .ok (.iconst c, 1)) (hv : Int32.ofInt c = v) (he : pc + 1 = pc') (kk : zZ X w Q k n x N h pc' lv (.int v :: st)) : zZ X w Q k n x N h pc lv st := by
  subst he
  exact fun H locs ls hP hs hS hL => lv_iconst C.1 C.2.2.1 d hv (kk H locs ls hP hs hS hL)
theorem z_bipush (C : zK X w own cc nL ret rm) {c : Int} {v : Int32} (d : decode cc pc = .ok (.bipush c, 2)) (hv : (Int8.ofInt c).toInt32 = v) (he : pc + 2 = pc') (kk : zZ X w Q k n x N h pc' lv (.int v :: st)) : zZ X w Q k n x N h pc lv st := by
  subst he
  exact fun H locs ls hP hs hS hL => lv_bipush C.1 C.2.2.1 d hv (kk H locs ls hP hs hS hL)
theorem z_sipush (C : zK X w own cc nL ret rm) {c : Int} {v : Int32} (d : decode cc pc = .ok (.sipush c, 3)) (hv : (Int16.ofInt c).toInt32 = v) (he : pc + 3 = pc') (kk : zZ X w Q k n x N h pc' lv (.int v :: st)) : zZ X w Q k n x N h pc lv st := by
  subst he
  exact fun H locs ls hP hs hS hL => lv_sipush C.1 C.2.2.1 d hv (kk H locs ls hP hs hS hL)
theorem z_lconst (C : zK X w own cc nL ret rm) {c : Fin 2} {v : Int64} (d : decode cc pc = .ok (.lconst c, 1)) (hv : Int64.ofNat (c : Nat) = v) (he : pc + 1 = pc') (kk : zZ X w Q k n x N h pc' lv (.long v :: st)) : zZ X w Q k n x N h pc lv st := by
  subst he
  exact fun H locs ls hP hs hS hL => lv_lconst C.1 C.2.2.1 d hv (kk H locs ls hP hs hS hL)
theorem z_ldc (C : zK X w own cc nL ret rm) {i : Nat} {v : Int32} (hw : Cond.constant own i v ∈ zG) (d : decode cc pc = .ok (.ldc i, 2)) (he : pc + 2 = pc') (kk : zZ X w Q k n x N h pc' lv (.int v :: st)) : zZ X w Q k n x N h pc lv st := by
  subst he
  exact fun H locs ls hP hs hS hL => lv_ldc C.1 C.2.2.1 C.2.2.2.2.1 (C.2.2.2.2.2.1 _ hw) d (kk H locs ls hP hs hS hL)
theorem z_ldcw (C : zK X w own cc nL ret rm) {i : Nat} {v : Int32} (hw : Cond.constant own i v ∈ zG) (d : decode cc pc = .ok (.ldc_w i, 3)) (he : pc + 3 = pc') (kk : zZ X w Q k n x N h pc' lv (.int v :: st)) : zZ X w Q k n x N h pc lv st := by
  subst he
  exact fun H locs ls hP hs hS hL => lv_ldcw C.1 C.2.2.1 C.2.2.2.2.1 (C.2.2.2.2.2.1 _ hw) d (kk H locs ls hP hs hS hL)
theorem z_ldc2 (C : zK X w own cc nL ret rm) {i : Nat} {v : Int64} (hw : Cond.constantLong own i v ∈ zG) (d : decode cc pc = .ok (.ldc2_w i, 3)) (he : pc + 3 = pc') (kk : zZ X w Q k n x N h pc' lv (.long v :: st)) : zZ X w Q k n x N h pc lv st := by
  subst he
  exact fun H locs ls hP hs hS hL => lv_ldc2 C.1 C.2.2.1 C.2.2.2.2.1 (C.2.2.2.2.2.1 _ hw) d (kk H locs ls hP hs hS hL)
theorem z_dup (C : zK X w own cc nL ret rm) {v : Value} (d : decode cc pc = .ok (.dup, 1)) (hv : v.category = 1) (he : pc + 1 = pc') (kk : zZ X w Q k n x N h pc' lv (v :: v :: st)) : zZ X w Q k n x N h pc lv (v :: st) := by
  subst he
  exact fun H locs ls hP hs hS hL => lv_dup C.1 C.2.2.1 d hv (kk H locs ls hP hs hS hL)
theorem z_dup2 (C : zK X w own cc nL ret rm) {u v : Value} (d : decode cc pc = .ok (.dup2, 1)) (hu : u.category = 1) (hv : v.category = 1) (he : pc + 1 = pc') (kk : zZ X w Q k n x N h pc' lv (u :: v :: u :: v :: st)) : zZ X w Q k n x N h pc lv (u :: v :: st) := by
  subst he
  exact fun H locs ls hP hs hS hL => lv_dup2_11 C.1 C.2.2.1 d hu hv (kk H locs ls hP hs hS hL)
theorem z_pop (C : zK X w own cc nL ret rm) {v : Value} (d : decode cc pc = .ok (.pop, 1)) (hv : v.category = 1) (he : pc + 1 = pc') (kk : zZ X w Q k n x N h pc' lv st) : zZ X w Q k n x N h pc lv (v :: st) := by
  subst he
  exact fun H locs ls hP hs hS hL => lv_pop C.1 C.2.2.1 d hv (kk H locs ls hP hs hS hL)
theorem z_pop2 (C : zK X w own cc nL ret rm) {v : Value} (d : decode cc pc = .ok (.pop2, 1)) (hv : v.category = 2) (he : pc + 1 = pc') (kk : zZ X w Q k n x N h pc' lv st) : zZ X w Q k n x N h pc lv (v :: st) := by
  subst he
  exact fun H locs ls hP hs hS hL => lv_pop2_2 C.1 C.2.2.1 d hv (kk H locs ls hP hs hS hL)
theorem z_goto (C : zK X w own cc nL ret rm) {off : Int} (tgt : Nat) (d : decode cc pc = .ok (.goto off, 3)) (ht : (pc : Int) + off = (tgt : Int)) (kk : zZ X w Q k n x N h tgt lv st) : zZ X w Q k n x N h pc lv st :=
  fun H locs ls hP hs hS hL => lv_goto C.1 C.2.2.1 d ht (kk H locs ls hP hs hS hL)
theorem z_iadd (C : zK X w own cc nL ret rm) {x1 y1 : Int32} (d : decode cc pc = .ok (.iadd, 1)) (he : pc + 1 = pc') (kk : zZ X w Q k n x N h pc' lv (.int (x1 + y1) :: st)) : zZ X w Q k n x N h pc lv (.int y1 :: .int x1 :: st) := by
  subst he
  exact fun H locs ls hP hs hS hL => lv_iadd C.1 C.2.2.1 d (kk H locs ls hP hs hS hL)
theorem z_isub (C : zK X w own cc nL ret rm) {x1 y1 : Int32} (d : decode cc pc = .ok (.isub, 1)) (he : pc + 1 = pc') (kk : zZ X w Q k n x N h pc' lv (.int (x1 - y1) :: st)) : zZ X w Q k n x N h pc lv (.int y1 :: .int x1 :: st) := by
  subst he
  exact fun H locs ls hP hs hS hL => lv_isub C.1 C.2.2.1 d (kk H locs ls hP hs hS hL)
theorem z_imul (C : zK X w own cc nL ret rm) {x1 y1 : Int32} (d : decode cc pc = .ok (.imul, 1)) (he : pc + 1 = pc') (kk : zZ X w Q k n x N h pc' lv (.int (x1 * y1) :: st)) : zZ X w Q k n x N h pc lv (.int y1 :: .int x1 :: st) := by
  subst he
  exact fun H locs ls hP hs hS hL => lv_imul C.1 C.2.2.1 d (kk H locs ls hP hs hS hL)
theorem z_idiv (C : zK X w own cc nL ret rm) {x1 y1 : Int32} (d : decode cc pc = .ok (.idiv, 1)) (hne : ¬ y1 = 0) (he : pc + 1 = pc') (kk : zZ X w Q k n x N h pc' lv (.int (x1 / y1) :: st)) : zZ X w Q k n x N h pc lv (.int y1 :: .int x1 :: st) := by
  subst he
  exact fun H locs ls hP hs hS hL => lv_idiv C.1 C.2.2.1 d hne (kk H locs ls hP hs hS hL)
theorem z_irem (C : zK X w own cc nL ret rm) {x1 y1 : Int32} (d : decode cc pc = .ok (.irem, 1)) (hne : ¬ y1 = 0) (he : pc + 1 = pc') (kk : zZ X w Q k n x N h pc' lv (.int (x1 - x1 / y1 * y1) :: st)) : zZ X w Q k n x N h pc lv (.int y1 :: .int x1 :: st) := by
  subst he
  exact fun H locs ls hP hs hS hL => lv_irem C.1 C.2.2.1 d hne (kk H locs ls hP hs hS hL)
theorem z_iand (C : zK X w own cc nL ret rm) {x1 y1 : Int32} (d : decode cc pc = .ok (.iand, 1)) (he : pc + 1 = pc') (kk : zZ X w Q k n x N h pc' lv (.int (x1 &&& y1) :: st)) : zZ X w Q k n x N h pc lv (.int y1 :: .int x1 :: st) := by
  subst he
  exact fun H locs ls hP hs hS hL => lv_iand C.1 C.2.2.1 d (kk H locs ls hP hs hS hL)
theorem z_ior (C : zK X w own cc nL ret rm) {x1 y1 : Int32} (d : decode cc pc = .ok (.ior, 1)) (he : pc + 1 = pc') (kk : zZ X w Q k n x N h pc' lv (.int (x1 ||| y1) :: st)) : zZ X w Q k n x N h pc lv (.int y1 :: .int x1 :: st) := by
  subst he
  exact fun H locs ls hP hs hS hL => lv_ior C.1 C.2.2.1 d (kk H locs ls hP hs hS hL)
theorem z_ishl (C : zK X w own cc nL ret rm) {x1 y1 : Int32} (d : decode cc pc = .ok (.ishl, 1)) (he : pc + 1 = pc') (kk : zZ X w Q k n x N h pc' lv (.int (x1 <<< (y1 &&& 31)) :: st)) : zZ X w Q k n x N h pc lv (.int y1 :: .int x1 :: st) := by
  subst he
  exact fun H locs ls hP hs hS hL => lv_ishl C.1 C.2.2.1 d (kk H locs ls hP hs hS hL)
theorem z_ishr (C : zK X w own cc nL ret rm) {x1 y1 : Int32} (d : decode cc pc = .ok (.ishr, 1)) (he : pc + 1 = pc') (kk : zZ X w Q k n x N h pc' lv (.int (x1 >>> (y1 &&& 31)) :: st)) : zZ X w Q k n x N h pc lv (.int y1 :: .int x1 :: st) := by
  subst he
  exact fun H locs ls hP hs hS hL => lv_ishr C.1 C.2.2.1 d (kk H locs ls hP hs hS hL)
theorem z_ladd (C : zK X w own cc nL ret rm) {x1 y1 : Int64} (d : decode cc pc = .ok (.ladd, 1)) (he : pc + 1 = pc') (kk : zZ X w Q k n x N h pc' lv (.long (x1 + y1) :: st)) : zZ X w Q k n x N h pc lv (.long y1 :: .long x1 :: st) := by
  subst he
  exact fun H locs ls hP hs hS hL => lv_ladd C.1 C.2.2.1 d (kk H locs ls hP hs hS hL)
theorem z_lsub (C : zK X w own cc nL ret rm) {x1 y1 : Int64} (d : decode cc pc = .ok (.lsub, 1)) (he : pc + 1 = pc') (kk : zZ X w Q k n x N h pc' lv (.long (x1 - y1) :: st)) : zZ X w Q k n x N h pc lv (.long y1 :: .long x1 :: st) := by
  subst he
  exact fun H locs ls hP hs hS hL => lv_lsub C.1 C.2.2.1 d (kk H locs ls hP hs hS hL)
theorem z_lmul (C : zK X w own cc nL ret rm) {x1 y1 : Int64} (d : decode cc pc = .ok (.lmul, 1)) (he : pc + 1 = pc') (kk : zZ X w Q k n x N h pc' lv (.long (x1 * y1) :: st)) : zZ X w Q k n x N h pc lv (.long y1 :: .long x1 :: st) := by
  subst he
  exact fun H locs ls hP hs hS hL => lv_lmul C.1 C.2.2.1 d (kk H locs ls hP hs hS hL)
theorem z_ldiv (C : zK X w own cc nL ret rm) {x1 y1 : Int64} (d : decode cc pc = .ok (.ldiv, 1)) (hne : ¬ y1 = 0) (he : pc + 1 = pc') (kk : zZ X w Q k n x N h pc' lv (.long (x1 / y1) :: st)) : zZ X w Q k n x N h pc lv (.long y1 :: .long x1 :: st) := by
  subst he
  exact fun H locs ls hP hs hS hL => lv_ldiv C.1 C.2.2.1 d hne (kk H locs ls hP hs hS hL)
theorem z_iushr (C : zK X w own cc nL ret rm) {x1 y1 : Int32} (d : decode cc pc = .ok (.iushr, 1)) (he : pc + 1 = pc') (kk : zZ X w Q k n x N h pc' lv (.int ((x1.toUInt32 >>> (y1.toUInt32 &&& Int32.toUInt32 31)).toInt32) :: st)) : zZ X w Q k n x N h pc lv (.int y1 :: .int x1 :: st) := by
  subst he
  exact fun H locs ls hP hs hS hL => lv_iushr C.1 C.2.2.1 d rfl (kk H locs ls hP hs hS hL)
theorem z_i2l (C : zK X w own cc nL ret rm) {x1 : Int32} (d : decode cc pc = .ok (.i2l, 1)) (he : pc + 1 = pc') (kk : zZ X w Q k n x N h pc' lv (.long (x1.toInt64) :: st)) : zZ X w Q k n x N h pc lv (.int x1 :: st) := by
  subst he
  exact fun H locs ls hP hs hS hL => lv_i2l C.1 C.2.2.1 d rfl (kk H locs ls hP hs hS hL)
theorem z_l2i (C : zK X w own cc nL ret rm) {x1 : Int64} (d : decode cc pc = .ok (.l2i, 1)) (he : pc + 1 = pc') (kk : zZ X w Q k n x N h pc' lv (.int (x1.toInt32) :: st)) : zZ X w Q k n x N h pc lv (.long x1 :: st) := by
  subst he
  exact fun H locs ls hP hs hS hL => lv_l2i C.1 C.2.2.1 d rfl (kk H locs ls hP hs hS hL)
theorem z_i2b (C : zK X w own cc nL ret rm) {x1 : Int32} (d : decode cc pc = .ok (.i2b, 1)) (he : pc + 1 = pc') (kk : zZ X w Q k n x N h pc' lv (.int (x1.toInt8.toInt32) :: st)) : zZ X w Q k n x N h pc lv (.int x1 :: st) := by
  subst he
  exact fun H locs ls hP hs hS hL => lv_i2b C.1 C.2.2.1 d rfl (kk H locs ls hP hs hS hL)
theorem z_icmp_eq (C : zK X w own cc nL ret rm) {β : Type} {A B : Option β} {r : β} {x1 y1 : Int32} {off : Int} (tgt : Nat) (hf : (if x1 = y1 then A else B) = some r) (d : decode cc pc = .ok (.if_icmp .eq off, 3)) (ht : (pc : Int) + off = (tgt : Int)) (he : pc + 3 = pc') (kt : x1 = y1 → A = some r → zZ X w Q k n x N h tgt lv st) (kf : ¬ x1 = y1 → B = some r → zZ X w Q k n x N h pc' lv st) : zZ X w Q k n x N h pc lv (.int y1 :: .int x1 :: st) := by
  subst he
  exact fun H locs ls hP hs hS hL => lv_icmp_eq C.1 C.2.2.1 d ht (fun q => kt q (by rw [if_pos q] at hf; exact hf) H locs ls hP hs hS hL) (fun q => kf q (by rw [if_neg q] at hf; exact hf) H locs ls hP hs hS hL)
theorem z_if_eq (C : zK X w own cc nL ret rm) {β : Type} {A B : Option β} {r : β} {x1 : Int32} {off : Int} (tgt : Nat) (hf : (if x1 = 0 then A else B) = some r) (d : decode cc pc = .ok (.ifCond .eq off, 3)) (ht : (pc : Int) + off = (tgt : Int)) (he : pc + 3 = pc') (kt : x1 = 0 → A = some r → zZ X w Q k n x N h tgt lv st) (kf : ¬ x1 = 0 → B = some r → zZ X w Q k n x N h pc' lv st) : zZ X w Q k n x N h pc lv (.int x1 :: st) := by
  subst he
  exact fun H locs ls hP hs hS hL => lv_if_eq C.1 C.2.2.1 d ht (fun q => kt q (by rw [if_pos q] at hf; exact hf) H locs ls hP hs hS hL) (fun q => kf q (by rw [if_neg q] at hf; exact hf) H locs ls hP hs hS hL)
theorem z_lcmp_eq (C : zK X w own cc nL ret rm) {β : Type} {A B : Option β} {r : β} {x1 y1 : Int64} {off : Int} {pc1 : Nat} (tgt : Nat) (hf : (if x1 = y1 then A else B) = some r) (d0 : decode cc pc = .ok (.lcmp, 1)) (he0 : pc + 1 = pc1) (d : decode cc pc1 = .ok (.ifCond .eq off, 3)) (ht : (pc1 : Int) + off = (tgt : Int)) (he : pc1 + 3 = pc') (kt : x1 = y1 → A = some r → zZ X w Q k n x N h tgt lv st) (kf : ¬ x1 = y1 → B = some r → zZ X w Q k n x N h pc' lv st) : zZ X w Q k n x N h pc lv (.long y1 :: .long x1 :: st) := by
  subst he
  subst he0
  exact fun H locs ls hP hs hS hL => W.lcmp C.1 C.2.2.1 d0 (lv_if_eq C.1 C.2.2.1 d ht (fun q => (fun q => kt q (by rw [if_pos q] at hf; exact hf) H locs ls hP hs hS hL) ((lg_cmp_eq x1 y1).mp q)) (fun q => (fun q => kf q (by rw [if_neg q] at hf; exact hf) H locs ls hP hs hS hL) (fun z => q ((lg_cmp_eq x1 y1).mpr z))))
theorem z_icmp_ne (C : zK X w own cc nL ret rm) {β : Type} {A B : Option β} {r : β} {x1 y1 : Int32} {off : Int} (tgt : Nat) (hf : (if x1 = y1 then B else A) = some r) (d : decode cc pc = .ok (.if_icmp .ne off, 3)) (ht : (pc : Int) + off = (tgt : Int)) (he : pc + 3 = pc') (kt : ¬ x1 = y1 → A = some r → zZ X w Q k n x N h tgt lv st) (kf : x1 = y1 → B = some r → zZ X w Q k n x N h pc' lv st) : zZ X w Q k n x N h pc lv (.int y1 :: .int x1 :: st) := by
  subst he
  exact fun H locs ls hP hs hS hL => lv_icmp_ne C.1 C.2.2.1 d ht (fun q => kt q (by rw [if_neg q] at hf; exact hf) H locs ls hP hs hS hL) (fun q => (fun q => kf q (by rw [if_pos q] at hf; exact hf) H locs ls hP hs hS hL) q)
theorem z_if_ne (C : zK X w own cc nL ret rm) {β : Type} {A B : Option β} {r : β} {x1 : Int32} {off : Int} (tgt : Nat) (hf : (if x1 = 0 then B else A) = some r) (d : decode cc pc = .ok (.ifCond .ne off, 3)) (ht : (pc : Int) + off = (tgt : Int)) (he : pc + 3 = pc') (kt : ¬ x1 = 0 → A = some r → zZ X w Q k n x N h tgt lv st) (kf : x1 = 0 → B = some r → zZ X w Q k n x N h pc' lv st) : zZ X w Q k n x N h pc lv (.int x1 :: st) := by
  subst he
  exact fun H locs ls hP hs hS hL => lv_if_ne C.1 C.2.2.1 d ht (fun q => kt q (by rw [if_neg q] at hf; exact hf) H locs ls hP hs hS hL) (fun q => (fun q => kf q (by rw [if_pos q] at hf; exact hf) H locs ls hP hs hS hL) q)
theorem z_lcmp_ne (C : zK X w own cc nL ret rm) {β : Type} {A B : Option β} {r : β} {x1 y1 : Int64} {off : Int} {pc1 : Nat} (tgt : Nat) (hf : (if x1 = y1 then B else A) = some r) (d0 : decode cc pc = .ok (.lcmp, 1)) (he0 : pc + 1 = pc1) (d : decode cc pc1 = .ok (.ifCond .ne off, 3)) (ht : (pc1 : Int) + off = (tgt : Int)) (he : pc1 + 3 = pc') (kt : ¬ x1 = y1 → A = some r → zZ X w Q k n x N h tgt lv st) (kf : x1 = y1 → B = some r → zZ X w Q k n x N h pc' lv st) : zZ X w Q k n x N h pc lv (.long y1 :: .long x1 :: st) := by
  subst he
  subst he0
  exact fun H locs ls hP hs hS hL => W.lcmp C.1 C.2.2.1 d0 (lv_if_ne C.1 C.2.2.1 d ht (fun q => (fun q => kt q (by rw [if_neg q] at hf; exact hf) H locs ls hP hs hS hL) (fun z => q ((lg_cmp_eq x1 y1).mpr z))) (fun q => (fun q => kf q (by rw [if_pos q] at hf; exact hf) H locs ls hP hs hS hL) ((lg_cmp_eq x1 y1).mp q)))
theorem z_icmp_lt (C : zK X w own cc nL ret rm) {β : Type} {A B : Option β} {r : β} {x1 y1 : Int32} {off : Int} (tgt : Nat) (hf : (if x1 < y1 then A else B) = some r) (d : decode cc pc = .ok (.if_icmp .lt off, 3)) (ht : (pc : Int) + off = (tgt : Int)) (he : pc + 3 = pc') (kt : x1 < y1 → A = some r → zZ X w Q k n x N h tgt lv st) (kf : ¬ x1 < y1 → B = some r → zZ X w Q k n x N h pc' lv st) : zZ X w Q k n x N h pc lv (.int y1 :: .int x1 :: st) := by
  subst he
  exact fun H locs ls hP hs hS hL => lv_icmp_lt C.1 C.2.2.1 d ht (fun q => kt q (by rw [if_pos q] at hf; exact hf) H locs ls hP hs hS hL) (fun q => kf q (by rw [if_neg q] at hf; exact hf) H locs ls hP hs hS hL)
theorem z_if_lt (C : zK X w own cc nL ret rm) {β : Type} {A B : Option β} {r : β} {x1 : Int32} {off : Int} (tgt : Nat) (hf : (if x1 < 0 then A else B) = some r) (d : decode cc pc = .ok (.ifCond .lt off, 3)) (ht : (pc : Int) + off = (tgt : Int)) (he : pc + 3 = pc') (kt : x1 < 0 → A = some r → zZ X w Q k n x N h tgt lv st) (kf : ¬ x1 < 0 → B = some r → zZ X w Q k n x N h pc' lv st) : zZ X w Q k n x N h pc lv (.int x1 :: st) := by
  subst he
  exact fun H locs ls hP hs hS hL => lv_if_lt C.1 C.2.2.1 d ht (fun q => kt q (by rw [if_pos q] at hf; exact hf) H locs ls hP hs hS hL) (fun q => kf q (by rw [if_neg q] at hf; exact hf) H locs ls hP hs hS hL)
theorem z_lcmp_lt (C : zK X w own cc nL ret rm) {β : Type} {A B : Option β} {r : β} {x1 y1 : Int64} {off : Int} {pc1 : Nat} (tgt : Nat) (hf : (if x1 < y1 then A else B) = some r) (d0 : decode cc pc = .ok (.lcmp, 1)) (he0 : pc + 1 = pc1) (d : decode cc pc1 = .ok (.ifCond .lt off, 3)) (ht : (pc1 : Int) + off = (tgt : Int)) (he : pc1 + 3 = pc') (kt : x1 < y1 → A = some r → zZ X w Q k n x N h tgt lv st) (kf : ¬ x1 < y1 → B = some r → zZ X w Q k n x N h pc' lv st) : zZ X w Q k n x N h pc lv (.long y1 :: .long x1 :: st) := by
  subst he
  subst he0
  exact fun H locs ls hP hs hS hL => W.lcmp C.1 C.2.2.1 d0 (lv_if_lt C.1 C.2.2.1 d ht (fun q => (fun q => kt q (by rw [if_pos q] at hf; exact hf) H locs ls hP hs hS hL) ((lg_cmp_lt x1 y1).mp q)) (fun q => (fun q => kf q (by rw [if_neg q] at hf; exact hf) H locs ls hP hs hS hL) (fun z => q ((lg_cmp_lt x1 y1).mpr z))))
theorem z_icmp_ge (C : zK X w own cc nL ret rm) {β : Type} {A B : Option β} {r : β} {x1 y1 : Int32} {off : Int} (tgt : Nat) (hf : (if y1 ≤ x1 then A else B) = some r) (d : decode cc pc = .ok (.if_icmp .ge off, 3)) (ht : (pc : Int) + off = (tgt : Int)) (he : pc + 3 = pc') (kt : y1 ≤ x1 → A = some r → zZ X w Q k n x N h tgt lv st) (kf : ¬ y1 ≤ x1 → B = some r → zZ X w Q k n x N h pc' lv st) : zZ X w Q k n x N h pc lv (.int y1 :: .int x1 :: st) := by
  subst he
  exact fun H locs ls hP hs hS hL => lv_icmp_ge C.1 C.2.2.1 d ht (fun q => kt q (by rw [if_pos q] at hf; exact hf) H locs ls hP hs hS hL) (fun q => kf q (by rw [if_neg q] at hf; exact hf) H locs ls hP hs hS hL)
theorem z_if_ge (C : zK X w own cc nL ret rm) {β : Type} {A B : Option β} {r : β} {x1 : Int32} {off : Int} (tgt : Nat) (hf : (if 0 ≤ x1 then A else B) = some r) (d : decode cc pc = .ok (.ifCond .ge off, 3)) (ht : (pc : Int) + off = (tgt : Int)) (he : pc + 3 = pc') (kt : 0 ≤ x1 → A = some r → zZ X w Q k n x N h tgt lv st) (kf : ¬ 0 ≤ x1 → B = some r → zZ X w Q k n x N h pc' lv st) : zZ X w Q k n x N h pc lv (.int x1 :: st) := by
  subst he
  exact fun H locs ls hP hs hS hL => lv_if_ge C.1 C.2.2.1 d ht (fun q => kt q (by rw [if_pos q] at hf; exact hf) H locs ls hP hs hS hL) (fun q => kf q (by rw [if_neg q] at hf; exact hf) H locs ls hP hs hS hL)
theorem z_lcmp_ge (C : zK X w own cc nL ret rm) {β : Type} {A B : Option β} {r : β} {x1 y1 : Int64} {off : Int} {pc1 : Nat} (tgt : Nat) (hf : (if y1 ≤ x1 then A else B) = some r) (d0 : decode cc pc = .ok (.lcmp, 1)) (he0 : pc + 1 = pc1) (d : decode cc pc1 = .ok (.ifCond .ge off, 3)) (ht : (pc1 : Int) + off = (tgt : Int)) (he : pc1 + 3 = pc') (kt : y1 ≤ x1 → A = some r → zZ X w Q k n x N h tgt lv st) (kf : ¬ y1 ≤ x1 → B = some r → zZ X w Q k n x N h pc' lv st) : zZ X w Q k n x N h pc lv (.long y1 :: .long x1 :: st) := by
  subst he
  subst he0
  exact fun H locs ls hP hs hS hL => W.lcmp C.1 C.2.2.1 d0 (lv_if_ge C.1 C.2.2.1 d ht (fun q => (fun q => kt q (by rw [if_pos q] at hf; exact hf) H locs ls hP hs hS hL) ((lg_cmp_ge x1 y1).mp q)) (fun q => (fun q => kf q (by rw [if_neg q] at hf; exact hf) H locs ls hP hs hS hL) (fun z => q ((lg_cmp_ge x1 y1).mpr z))))
theorem z_icmp_gt (C : zK X w own cc nL ret rm) {β : Type} {A B : Option β} {r : β} {x1 y1 : Int32} {off : Int} (tgt : Nat) (hf : (if y1 < x1 then A else B) = some r) (d : decode cc pc = .ok (.if_icmp .gt off, 3)) (ht : (pc : Int) + off = (tgt : Int)) (he : pc + 3 = pc') (kt : y1 < x1 → A = some r → zZ X w Q k n x N h tgt lv st) (kf : ¬ y1 < x1 → B = some r → zZ X w Q k n x N h pc' lv st) : zZ X w Q k n x N h pc lv (.int y1 :: .int x1 :: st) := by
  subst he
  exact fun H locs ls hP hs hS hL => lv_icmp_gt C.1 C.2.2.1 d ht (fun q => kt q (by rw [if_pos q] at hf; exact hf) H locs ls hP hs hS hL) (fun q => kf q (by rw [if_neg q] at hf; exact hf) H locs ls hP hs hS hL)
theorem z_if_gt (C : zK X w own cc nL ret rm) {β : Type} {A B : Option β} {r : β} {x1 : Int32} {off : Int} (tgt : Nat) (hf : (if 0 < x1 then A else B) = some r) (d : decode cc pc = .ok (.ifCond .gt off, 3)) (ht : (pc : Int) + off = (tgt : Int)) (he : pc + 3 = pc') (kt : 0 < x1 → A = some r → zZ X w Q k n x N h tgt lv st) (kf : ¬ 0 < x1 → B = some r → zZ X w Q k n x N h pc' lv st) : zZ X w Q k n x N h pc lv (.int x1 :: st) := by
  subst he
  exact fun H locs ls hP hs hS hL => lv_if_gt C.1 C.2.2.1 d ht (fun q => kt q (by rw [if_pos q] at hf; exact hf) H locs ls hP hs hS hL) (fun q => kf q (by rw [if_neg q] at hf; exact hf) H locs ls hP hs hS hL)
theorem z_lcmp_gt (C : zK X w own cc nL ret rm) {β : Type} {A B : Option β} {r : β} {x1 y1 : Int64} {off : Int} {pc1 : Nat} (tgt : Nat) (hf : (if y1 < x1 then A else B) = some r) (d0 : decode cc pc = .ok (.lcmp, 1)) (he0 : pc + 1 = pc1) (d : decode cc pc1 = .ok (.ifCond .gt off, 3)) (ht : (pc1 : Int) + off = (tgt : Int)) (he : pc1 + 3 = pc') (kt : y1 < x1 → A = some r → zZ X w Q k n x N h tgt lv st) (kf : ¬ y1 < x1 → B = some r → zZ X w Q k n x N h pc' lv st) : zZ X w Q k n x N h pc lv (.long y1 :: .long x1 :: st) := by
  subst he
  subst he0
  exact fun H locs ls hP hs hS hL => W.lcmp C.1 C.2.2.1 d0 (lv_if_gt C.1 C.2.2.1 d ht (fun q => (fun q => kt q (by rw [if_pos q] at hf; exact hf) H locs ls hP hs hS hL) ((lg_cmp_gt x1 y1).mp q)) (fun q => (fun q => kf q (by rw [if_neg q] at hf; exact hf) H locs ls hP hs hS hL) (fun z => q ((lg_cmp_gt x1 y1).mpr z))))
theorem z_icmp_le (C : zK X w own cc nL ret rm) {β : Type} {A B : Option β} {r : β} {x1 y1 : Int32} {off : Int} (tgt : Nat) (hf : (if x1 ≤ y1 then A else B) = some r) (d : decode cc pc = .ok (.if_icmp .le off, 3)) (ht : (pc : Int) + off = (tgt : Int)) (he : pc + 3 = pc') (kt : x1 ≤ y1 → A = some r → zZ X w Q k n x N h tgt lv st) (kf : ¬ x1 ≤ y1 → B = some r → zZ X w Q k n x N h pc' lv st) : zZ X w Q k n x N h pc lv (.int y1 :: .int x1 :: st) := by
  subst he
  exact fun H locs ls hP hs hS hL => lv_icmp_le C.1 C.2.2.1 d ht (fun q => kt q (by rw [if_pos q] at hf; exact hf) H locs ls hP hs hS hL) (fun q => kf q (by rw [if_neg q] at hf; exact hf) H locs ls hP hs hS hL)
theorem z_if_le (C : zK X w own cc nL ret rm) {β : Type} {A B : Option β} {r : β} {x1 : Int32} {off : Int} (tgt : Nat) (hf : (if x1 ≤ 0 then A else B) = some r) (d : decode cc pc = .ok (.ifCond .le off, 3)) (ht : (pc : Int) + off = (tgt : Int)) (he : pc + 3 = pc') (kt : x1 ≤ 0 → A = some r → zZ X w Q k n x N h tgt lv st) (kf : ¬ x1 ≤ 0 → B = some r → zZ X w Q k n x N h pc' lv st) : zZ X w Q k n x N h pc lv (.int x1 :: st) := by
  subst he
  exact fun H locs ls hP hs hS hL => lv_if_le C.1 C.2.2.1 d ht (fun q => kt q (by rw [if_pos q] at hf; exact hf) H locs ls hP hs hS hL) (fun q => kf q (by rw [if_neg q] at hf; exact hf) H locs ls hP hs hS hL)
theorem z_lcmp_le (C : zK X w own cc nL ret rm) {β : Type} {A B : Option β} {r : β} {x1 y1 : Int64} {off : Int} {pc1 : Nat} (tgt : Nat) (hf : (if x1 ≤ y1 then A else B) = some r) (d0 : decode cc pc = .ok (.lcmp, 1)) (he0 : pc + 1 = pc1) (d : decode cc pc1 = .ok (.ifCond .le off, 3)) (ht : (pc1 : Int) + off = (tgt : Int)) (he : pc1 + 3 = pc') (kt : x1 ≤ y1 → A = some r → zZ X w Q k n x N h tgt lv st) (kf : ¬ x1 ≤ y1 → B = some r → zZ X w Q k n x N h pc' lv st) : zZ X w Q k n x N h pc lv (.long y1 :: .long x1 :: st) := by
  subst he
  subst he0
  exact fun H locs ls hP hs hS hL => W.lcmp C.1 C.2.2.1 d0 (lv_if_le C.1 C.2.2.1 d ht (fun q => (fun q => kt q (by rw [if_pos q] at hf; exact hf) H locs ls hP hs hS hL) ((lg_cmp_le x1 y1).mp q)) (fun q => (fun q => kf q (by rw [if_neg q] at hf; exact hf) H locs ls hP hs hS hL) (fun z => q ((lg_cmp_le x1 y1).mpr z))))
end ZR
