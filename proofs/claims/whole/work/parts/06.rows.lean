/-! what holds of the machine around the worlds: text constants, statics of the library, words that calls keep in their own way -/
def zSt : List (String × Nat × String × List Int32) := [("ConstructionLedger", 299, "out of range", [111, 117, 116, 32, 111, 102, 32, 114, 97, 110, 103, 101]), ("ConstructionLedger$SetupReader", 76, "project", [112, 114, 111, 106, 101, 99, 116]), ("ConstructionLedger$SetupReader", 86, "main", [109, 97, 105, 110]), ("ConstructionLedger$SetupReader", 102, "sub", [115, 117, 98]), ("ConstructionLedger$SetupReader", 138, "linked", [108, 105, 110, 107, 101, 100]), ("ConstructionLedger$SetupReader", 111, "item", [105, 116, 101, 109]), ("ConstructionLedger$SetupReader", 116, "threshold", [116, 104, 114, 101, 115, 104, 111, 108, 100]), ("ConstructionLedger$SetupReader", 126, "rate", [114, 97, 116, 101]), ("ConstructionLedger$SetupReader", 160, "price", [112, 114, 105, 99, 101]), ("ConstructionLedger$SetupReader", 165, "first", [102, 105, 114, 115, 116]), ("ConstructionLedger$SetupReader", 167, "excess", [101, 120, 99, 101, 115, 115]), ("ConstructionLedger", 296, "no such index", [110, 111, 32, 115, 117, 99, 104, 32, 105, 110, 100, 101, 120]), ("ConstructionLedger", 230, "a change is not 0", [97, 32, 99, 104, 97, 110, 103, 101, 32, 105, 115, 32, 110, 111, 116, 32, 48]), ("ConstructionLedger", 303, "not possible now", [110, 111, 116, 32, 112, 111, 115, 115, 105, 98, 108, 101, 32, 110, 111, 119]), ("ConstructionLedger", 260, "not from 1 to the open amount", [110, 111, 116, 32, 102, 114, 111, 109, 32, 49, 32, 116, 111, 32, 116, 104, 101, 32, 111, 112, 101, 110, 32, 97, 109, 111, 117, 110, 116]), ("ConstructionLedgerModel", 159, "project", [112, 114, 111, 106, 101, 99, 116]), ("ConstructionLedgerModel", 166, "main", [109, 97, 105, 110]), ("ConstructionLedgerModel", 142, "sub", [115, 117, 98]), ("ConstructionLedgerModel", 138, "linked", [108, 105, 110, 107, 101, 100]), ("ConstructionLedgerModel", 147, "item", [105, 116, 101, 109]), ("ConstructionLedgerModel", 152, "threshold", [116, 104, 114, 101, 115, 104, 111, 108, 100]), ("ConstructionLedgerModel", 157, "rate", [114, 97, 116, 101]), ("ConstructionLedgerModel", 126, "price", [112, 114, 105, 99, 101]), ("ConstructionLedgerModel", 128, "first", [102, 105, 114, 115, 116]), ("ConstructionLedgerModel", 130, "excess", [101, 120, 99, 101, 115, 115])]
def zNest : List (String × Nat × MethodName × String) := [("ConstructionLedger", 11, { cls := "ConstructionLedger$SetupReader", name := "<init>", desc := "()V" }, "ConstructionLedger"), ("ConstructionLedger$SetupReader", 21, { cls := "ConstructionLedger$Project", name := "<init>", desc := "()V" }, "ConstructionLedger"), ("ConstructionLedger$Project", 21, { cls := "ConstructionLedger$Contracts", name := "<init>", desc := "()V" }, "ConstructionLedger"), ("ConstructionLedger$Project", 37, { cls := "ConstructionLedger$Items", name := "<init>", desc := "()V" }, "ConstructionLedger"), ("ConstructionLedger$Project", 44, { cls := "ConstructionLedger$Variations", name := "<init>", desc := "()V" }, "ConstructionLedger"), ("ConstructionLedger$Project", 51, { cls := "ConstructionLedger$Certificates", name := "<init>", desc := "()V" }, "ConstructionLedger"), ("ConstructionLedger$Project", 58, { cls := "ConstructionLedger$Liens", name := "<init>", desc := "()V" }, "ConstructionLedger"), ("ConstructionLedger", 29, { cls := "ConstructionLedger$Project", name := "<init>", desc := "()V" }, "ConstructionLedger")]
def zNcs : List (String × String) := [("java/lang/IndexOutOfBoundsException", "java/lang/IllegalArgumentException"), ("java/lang/IllegalStateException", "java/lang/IllegalArgumentException"), ("java/lang/IllegalArgumentException", "java/lang/IndexOutOfBoundsException"), ("java/lang/IllegalStateException", "java/lang/IndexOutOfBoundsException"), ("java/lang/IllegalArgumentException", "java/lang/IllegalStateException"), ("java/lang/IndexOutOfBoundsException", "java/lang/IllegalStateException")]
def zExs : List String := ["java/lang/IndexOutOfBoundsException", "java/lang/IllegalArgumentException", "java/lang/IllegalStateException"]
def zDcl : List MethodName := [{ cls := "java/lang/RuntimeException", name := "<init>", desc := "(Ljava/lang/String;)V" }, { cls := "java/lang/Exception", name := "<init>", desc := "(Ljava/lang/String;)V" }, { cls := "java/lang/Throwable", name := "<init>", desc := "(Ljava/lang/String;)V" }]
abbrev zA (w : zV) : Nat → Prop := fun q => zo w ≤ q
def zStr (bs : List Int32) (q v : Nat) (w : zV) (U : State) (H : Heap) : Prop := va_O "java/lang/String" q (zA w) U H ∧ va_OF "java/lang/String" "coder" "B" (.int 0) q (zA w) U H ∧ va_OF "java/lang/String" "value" "[B" (.ref v) q (zA w) U H ∧ va_T .byte v bs.length (fun j => .int (bs.getD j 0)) (zA w) U H
def zE (w : zV) (U : State) (H : Heap) : Prop :=
  (w.1.stackTraces = false ∧ (∀ (i : Nat) (q : String × Nat × String × List Int32), zSt[i]? = some q → vk_R q.1 q.2.1 q.2.2.1 (zsa w i) U) ∧ (∀ (i : Nat) (q : String × Nat × MethodName × String), zNest[i]? = some q → va_Nw (.methodLinkNest q.1 q.2.1 q.2.2.1 q.2.2.2) U) ∧ (∀ (i : Nat) (q : String × String), zNcs[i]? = some q → va_Nc q.1 q.2 U) ∧ va_AO "ConstructionLedger$Project" U ∧ (∀ (i : Nat) (q : String), zExs[i]? = some q → va_Nw (.castable q q) U) ∧ (∀ (i : Nat) (q : MethodName), zDcl[i]? = some q → va_Nw (.declares q) U)) ∧
  (∀ (i : Nat) (q : String × Nat × String × List Int32), zSt[i]? = some q → zStr q.2.2.2 (zsa w i) (zsv w i) w U H) ∧ va_Z "java/lang/String" "COMPACT_STRINGS" "Z" (.int 1) (zA w) U H ∧ va_Zq "jdk/internal/util/Preconditions" "SIOOBE_FORMATTER" "Ljava/util/function/BiFunction;" (zA w) U H ∧ vx_Zq Bundle.tN "UNASSIGNED_STACK" Bundle.steD (zA w) U H ∧ vx_Zq Bundle.tN "SUPPRESSED_SENTINEL" Bundle.listD (zA w) U H
theorem zE.next {w : zV} {s U : State} {H H1 : Heap} (hW : s.WarmedH U.vm) (hq : ∀ a : Nat, a < H.size → ¬ zA w a → H1[a]? = H[a]?) (h : zE w s H) : zE w U H1 := by
  obtain ⟨⟨h0, h1, h2, h3, h4, h4c, h4d⟩, h5, h6, h7, h8, h9⟩ := h
  have hv := hW.alike
  exact ⟨⟨h0, fun i q hi => vk_R.warm hW (h1 i q hi), fun i q hi => va_Nw.warmM hW (h2 i q hi), fun i q hi => (h3 i q hi).moved hv, h4.moved hv, fun i q hi => va_Nw.warmC hW (h4c i q hi), fun i q hi => va_Nw.warmD hW (h4d i q hi)⟩,
    fun i q hi => by
      obtain ⟨g1, g2, g3, g4⟩ := h5 i q hi
      exact ⟨(g1.kept hq).moved hv, (g2.kept hq).moved hv, (g3.kept hq).moved hv, (g4.kept hq).moved hv⟩, (h6.kept hq).moved hv, (h7.kept hq).moved hv, (h8.kept hq).moved hv, (h9.kept hq).moved hv⟩
theorem zE.same {w : zV} {u U : State} {H : Heap} (hvm : U.vm = u.vm) (h : zE w u H) : zE w U H := by
  obtain ⟨⟨h0, h1, h2, h3, h4, h4c, h4d⟩, h5, h6, h7, h8, h9⟩ := h
  have hv : u.vm.Alike U.vm := by rw [hvm]; exact Vm.Alike.refl u.vm
  exact ⟨⟨h0, fun i q hi => vk_R.same hvm (h1 i q hi), fun i q hi => va_Nw.same rfl hvm.symm (h2 i q hi), fun i q hi => (h3 i q hi).moved hv, h4.moved hv, fun i q hi => va_Nw.same rfl hvm.symm (h4c i q hi), fun i q hi => va_Nw.same rfl hvm.symm (h4d i q hi)⟩,
    fun i q hi => by
      obtain ⟨g1, g2, g3, g4⟩ := h5 i q hi
      exact ⟨g1.moved hv, g2.moved hv, g3.moved hv, g4.moved hv⟩, h6.moved hv, h7.moved hv, h8.moved hv, h9.moved hv⟩
section ZR
def zs (x : Bool) (w : zV) (N : Nat) (H : Heap) : Prop := x = true → H.size = zo w + N
def zWd (w : zV) (x : Bool) (N : Nat) (h : zH) : State → Prop := fun U => va_P (zD w) vwCl (zl w N h) U.heap ∧ va_K (zD w) vwCl (zty w) U ∧ zs x w N U.heap
def zZ (X : zC) (w : zV) (Q : State → Prop) (k n : Nat) (x : Bool) (N : Nat) (h : zH) (pc : Nat) (lv : List (Nat × Value)) (st : List Value) : Prop :=
  ∀ (H : Heap) (locs : List Loc) (ls : Array Slot), va_P (zD w) vwCl (zl w N h) H → zs x w N H → va_S (fun q => zo w ≤ q) X.2.2.2.2.1.heap H locs → lv_has ls X.2.2.2.2.2.2.2.2.2.maxLocals lv →
    W X.1 X.2.1 X.2.2.1 X.2.2.2.1 X.2.2.2.2.1 X.2.2.2.2.2.1 X.2.2.2.2.2.2.1 X.2.2.2.2.2.2.2.1 X.2.2.2.2.2.2.2.2.1 X.2.2.2.2.2.2.2.2.2 H locs k n Q (F0 X.2.2.2.2.2.1 pc ls st)
def zK (X : zC) (w : zV) (own : String) (cc : ByteArray) (nL : Nat) (ret : Option FieldType) (rm : Room) : Prop :=
  X.1.tables.exec = Jvm.exec ∧ X.2.1 = w.1 ∧ X.2.2.2.2.2.2.2.2.2.code = cc ∧ X.2.2.2.2.2.2.2.2.2.maxLocals = nL ∧ X.2.2.2.2.1.vm.findClass own = some X.2.2.2.2.2.1.cls ∧ (∀ q ∈ zG, q.before X.2.2.2.2.2.2.1 X.2.2.2.2.1 = true) ∧ X.2.2.2.2.2.2.2.2.1.locks = false ∧ X.2.2.2.2.2.2.2.2.1.sig.returnType = ret ∧ X.2.2.2.1 = rm ∧ va_K (zD w) vwCl (zty w) X.2.2.2.2.1 ∧ zE w X.2.2.2.2.1 X.2.2.2.2.1.heap
variable {X : zC} {w : zV} {Q : State → Prop} {k n : Nat} {x : Bool} {N : Nat} {h : zH} {pc pc' : Nat} {lv : List (Nat × Value)} {st : List Value} {own : String} {cc : ByteArray} {nL : Nat} {ret : Option FieldType} {rm : Room}
/-- one instruction that touches the stack alone -/
theorem z_eq {h' : zH} (e : h = h') (kk : zZ X w Q k n x N h' pc lv st) : zZ X w Q k n x N h pc lv st := by subst e; exact kk
theorem z_widen {k' n' : Nat} (h1 : k ≤ k') (h2 : n ≤ n') (kk : zZ X w Q k' n' x N h pc lv st) : zZ X w Q k n x N h pc lv st :=
  fun H locs ls hP hs hS hl => W.widen h1 h2 (kk H locs ls hP hs hS hl)
theorem z_pick {lv' : List (Nat × Value)} (ks : List Nat) (e : lv_pick lv ks = lv') (kk : zZ X w Q k n x N h pc lv' st) : zZ X w Q k n x N h pc lv st :=
  fun H locs ls hP hs hS hl => kk H locs ls hP hs hS (lv_sub hl ks e)
theorem z_iload (C : zK X w own cc nL ret rm) {i : Nat} (j : Nat) {v : Int32} (d : decode cc pc = .ok (.iload i, 2)) (hl : lv[j]? = some (i, .int v)) (he : pc + 2 = pc') (kk : zZ X w Q k n x N h pc' lv (.int v :: st)) : zZ X w Q k n x N h pc lv st := by
  subst he
  exact fun H locs ls hP hs hS hL => lv_iload C.1 C.2.2.1 d (lv_at hL j hl) (kk H locs ls hP hs hS hL)
theorem z_iload_n (C : zK X w own cc nL ret rm) {i : Nat} {m : Fin 4} (j : Nat) {v : Int32} (d : decode cc pc = .ok (.iload_n m, 1)) (hm : (m : Nat) = i) (hl : lv[j]? = some (i, .int v)) (he : pc + 1 = pc') (kk : zZ X w Q k n x N h pc' lv (.int v :: st)) : zZ X w Q k n x N h pc lv st := by
  subst he
  exact fun H locs ls hP hs hS hL => lv_iload_n C.1 C.2.2.1 d hm (lv_at hL j hl) (kk H locs ls hP hs hS hL)
theorem z_lload (C : zK X w own cc nL ret rm) {i : Nat} (j : Nat) {v : Int64} (d : decode cc pc = .ok (.lload i, 2)) (hl : lv[j]? = some (i, .long v)) (he : pc + 2 = pc') (kk : zZ X w Q k n x N h pc' lv (.long v :: st)) : zZ X w Q k n x N h pc lv st := by
  subst he
  exact fun H locs ls hP hs hS hL => lv_lload C.1 C.2.2.1 d (lv_at hL j hl) (kk H locs ls hP hs hS hL)
theorem z_lload_n (C : zK X w own cc nL ret rm) {i : Nat} {m : Fin 4} (j : Nat) {v : Int64} (d : decode cc pc = .ok (.lload_n m, 1)) (hm : (m : Nat) = i) (hl : lv[j]? = some (i, .long v)) (he : pc + 1 = pc') (kk : zZ X w Q k n x N h pc' lv (.long v :: st)) : zZ X w Q k n x N h pc lv st := by
  subst he
  exact fun H locs ls hP hs hS hL => lv_lload_n C.1 C.2.2.1 d hm (lv_at hL j hl) (kk H locs ls hP hs hS hL)
theorem z_aload (C : zK X w own cc nL ret rm) {i : Nat} (j : Nat) {v : Nat} (d : decode cc pc = .ok (.aload i, 2)) (hl : lv[j]? = some (i, .ref v)) (he : pc + 2 = pc') (kk : zZ X w Q k n x N h pc' lv (.ref v :: st)) : zZ X w Q k n x N h pc lv st := by
  subst he
  exact fun H locs ls hP hs hS hL => lv_aload C.1 C.2.2.1 d (lv_at hL j hl) (kk H locs ls hP hs hS hL)
theorem z_aload_n (C : zK X w own cc nL ret rm) {i : Nat} {m : Fin 4} (j : Nat) {v : Nat} (d : decode cc pc = .ok (.aload_n m, 1)) (hm : (m : Nat) = i) (hl : lv[j]? = some (i, .ref v)) (he : pc + 1 = pc') (kk : zZ X w Q k n x N h pc' lv (.ref v :: st)) : zZ X w Q k n x N h pc lv st := by
  subst he
  exact fun H locs ls hP hs hS hL => lv_aload_n C.1 C.2.2.1 d hm (lv_at hL j hl) (kk H locs ls hP hs hS hL)
theorem z_istore (C : zK X w own cc nL ret rm) {i : Nat} {v : Int32} (lv' : List (Nat × Value)) (d : decode cc pc = .ok (.istore i, 2)) (hn : Nat.blt i nL = true) (hl : (i, Value.int v) :: lv.filter (fun q => !(q.1 == i) && !(q.1 + 1 == i && q.2.category == 2)) = lv') (he : pc + 2 = pc') (kk : zZ X w Q k n x N h pc' lv' st) : zZ X w Q k n x N h pc lv (.int v :: st) := by
  subst he
  exact fun H locs ls hP hs hS hL => lv_istore C.1 C.2.2.1 d hL (by rw [C.2.2.2.1]; exact Nat.le_of_ble_eq_true hn) hl (fun ls' hL' => kk H locs ls' hP hs hS hL')
theorem z_istore_n (C : zK X w own cc nL ret rm) {i : Nat} {m : Fin 4} {v : Int32} (lv' : List (Nat × Value)) (d : decode cc pc = .ok (.istore_n m, 1)) (hm : (m : Nat) = i) (hn : Nat.blt i nL = true) (hl : (i, Value.int v) :: lv.filter (fun q => !(q.1 == i) && !(q.1 + 1 == i && q.2.category == 2)) = lv') (he : pc + 1 = pc') (kk : zZ X w Q k n x N h pc' lv' st) : zZ X w Q k n x N h pc lv (.int v :: st) := by
  subst he
  exact fun H locs ls hP hs hS hL => lv_istore_n C.1 C.2.2.1 d hm hL (by rw [C.2.2.2.1]; exact Nat.le_of_ble_eq_true hn) hl (fun ls' hL' => kk H locs ls' hP hs hS hL')
theorem z_lstore (C : zK X w own cc nL ret rm) {i : Nat} {v : Int64} (lv' : List (Nat × Value)) (d : decode cc pc = .ok (.lstore i, 2)) (hn : Nat.blt (i + 1) nL = true) (hl : (i, Value.long v) :: lv.filter (fun q => !(q.1 == i) && (!(q.1 == i + 1) && !(q.1 + 1 == i && q.2.category == 2))) = lv') (he : pc + 2 = pc') (kk : zZ X w Q k n x N h pc' lv' st) : zZ X w Q k n x N h pc lv (.long v :: st) := by
  subst he
  exact fun H locs ls hP hs hS hL => lv_lstore C.1 C.2.2.1 d hL (by rw [C.2.2.2.1]; exact Nat.le_of_ble_eq_true hn) hl (fun ls' hL' => kk H locs ls' hP hs hS hL')
theorem z_lstore_n (C : zK X w own cc nL ret rm) {i : Nat} {m : Fin 4} {v : Int64} (lv' : List (Nat × Value)) (d : decode cc pc = .ok (.lstore_n m, 1)) (hm : (m : Nat) = i) (hn : Nat.blt (i + 1) nL = true) (hl : (i, Value.long v) :: lv.filter (fun q => !(q.1 == i) && (!(q.1 == i + 1) && !(q.1 + 1 == i && q.2.category == 2))) = lv') (he : pc + 1 = pc') (kk : zZ X w Q k n x N h pc' lv' st) : zZ X w Q k n x N h pc lv (.long v :: st) := by
  subst he
  exact fun H locs ls hP hs hS hL => lv_lstore_n C.1 C.2.2.1 d hm hL (by rw [C.2.2.2.1]; exact Nat.le_of_ble_eq_true hn) hl (fun ls' hL' => kk H locs ls' hP hs hS hL')
theorem z_astore (C : zK X w own cc nL ret rm) {i : Nat} {v : Nat} (lv' : List (Nat × Value)) (d : decode cc pc = .ok (.astore i, 2)) (hn : Nat.blt i nL = true) (hl : (i, Value.ref v) :: lv.filter (fun q => !(q.1 == i) && !(q.1 + 1 == i && q.2.category == 2)) = lv') (he : pc + 2 = pc') (kk : zZ X w Q k n x N h pc' lv' st) : zZ X w Q k n x N h pc lv (.ref v :: st) := by
  subst he
  exact fun H locs ls hP hs hS hL => lv_astore C.1 C.2.2.1 d hL (by rw [C.2.2.2.1]; exact Nat.le_of_ble_eq_true hn) hl (fun ls' hL' => kk H locs ls' hP hs hS hL')
theorem z_astore_n (C : zK X w own cc nL ret rm) {i : Nat} {m : Fin 4} {v : Nat} (lv' : List (Nat × Value)) (d : decode cc pc = .ok (.astore_n m, 1)) (hm : (m : Nat) = i) (hn : Nat.blt i nL = true) (hl : (i, Value.ref v) :: lv.filter (fun q => !(q.1 == i) && !(q.1 + 1 == i && q.2.category == 2)) = lv') (he : pc + 1 = pc') (kk : zZ X w Q k n x N h pc' lv' st) : zZ X w Q k n x N h pc lv (.ref v :: st) := by
  subst he
  exact fun H locs ls hP hs hS hL => lv_astore_n C.1 C.2.2.1 d hm hL (by rw [C.2.2.2.1]; exact Nat.le_of_ble_eq_true hn) hl (fun ls' hL' => kk H locs ls' hP hs hS hL')
theorem z_iinc (C : zK X w own cc nL ret rm) {i : Nat} {c : Int} (j : Nat) {u c' : Int32} (lv' : List (Nat × Value)) (d : decode cc pc = .ok (.iinc i c, 3)) (hj : lv[j]? = some (i, .int u)) (hc : Int32.ofInt c = c') (hn : Nat.blt i nL = true) (hl : (i, Value.int (u + c')) :: lv.filter (fun q => !(q.1 == i) && !(q.1 + 1 == i && q.2.category == 2)) = lv') (he : pc + 3 = pc') (kk : zZ X w Q k n x N h pc' lv' st) : zZ X w Q k n x N h pc lv st := by
  subst he
  exact fun H locs ls hP hs hS hL => lv_iinc C.1 C.2.2.1 d hL hj (by rw [hc]) (by rw [C.2.2.2.1]; exact Nat.le_of_ble_eq_true hn) hl (fun ls' hL' => kk H locs ls' hP hs hS hL')
theorem z_iconst (C : zK X w own cc nL ret rm) {c : Int} {v : Int32} (d : decode cc pc = .ok (.iconst c, 1)) (hv : Int32.ofInt c = v) (he : pc + 1 = pc') (kk : zZ X w Q k n x N h pc' lv (.int v :: st)) : zZ X w Q k n x N h pc lv st := by
  subst he
  exact fun H locs ls hP hs hS hL => lv_iconst C.1 C.2.2.1 d hv (kk H locs ls hP hs hS hL)
theorem z_bipush (C : zK X w own cc nL ret rm) {c : Int} {v : Int32} (d : decode cc pc = .ok (.bipush c, 2)) (hv : (Int8.ofInt c).toInt32 = v) (he : pc + 2 = pc') (kk : zZ X w Q k n x N h pc' lv (.int v :: st)) : zZ X w Q k n x N h pc lv st := by
  subst he
  exact fun H locs ls hP hs hS hL => lv_bipush C.1 C.2.2.1 d hv (kk H locs ls hP hs hS hL)
theorem z_sipush (C : zK X w own cc nL ret rm) {c : Int} {v : Int32} (d : decode cc pc = .ok (.sipush c, 3)) (hv : (Int16.ofInt c).toInt32 = v) (he : pc + 3 = pc') (kk : zZ X w Q k n x N h pc' lv (.int v :: st)) : zZ X w Q k n x N h pc lv st := by
  subst he
  exact fun H locs ls hP hs hS hL => lv_sipush C.1 C.2.2.1 d hv (kk H locs ls hP hs hS hL)
theorem z_lconst (C : zK X w own cc nL ret rm) {c : Fin 2} {v : Int64} (d : decode cc pc = .ok (.lconst c, 1)) (hv : Int64.ofNat (c : Nat) = v) (he : pc + 1 = pc') (kk : zZ X w Q k n x N h pc' lv (.long v :: st)) : zZ X w Q k n x N h pc lv st := by
  subst he
  exact fun H locs ls hP hs hS hL => lv_lconst C.1 C.2.2.1 d hv (kk H locs ls hP hs hS hL)
theorem z_ldc (C : zK X w own cc nL ret rm) {i : Nat} {v : Int32} (hw : Cond.constant own i v ∈ zG) (d : decode cc pc = .ok (.ldc i, 2)) (he : pc + 2 = pc') (kk : zZ X w Q k n x N h pc' lv (.int v :: st)) : zZ X w Q k n x N h pc lv st := by
  subst he
  exact fun H locs ls hP hs hS hL => lv_ldc C.1 C.2.2.1 C.2.2.2.2.1 (C.2.2.2.2.2.1 _ hw) d (kk H locs ls hP hs hS hL)
theorem z_ldcw (C : zK X w own cc nL ret rm) {i : Nat} {v : Int32} (hw : Cond.constant own i v ∈ zG) (d : decode cc pc = .ok (.ldc_w i, 3)) (he : pc + 3 = pc') (kk : zZ X w Q k n x N h pc' lv (.int v :: st)) : zZ X w Q k n x N h pc lv st := by
  subst he
  exact fun H locs ls hP hs hS hL => lv_ldcw C.1 C.2.2.1 C.2.2.2.2.1 (C.2.2.2.2.2.1 _ hw) d (kk H locs ls hP hs hS hL)
theorem z_ldc2 (C : zK X w own cc nL ret rm) {i : Nat} {v : Int64} (hw : Cond.constantLong own i v ∈ zG) (d : decode cc pc = .ok (.ldc2_w i, 3)) (he : pc + 3 = pc') (kk : zZ X w Q k n x N h pc' lv (.long v :: st)) : zZ X w Q k n x N h pc lv st := by
  subst he
  exact fun H locs ls hP hs hS hL => lv_ldc2 C.1 C.2.2.1 C.2.2.2.2.1 (C.2.2.2.2.2.1 _ hw) d (kk H locs ls hP hs hS hL)
theorem z_dup (C : zK X w own cc nL ret rm) {v : Value} (d : decode cc pc = .ok (.dup, 1)) (hv : v.category = 1) (he : pc + 1 = pc') (kk : zZ X w Q k n x N h pc' lv (v :: v :: st)) : zZ X w Q k n x N h pc lv (v :: st) := by
  subst he
  exact fun H locs ls hP hs hS hL => lv_dup C.1 C.2.2.1 d hv (kk H locs ls hP hs hS hL)
theorem z_dup2 (C : zK X w own cc nL ret rm) {u v : Value} (d : decode cc pc = .ok (.dup2, 1)) (hu : u.category = 1) (hv : v.category = 1) (he : pc + 1 = pc') (kk : zZ X w Q k n x N h pc' lv (u :: v :: u :: v :: st)) : zZ X w Q k n x N h pc lv (u :: v :: st) := by
  subst he
  exact fun H locs ls hP hs hS hL => lv_dup2_11 C.1 C.2.2.1 d hu hv (kk H locs ls hP hs hS hL)
theorem z_pop (C : zK X w own cc nL ret rm) {v : Value} (d : decode cc pc = .ok (.pop, 1)) (hv : v.category = 1) (he : pc + 1 = pc') (kk : zZ X w Q k n x N h pc' lv st) : zZ X w Q k n x N h pc lv (v :: st) := by
  subst he
  exact fun H locs ls hP hs hS hL => lv_pop C.1 C.2.2.1 d hv (kk H locs ls hP hs hS hL)
theorem z_pop2 (C : zK X w own cc nL ret rm) {v : Value} (d : decode cc pc = .ok (.pop2, 1)) (hv : v.category = 2) (he : pc + 1 = pc') (kk : zZ X w Q k n x N h pc' lv st) : zZ X w Q k n x N h pc lv (v :: st) := by
  subst he
  exact fun H locs ls hP hs hS hL => lv_pop2_2 C.1 C.2.2.1 d hv (kk H locs ls hP hs hS hL)
theorem z_goto (C : zK X w own cc nL ret rm) {off : Int} (tgt : Nat) (d : decode cc pc = .ok (.goto off, 3)) (ht : (pc : Int) + off = (tgt : Int)) (kk : zZ X w Q k n x N h tgt lv st) : zZ X w Q k n x N h pc lv st :=
  fun H locs ls hP hs hS hL => lv_goto C.1 C.2.2.1 d ht (kk H locs ls hP hs hS hL)
theorem z_iadd (C : zK X w own cc nL ret rm) {x1 y1 : Int32} (d : decode cc pc = .ok (.iadd, 1)) (he : pc + 1 = pc') (kk : zZ X w Q k n x N h pc' lv (.int (x1 + y1) :: st)) : zZ X w Q k n x N h pc lv (.int y1 :: .int x1 :: st) := by
  subst he
  exact fun H locs ls hP hs hS hL => lv_iadd C.1 C.2.2.1 d (kk H locs ls hP hs hS hL)
theorem z_isub (C : zK X w own cc nL ret rm) {x1 y1 : Int32} (d : decode cc pc = .ok (.isub, 1)) (he : pc + 1 = pc') (kk : zZ X w Q k n x N h pc' lv (.int (x1 - y1) :: st)) : zZ X w Q k n x N h pc lv (.int y1 :: .int x1 :: st) := by
  subst he
  exact fun H locs ls hP hs hS hL => lv_isub C.1 C.2.2.1 d (kk H locs ls hP hs hS hL)
theorem z_imul (C : zK X w own cc nL ret rm) {x1 y1 : Int32} (d : decode cc pc = .ok (.imul, 1)) (he : pc + 1 = pc') (kk : zZ X w Q k n x N h pc' lv (.int (x1 * y1) :: st)) : zZ X w Q k n x N h pc lv (.int y1 :: .int x1 :: st) := by
  subst he
  exact fun H locs ls hP hs hS hL => lv_imul C.1 C.2.2.1 d (kk H locs ls hP hs hS hL)
theorem z_idiv (C : zK X w own cc nL ret rm) {x1 y1 : Int32} (d : decode cc pc = .ok (.idiv, 1)) (hne : ¬ y1 = 0) (he : pc + 1 = pc') (kk : zZ X w Q k n x N h pc' lv (.int (x1 / y1) :: st)) : zZ X w Q k n x N h pc lv (.int y1 :: .int x1 :: st) := by
  subst he
  exact fun H locs ls hP hs hS hL => lv_idiv C.1 C.2.2.1 d hne (kk H locs ls hP hs hS hL)
theorem z_irem (C : zK X w own cc nL ret rm) {x1 y1 : Int32} (d : decode cc pc = .ok (.irem, 1)) (hne : ¬ y1 = 0) (he : pc + 1 = pc') (kk : zZ X w Q k n x N h pc' lv (.int (x1 - x1 / y1 * y1) :: st)) : zZ X w Q k n x N h pc lv (.int y1 :: .int x1 :: st) := by
  subst he
  exact fun H locs ls hP hs hS hL => lv_irem C.1 C.2.2.1 d hne (kk H locs ls hP hs hS hL)
theorem z_iand (C : zK X w own cc nL ret rm) {x1 y1 : Int32} (d : decode cc pc = .ok (.iand, 1)) (he : pc + 1 = pc') (kk : zZ X w Q k n x N h pc' lv (.int (x1 &&& y1) :: st)) : zZ X w Q k n x N h pc lv (.int y1 :: .int x1 :: st) := by
  subst he
  exact fun H locs ls hP hs hS hL => lv_iand C.1 C.2.2.1 d (kk H locs ls hP hs hS hL)
theorem z_ior (C : zK X w own cc nL ret rm) {x1 y1 : Int32} (d : decode cc pc = .ok (.ior, 1)) (he : pc + 1 = pc') (kk : zZ X w Q k n x N h pc' lv (.int (x1 ||| y1) :: st)) : zZ X w Q k n x N h pc lv (.int y1 :: .int x1 :: st) := by
  subst he
  exact fun H locs ls hP hs hS hL => lv_ior C.1 C.2.2.1 d (kk H locs ls hP hs hS hL)
theorem z_ishl (C : zK X w own cc nL ret rm) {x1 y1 : Int32} (d : decode cc pc = .ok (.ishl, 1)) (he : pc + 1 = pc') (kk : zZ X w Q k n x N h pc' lv (.int (x1 <<< (y1 &&& 31)) :: st)) : zZ X w Q k n x N h pc lv (.int y1 :: .int x1 :: st) := by
  subst he
  exact fun H locs ls hP hs hS hL => lv_ishl C.1 C.2.2.1 d (kk H locs ls hP hs hS hL)
theorem z_ishr (C : zK X w own cc nL ret rm) {x1 y1 : Int32} (d : decode cc pc = .ok (.ishr, 1)) (he : pc + 1 = pc') (kk : zZ X w Q k n x N h pc' lv (.int (x1 >>> (y1 &&& 31)) :: st)) : zZ X w Q k n x N h pc lv (.int y1 :: .int x1 :: st) := by
  subst he
  exact fun H locs ls hP hs hS hL => lv_ishr C.1 C.2.2.1 d (kk H locs ls hP hs hS hL)
theorem z_ladd (C : zK X w own cc nL ret rm) {x1 y1 : Int64} (d : decode cc pc = .ok (.ladd, 1)) (he : pc + 1 = pc') (kk : zZ X w Q k n x N h pc' lv (.long (x1 + y1) :: st)) : zZ X w Q k n x N h pc lv (.long y1 :: .long x1 :: st) := by
  subst he
  exact fun H locs ls hP hs hS hL => lv_ladd C.1 C.2.2.1 d (kk H locs ls hP hs hS hL)
theorem z_lsub (C : zK X w own cc nL ret rm) {x1 y1 : Int64} (d : decode cc pc = .ok (.lsub, 1)) (he : pc + 1 = pc') (kk : zZ X w Q k n x N h pc' lv (.long (x1 - y1) :: st)) : zZ X w Q k n x N h pc lv (.long y1 :: .long x1 :: st) := by
  subst he
  exact fun H locs ls hP hs hS hL => lv_lsub C.1 C.2.2.1 d (kk H locs ls hP hs hS hL)
theorem z_lmul (C : zK X w own cc nL ret rm) {x1 y1 : Int64} (d : decode cc pc = .ok (.lmul, 1)) (he : pc + 1 = pc') (kk : zZ X w Q k n x N h pc' lv (.long (x1 * y1) :: st)) : zZ X w Q k n x N h pc lv (.long y1 :: .long x1 :: st) := by
  subst he
  exact fun H locs ls hP hs hS hL => lv_lmul C.1 C.2.2.1 d (kk H locs ls hP hs hS hL)
theorem z_ldiv (C : zK X w own cc nL ret rm) {x1 y1 : Int64} (d : decode cc pc = .ok (.ldiv, 1)) (hne : ¬ y1 = 0) (he : pc + 1 = pc') (kk : zZ X w Q k n x N h pc' lv (.long (x1 / y1) :: st)) : zZ X w Q k n x N h pc lv (.long y1 :: .long x1 :: st) := by
  subst he
  exact fun H locs ls hP hs hS hL => lv_ldiv C.1 C.2.2.1 d hne (kk H locs ls hP hs hS hL)
theorem z_iushr (C : zK X w own cc nL ret rm) {x1 y1 : Int32} (d : decode cc pc = .ok (.iushr, 1)) (he : pc + 1 = pc') (kk : zZ X w Q k n x N h pc' lv (.int ((x1.toUInt32 >>> (y1.toUInt32 &&& Int32.toUInt32 31)).toInt32) :: st)) : zZ X w Q k n x N h pc lv (.int y1 :: .int x1 :: st) := by
  subst he
  exact fun H locs ls hP hs hS hL => lv_iushr C.1 C.2.2.1 d rfl (kk H locs ls hP hs hS hL)
theorem z_i2l (C : zK X w own cc nL ret rm) {x1 : Int32} (d : decode cc pc = .ok (.i2l, 1)) (he : pc + 1 = pc') (kk : zZ X w Q k n x N h pc' lv (.long (x1.toInt64) :: st)) : zZ X w Q k n x N h pc lv (.int x1 :: st) := by
  subst he
  exact fun H locs ls hP hs hS hL => lv_i2l C.1 C.2.2.1 d rfl (kk H locs ls hP hs hS hL)
theorem z_l2i (C : zK X w own cc nL ret rm) {x1 : Int64} (d : decode cc pc = .ok (.l2i, 1)) (he : pc + 1 = pc') (kk : zZ X w Q k n x N h pc' lv (.int (x1.toInt32) :: st)) : zZ X w Q k n x N h pc lv (.long x1 :: st) := by
  subst he
  exact fun H locs ls hP hs hS hL => lv_l2i C.1 C.2.2.1 d rfl (kk H locs ls hP hs hS hL)
theorem z_i2b (C : zK X w own cc nL ret rm) {x1 : Int32} (d : decode cc pc = .ok (.i2b, 1)) (he : pc + 1 = pc') (kk : zZ X w Q k n x N h pc' lv (.int (x1.toInt8.toInt32) :: st)) : zZ X w Q k n x N h pc lv (.int x1 :: st) := by
  subst he
  exact fun H locs ls hP hs hS hL => lv_i2b C.1 C.2.2.1 d rfl (kk H locs ls hP hs hS hL)
theorem z_icmp_eq (C : zK X w own cc nL ret rm) {β : Type} {A B : Option β} {r : β} {x1 y1 : Int32} {off : Int} (tgt : Nat) (hf : (if x1 = y1 then A else B) = some r) (d : decode cc pc = .ok (.if_icmp .eq off, 3)) (ht : (pc : Int) + off = (tgt : Int)) (he : pc + 3 = pc') (kt : x1 = y1 → A = some r → zZ X w Q k n x N h tgt lv st) (kf : ¬ x1 = y1 → B = some r → zZ X w Q k n x N h pc' lv st) : zZ X w Q k n x N h pc lv (.int y1 :: .int x1 :: st) := by
  subst he
  exact fun H locs ls hP hs hS hL => lv_icmp_eq C.1 C.2.2.1 d ht (fun q => kt q (by rw [if_pos q] at hf; exact hf) H locs ls hP hs hS hL) (fun q => kf q (by rw [if_neg q] at hf; exact hf) H locs ls hP hs hS hL)
theorem z_if_eq (C : zK X w own cc nL ret rm) {β : Type} {A B : Option β} {r : β} {x1 : Int32} {off : Int} (tgt : Nat) (hf : (if x1 = 0 then A else B) = some r) (d : decode cc pc = .ok (.ifCond .eq off, 3)) (ht : (pc : Int) + off = (tgt : Int)) (he : pc + 3 = pc') (kt : x1 = 0 → A = some r → zZ X w Q k n x N h tgt lv st) (kf : ¬ x1 = 0 → B = some r → zZ X w Q k n x N h pc' lv st) : zZ X w Q k n x N h pc lv (.int x1 :: st) := by
  subst he
  exact fun H locs ls hP hs hS hL => lv_if_eq C.1 C.2.2.1 d ht (fun q => kt q (by rw [if_pos q] at hf; exact hf) H locs ls hP hs hS hL) (fun q => kf q (by rw [if_neg q] at hf; exact hf) H locs ls hP hs hS hL)
theorem z_lcmp_eq (C : zK X w own cc nL ret rm) {β : Type} {A B : Option β} {r : β} {x1 y1 : Int64} {off : Int} {pc1 : Nat} (tgt : Nat) (hf : (if x1 = y1 then A else B) = some r) (d0 : decode cc pc = .ok (.lcmp, 1)) (he0 : pc + 1 = pc1) (d : decode cc pc1 = .ok (.ifCond .eq off, 3)) (ht : (pc1 : Int) + off = (tgt : Int)) (he : pc1 + 3 = pc') (kt : x1 = y1 → A = some r → zZ X w Q k n x N h tgt lv st) (kf : ¬ x1 = y1 → B = some r → zZ X w Q k n x N h pc' lv st) : zZ X w Q k n x N h pc lv (.long y1 :: .long x1 :: st) := by
  subst he
  subst he0
  exact fun H locs ls hP hs hS hL => W.lcmp C.1 C.2.2.1 d0 (lv_if_eq C.1 C.2.2.1 d ht (fun q => (fun q => kt q (by rw [if_pos q] at hf; exact hf) H locs ls hP hs hS hL) ((lg_cmp_eq x1 y1).mp q)) (fun q => (fun q => kf q (by rw [if_neg q] at hf; exact hf) H locs ls hP hs hS hL) (fun z => q ((lg_cmp_eq x1 y1).mpr z))))
theorem z_icmp_ne (C : zK X w own cc nL ret rm) {β : Type} {A B : Option β} {r : β} {x1 y1 : Int32} {off : Int} (tgt : Nat) (hf : (if x1 = y1 then B else A) = some r) (d : decode cc pc = .ok (.if_icmp .ne off, 3)) (ht : (pc : Int) + off = (tgt : Int)) (he : pc + 3 = pc') (kt : ¬ x1 = y1 → A = some r → zZ X w Q k n x N h tgt lv st) (kf : x1 = y1 → B = some r → zZ X w Q k n x N h pc' lv st) : zZ X w Q k n x N h pc lv (.int y1 :: .int x1 :: st) := by
  subst he
  exact fun H locs ls hP hs hS hL => lv_icmp_ne C.1 C.2.2.1 d ht (fun q => kt q (by rw [if_neg q] at hf; exact hf) H locs ls hP hs hS hL) (fun q => (fun q => kf q (by rw [if_pos q] at hf; exact hf) H locs ls hP hs hS hL) q)
theorem z_if_ne (C : zK X w own cc nL ret rm) {β : Type} {A B : Option β} {r : β} {x1 : Int32} {off : Int} (tgt : Nat) (hf : (if x1 = 0 then B else A) = some r) (d : decode cc pc = .ok (.ifCond .ne off, 3)) (ht : (pc : Int) + off = (tgt : Int)) (he : pc + 3 = pc') (kt : ¬ x1 = 0 → A = some r → zZ X w Q k n x N h tgt lv st) (kf : x1 = 0 → B = some r → zZ X w Q k n x N h pc' lv st) : zZ X w Q k n x N h pc lv (.int x1 :: st) := by
  subst he
  exact fun H locs ls hP hs hS hL => lv_if_ne C.1 C.2.2.1 d ht (fun q => kt q (by rw [if_neg q] at hf; exact hf) H locs ls hP hs hS hL) (fun q => (fun q => kf q (by rw [if_pos q] at hf; exact hf) H locs ls hP hs hS hL) q)
theorem z_lcmp_ne (C : zK X w own cc nL ret rm) {β : Type} {A B : Option β} {r : β} {x1 y1 : Int64} {off : Int} {pc1 : Nat} (tgt : Nat) (hf : (if x1 = y1 then B else A) = some r) (d0 : decode cc pc = .ok (.lcmp, 1)) (he0 : pc + 1 = pc1) (d : decode cc pc1 = .ok (.ifCond .ne off, 3)) (ht : (pc1 : Int) + off = (tgt : Int)) (he : pc1 + 3 = pc') (kt : ¬ x1 = y1 → A = some r → zZ X w Q k n x N h tgt lv st) (kf : x1 = y1 → B = some r → zZ X w Q k n x N h pc' lv st) : zZ X w Q k n x N h pc lv (.long y1 :: .long x1 :: st) := by
  subst he
  subst he0
  exact fun H locs ls hP hs hS hL => W.lcmp C.1 C.2.2.1 d0 (lv_if_ne C.1 C.2.2.1 d ht (fun q => (fun q => kt q (by rw [if_neg q] at hf; exact hf) H locs ls hP hs hS hL) (fun z => q ((lg_cmp_eq x1 y1).mpr z))) (fun q => (fun q => kf q (by rw [if_pos q] at hf; exact hf) H locs ls hP hs hS hL) ((lg_cmp_eq x1 y1).mp q)))
theorem z_icmp_lt (C : zK X w own cc nL ret rm) {β : Type} {A B : Option β} {r : β} {x1 y1 : Int32} {off : Int} (tgt : Nat) (hf : (if x1 < y1 then A else B) = some r) (d : decode cc pc = .ok (.if_icmp .lt off, 3)) (ht : (pc : Int) + off = (tgt : Int)) (he : pc + 3 = pc') (kt : x1 < y1 → A = some r → zZ X w Q k n x N h tgt lv st) (kf : ¬ x1 < y1 → B = some r → zZ X w Q k n x N h pc' lv st) : zZ X w Q k n x N h pc lv (.int y1 :: .int x1 :: st) := by
  subst he
  exact fun H locs ls hP hs hS hL => lv_icmp_lt C.1 C.2.2.1 d ht (fun q => kt q (by rw [if_pos q] at hf; exact hf) H locs ls hP hs hS hL) (fun q => kf q (by rw [if_neg q] at hf; exact hf) H locs ls hP hs hS hL)
theorem z_if_lt (C : zK X w own cc nL ret rm) {β : Type} {A B : Option β} {r : β} {x1 : Int32} {off : Int} (tgt : Nat) (hf : (if x1 < 0 then A else B) = some r) (d : decode cc pc = .ok (.ifCond .lt off, 3)) (ht : (pc : Int) + off = (tgt : Int)) (he : pc + 3 = pc') (kt : x1 < 0 → A = some r → zZ X w Q k n x N h tgt lv st) (kf : ¬ x1 < 0 → B = some r → zZ X w Q k n x N h pc' lv st) : zZ X w Q k n x N h pc lv (.int x1 :: st) := by
  subst he
  exact fun H locs ls hP hs hS hL => lv_if_lt C.1 C.2.2.1 d ht (fun q => kt q (by rw [if_pos q] at hf; exact hf) H locs ls hP hs hS hL) (fun q => kf q (by rw [if_neg q] at hf; exact hf) H locs ls hP hs hS hL)
theorem z_lcmp_lt (C : zK X w own cc nL ret rm) {β : Type} {A B : Option β} {r : β} {x1 y1 : Int64} {off : Int} {pc1 : Nat} (tgt : Nat) (hf : (if x1 < y1 then A else B) = some r) (d0 : decode cc pc = .ok (.lcmp, 1)) (he0 : pc + 1 = pc1) (d : decode cc pc1 = .ok (.ifCond .lt off, 3)) (ht : (pc1 : Int) + off = (tgt : Int)) (he : pc1 + 3 = pc') (kt : x1 < y1 → A = some r → zZ X w Q k n x N h tgt lv st) (kf : ¬ x1 < y1 → B = some r → zZ X w Q k n x N h pc' lv st) : zZ X w Q k n x N h pc lv (.long y1 :: .long x1 :: st) := by
  subst he
  subst he0
  exact fun H locs ls hP hs hS hL => W.lcmp C.1 C.2.2.1 d0 (lv_if_lt C.1 C.2.2.1 d ht (fun q => (fun q => kt q (by rw [if_pos q] at hf; exact hf) H locs ls hP hs hS hL) ((lg_cmp_lt x1 y1).mp q)) (fun q => (fun q => kf q (by rw [if_neg q] at hf; exact hf) H locs ls hP hs hS hL) (fun z => q ((lg_cmp_lt x1 y1).mpr z))))
theorem z_icmp_ge (C : zK X w own cc nL ret rm) {β : Type} {A B : Option β} {r : β} {x1 y1 : Int32} {off : Int} (tgt : Nat) (hf : (if y1 ≤ x1 then A else B) = some r) (d : decode cc pc = .ok (.if_icmp .ge off, 3)) (ht : (pc : Int) + off = (tgt : Int)) (he : pc + 3 = pc') (kt : y1 ≤ x1 → A = some r → zZ X w Q k n x N h tgt lv st) (kf : ¬ y1 ≤ x1 → B = some r → zZ X w Q k n x N h pc' lv st) : zZ X w Q k n x N h pc lv (.int y1 :: .int x1 :: st) := by
  subst he
  exact fun H locs ls hP hs hS hL => lv_icmp_ge C.1 C.2.2.1 d ht (fun q => kt q (by rw [if_pos q] at hf; exact hf) H locs ls hP hs hS hL) (fun q => kf q (by rw [if_neg q] at hf; exact hf) H locs ls hP hs hS hL)
theorem z_if_ge (C : zK X w own cc nL ret rm) {β : Type} {A B : Option β} {r : β} {x1 : Int32} {off : Int} (tgt : Nat) (hf : (if 0 ≤ x1 then A else B) = some r) (d : decode cc pc = .ok (.ifCond .ge off, 3)) (ht : (pc : Int) + off = (tgt : Int)) (he : pc + 3 = pc') (kt : 0 ≤ x1 → A = some r → zZ X w Q k n x N h tgt lv st) (kf : ¬ 0 ≤ x1 → B = some r → zZ X w Q k n x N h pc' lv st) : zZ X w Q k n x N h pc lv (.int x1 :: st) := by
  subst he
  exact fun H locs ls hP hs hS hL => lv_if_ge C.1 C.2.2.1 d ht (fun q => kt q (by rw [if_pos q] at hf; exact hf) H locs ls hP hs hS hL) (fun q => kf q (by rw [if_neg q] at hf; exact hf) H locs ls hP hs hS hL)
theorem z_lcmp_ge (C : zK X w own cc nL ret rm) {β : Type} {A B : Option β} {r : β} {x1 y1 : Int64} {off : Int} {pc1 : Nat} (tgt : Nat) (hf : (if y1 ≤ x1 then A else B) = some r) (d0 : decode cc pc = .ok (.lcmp, 1)) (he0 : pc + 1 = pc1) (d : decode cc pc1 = .ok (.ifCond .ge off, 3)) (ht : (pc1 : Int) + off = (tgt : Int)) (he : pc1 + 3 = pc') (kt : y1 ≤ x1 → A = some r → zZ X w Q k n x N h tgt lv st) (kf : ¬ y1 ≤ x1 → B = some r → zZ X w Q k n x N h pc' lv st) : zZ X w Q k n x N h pc lv (.long y1 :: .long x1 :: st) := by
  subst he
  subst he0
  exact fun H locs ls hP hs hS hL => W.lcmp C.1 C.2.2.1 d0 (lv_if_ge C.1 C.2.2.1 d ht (fun q => (fun q => kt q (by rw [if_pos q] at hf; exact hf) H locs ls hP hs hS hL) ((lg_cmp_ge x1 y1).mp q)) (fun q => (fun q => kf q (by rw [if_neg q] at hf; exact hf) H locs ls hP hs hS hL) (fun z => q ((lg_cmp_ge x1 y1).mpr z))))
theorem z_icmp_gt (C : zK X w own cc nL ret rm) {β : Type} {A B : Option β} {r : β} {x1 y1 : Int32} {off : Int} (tgt : Nat) (hf : (if y1 < x1 then A else B) = some r) (d : decode cc pc = .ok (.if_icmp .gt off, 3)) (ht : (pc : Int) + off = (tgt : Int)) (he : pc + 3 = pc') (kt : y1 < x1 → A = some r → zZ X w Q k n x N h tgt lv st) (kf : ¬ y1 < x1 → B = some r → zZ X w Q k n x N h pc' lv st) : zZ X w Q k n x N h pc lv (.int y1 :: .int x1 :: st) := by
  subst he
  exact fun H locs ls hP hs hS hL => lv_icmp_gt C.1 C.2.2.1 d ht (fun q => kt q (by rw [if_pos q] at hf; exact hf) H locs ls hP hs hS hL) (fun q => kf q (by rw [if_neg q] at hf; exact hf) H locs ls hP hs hS hL)
theorem z_if_gt (C : zK X w own cc nL ret rm) {β : Type} {A B : Option β} {r : β} {x1 : Int32} {off : Int} (tgt : Nat) (hf : (if 0 < x1 then A else B) = some r) (d : decode cc pc = .ok (.ifCond .gt off, 3)) (ht : (pc : Int) + off = (tgt : Int)) (he : pc + 3 = pc') (kt : 0 < x1 → A = some r → zZ X w Q k n x N h tgt lv st) (kf : ¬ 0 < x1 → B = some r → zZ X w Q k n x N h pc' lv st) : zZ X w Q k n x N h pc lv (.int x1 :: st) := by
  subst he
  exact fun H locs ls hP hs hS hL => lv_if_gt C.1 C.2.2.1 d ht (fun q => kt q (by rw [if_pos q] at hf; exact hf) H locs ls hP hs hS hL) (fun q => kf q (by rw [if_neg q] at hf; exact hf) H locs ls hP hs hS hL)
theorem z_lcmp_gt (C : zK X w own cc nL ret rm) {β : Type} {A B : Option β} {r : β} {x1 y1 : Int64} {off : Int} {pc1 : Nat} (tgt : Nat) (hf : (if y1 < x1 then A else B) = some r) (d0 : decode cc pc = .ok (.lcmp, 1)) (he0 : pc + 1 = pc1) (d : decode cc pc1 = .ok (.ifCond .gt off, 3)) (ht : (pc1 : Int) + off = (tgt : Int)) (he : pc1 + 3 = pc') (kt : y1 < x1 → A = some r → zZ X w Q k n x N h tgt lv st) (kf : ¬ y1 < x1 → B = some r → zZ X w Q k n x N h pc' lv st) : zZ X w Q k n x N h pc lv (.long y1 :: .long x1 :: st) := by
  subst he
  subst he0
  exact fun H locs ls hP hs hS hL => W.lcmp C.1 C.2.2.1 d0 (lv_if_gt C.1 C.2.2.1 d ht (fun q => (fun q => kt q (by rw [if_pos q] at hf; exact hf) H locs ls hP hs hS hL) ((lg_cmp_gt x1 y1).mp q)) (fun q => (fun q => kf q (by rw [if_neg q] at hf; exact hf) H locs ls hP hs hS hL) (fun z => q ((lg_cmp_gt x1 y1).mpr z))))
theorem z_icmp_le (C : zK X w own cc nL ret rm) {β : Type} {A B : Option β} {r : β} {x1 y1 : Int32} {off : Int} (tgt : Nat) (hf : (if x1 ≤ y1 then A else B) = some r) (d : decode cc pc = .ok (.if_icmp .le off, 3)) (ht : (pc : Int) + off = (tgt : Int)) (he : pc + 3 = pc') (kt : x1 ≤ y1 → A = some r → zZ X w Q k n x N h tgt lv st) (kf : ¬ x1 ≤ y1 → B = some r → zZ X w Q k n x N h pc' lv st) : zZ X w Q k n x N h pc lv (.int y1 :: .int x1 :: st) := by
  subst he
  exact fun H locs ls hP hs hS hL => lv_icmp_le C.1 C.2.2.1 d ht (fun q => kt q (by rw [if_pos q] at hf; exact hf) H locs ls hP hs hS hL) (fun q => kf q (by rw [if_neg q] at hf; exact hf) H locs ls hP hs hS hL)
theorem z_if_le (C : zK X w own cc nL ret rm) {β : Type} {A B : Option β} {r : β} {x1 : Int32} {off : Int} (tgt : Nat) (hf : (if x1 ≤ 0 then A else B) = some r) (d : decode cc pc = .ok (.ifCond .le off, 3)) (ht : (pc : Int) + off = (tgt : Int)) (he : pc + 3 = pc') (kt : x1 ≤ 0 → A = some r → zZ X w Q k n x N h tgt lv st) (kf : ¬ x1 ≤ 0 → B = some r → zZ X w Q k n x N h pc' lv st) : zZ X w Q k n x N h pc lv (.int x1 :: st) := by
  subst he
  exact fun H locs ls hP hs hS hL => lv_if_le C.1 C.2.2.1 d ht (fun q => kt q (by rw [if_pos q] at hf; exact hf) H locs ls hP hs hS hL) (fun q => kf q (by rw [if_neg q] at hf; exact hf) H locs ls hP hs hS hL)
theorem z_lcmp_le (C : zK X w own cc nL ret rm) {β : Type} {A B : Option β} {r : β} {x1 y1 : Int64} {off : Int} {pc1 : Nat} (tgt : Nat) (hf : (if x1 ≤ y1 then A else B) = some r) (d0 : decode cc pc = .ok (.lcmp, 1)) (he0 : pc + 1 = pc1) (d : decode cc pc1 = .ok (.ifCond .le off, 3)) (ht : (pc1 : Int) + off = (tgt : Int)) (he : pc1 + 3 = pc') (kt : x1 ≤ y1 → A = some r → zZ X w Q k n x N h tgt lv st) (kf : ¬ x1 ≤ y1 → B = some r → zZ X w Q k n x N h pc' lv st) : zZ X w Q k n x N h pc lv (.long y1 :: .long x1 :: st) := by
  subst he
  subst he0
  exact fun H locs ls hP hs hS hL => W.lcmp C.1 C.2.2.1 d0 (lv_if_le C.1 C.2.2.1 d ht (fun q => (fun q => kt q (by rw [if_pos q] at hf; exact hf) H locs ls hP hs hS hL) ((lg_cmp_le x1 y1).mp q)) (fun q => (fun q => kf q (by rw [if_neg q] at hf; exact hf) H locs ls hP hs hS hL) (fun z => q ((lg_cmp_le x1 y1).mpr z))))
end ZR
