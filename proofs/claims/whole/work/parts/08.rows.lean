section ZI
variable {X : zC} {w : zV} {Q : State → Prop} {k n : Nat} {x : Bool} {N : Nat} {h : zH} {pc pc' : Nat} {lv : List (Nat × Value)} {st st' : List Value} {own : String} {cc : ByteArray} {nL : Nat} {ret : Option FieldType} {rm : Room}
/-- a method among the tables' words: its code, and how many arguments it takes -/
def zY (y : MethodName) (cc : ByteArray) (nL : Nat) (ret : Option FieldType) (n : Nat) : Prop := Cond.code y cc nL ret ∈ zG ∧ Cond.initialized y.cls ∈ zG ∧ y.cls ≠ "java/lang/invoke/MethodHandle" ∧ y.cls ≠ "java/lang/invoke/VarHandle" ∧ (parseMethodDescriptor y.desc).map (fun d => d.parameters.length) = some n
/-- two rooms: the callee's and the caller's -/
def zRm (rm' rm : Room) (nL' : Nat) : Bool := Nat.ble (rm'.frames + 1) rm.frames && Nat.ble (16 + (nL' + 11) + rm'.locals) rm.locals
theorem zRm_s {rm' rm : Room} {nL' : Nat} (h : zRm rm' rm nL' = true) : rm'.frames + 1 ≤ rm.frames ∧ 16 + (nL' + 11) + rm'.locals ≤ rm.locals := by
  simp only [zRm, Bool.and_eq_true] at h
  exact ⟨Nat.le_of_ble_eq_true h.1, Nat.le_of_ble_eq_true h.2⟩
theorem zG_good : GoodIn zG zG := fun q hq => ⟨hq, good_of_word (List.mem_filter.mp hq).2⟩
theorem zG_cons {y : MethodName} {cc : ByteArray} {nL : Nat} {ret : Option FieldType} (h : Cond.code y cc nL ret ∈ zG) : GoodIn zG (.code y cc nL ret :: zG) := fun q hq => (List.mem_cons.mp hq).elim (fun e => by rw [e]; exact zG_good _ h) (zG_good q)
/-- what a callee leaves: its answer on the stack -/
theorem z_fin {y : MethodName} {rmY : Room} {args' : Array Value} {N' : Nat} {v : Option Value} {h' : zH} {rest : List Value} {st0 : List Value}
    (hr : ∀ (H : Heap) (locs : List Loc) (ls : Array Slot), va_P (zD w) vwCl (zl w N h) H → zs x w N H → va_S (fun q => zo w ≤ q) X.2.2.2.2.1.heap H locs → lv_has ls X.2.2.2.2.2.2.2.2.2.maxLocals lv → va_Run X.1 X.2.1 X.2.2.1 X.2.2.2.1 X.2.2.2.2.1 X.2.2.2.2.2.1 X.2.2.2.2.2.2.1 X.2.2.2.2.2.2.2.1 X.2.2.2.2.2.2.2.2.1 X.2.2.2.2.2.2.2.2.2 H locs k n rmY.cells rmY.slots (F0 X.2.2.2.2.2.1 pc ls st0) rest (zMQ w v x N' h' args') (fun q => zo w ≤ q))
    (he : pc + 3 = pc') (kk : zZ X w Q (k + rmY.cells) (n + rmY.slots) x N' h' pc' lv (v.toList ++ rest)) : zZ X w Q k n x N h pc lv st0 := by
  subst he
  intro H locs ls hP hs hS hL T hT XX
  obtain ⟨v', s0, t, T', L, h0, X', hL', e1, e2, ⟨⟨ho, hP', hK', hs'⟩, hz, hfr⟩, go⟩ := hr H locs ls hP hs hS hL T hT XX
  have hv : v' = v := by cases ho; rfl
  subst hv
  rw [h0] at hz hfr
  have hS' : va_S (fun q => zo w ≤ q) X.2.2.2.2.1.heap T'.heap (locs ++ L) := ⟨Nat.le_trans hS.1 (by rw [e1]; exact hz), fun q h1 h2 => by rw [e1, hfr q (Nat.lt_of_lt_of_le h1 hS.1) h2]; exact hS.2.1 q h1 h2, fun q hq => by
      rcases List.mem_append.mp hq with h | h
      · exact hS.2.2 q h
      · exact hL' q h⟩
  obtain ⟨t2, a1, b1⟩ := kk T'.heap (locs ++ L) ls (by rw [e1]; exact hP') (by rw [e1]; exact hs') hS' hL T' rfl X'
  exact ⟨t2, go t2 a1, b1⟩
/-- invokevirtual of a method of the receiver's own class -/
theorem z_callR (C : zK X w own cc nL ret rm) {i m : Nat} {y : MethodName} {cc' : ByteArray} {nL' : Nat} {ret' : Option FieldType} {rm' : Room} {N' : Nat} {h' : zH} {v : Option Value} {As : List Value} {a : Nat} {Cq : String} (hM : zM w y cc' nL' ret' rm' x N N' h (.ref a :: As) v h') (hY : zY y cc' nL' ret' m) (hl : Cond.methodLink own i y ∈ zG) (hi : Cond.instanceMethod y ∈ zG) (hsel : Cond.selects Cq y y ∈ zG) (hrec : ∀ (H : Heap) (locs : List Loc), va_P (zD w) vwCl (zl w N h) H → va_S (fun q => zo w ≤ q) X.2.2.2.2.1.heap H locs → ∃ cell : Cell, H[a]? = some cell ∧ cell.vm.isStatics = false ∧ X.2.2.2.2.1.vm.findClass Cq = some cell.cls) (hR : zRm rm' rm nL' = true) (hm : As.length = m) (hst : Nat.ble ((st.map fun v => v.category).sum) 16 = true) (stk : As.reverse ++ .ref a :: st = st') (hf : (Nat.ble (k + rm'.cells) rm.cells && Nat.ble (n + rm'.slots) rm.slots) = true) (d : decode cc pc = .ok (.invokevirtual i, 3)) (he : pc + 3 = pc')
    (kk : zZ X w Q (k + rm'.cells) (n + rm'.slots) x N' h' pc' lv (v.toList ++ st)) : zZ X w Q k n x N h pc lv st' := by
  subst stk
  refine z_fin (y := y) (args' := (Value.ref a :: As).toArray) (fun H locs ls hP hs hS hL => ?_) he kk
  have hts := C.2.2.2.2.2.1
  obtain ⟨y1, y2, y3, y4, y5⟩ := hY
  have hR' := zRm_s hR
  have hRm : X.2.2.2.1 = rm := C.2.2.2.2.2.2.2.2.1
  simp only [Bool.and_eq_true] at hf
  have hMx : Met X.2.1 y (.code y cc' nL' ret' :: zG) rm' (va_Pc (.ref a :: As) (zPre w x N h)) (zMQ w v x N' h') rm'.cells rm'.slots (fun q => zo w ≤ q) := by rw [C.2.1]; exact hM
  have hcb : CallB X.2.2.2.1 X.2.2.2.2.1 X.2.2.2.2.2.2.1 own i y cc' nL' ret' (.code y cc' nL' ret' :: zG) rm' rm'.cells rm'.slots m := callB_of m hts (zG_cons y1) rfl rfl rfl (hts _ y2) (hts _ hl) ⟨y3, y4, y5⟩ (by rw [hRm]; exact ⟨hR'.1, by omega⟩)
  have hK : Back X.2.1 X.2.2.2.1 X.1 X.2.2.1 X.2.2.2.2.2.2.2.1 X.2.2.2.2.1 X.2.2.2.2.2.2.1 y 3 16 (PreOf X.2.2.2.1 rm'.cells rm'.slots (va_Pc (.ref a :: As) (zPre w x N h))) (PostOf (zMQ w v x N' h') rm'.cells rm'.slots (fun q => zo w ≤ q)) :=
    back_of (bytes := cc') (maxL := nL') (ret := ret') hMx (zWd_blind w x N h _) rfl rfl hcb.2.2.1 (by rw [hRm]; exact hR'.2) hcb.2.2.2.2.1 hcb.2.2.2.2.2.1 (fun a' U hW => word_at hW (Or.inl (by first | rfl | simp [Cond.onTables, Cond.keeps, Cond.steady])) (hts _ y2))
  obtain ⟨cellB, hcB, hoB, hclB⟩ := hrec H locs hP hS
  intro T hT XX
  obtain ⟨v', vm₁, ⟨U', l2, c2, s2⟩, hW₁, X', ⟨g', mk, t, L, e1, e2, hqq, e3, hL', e4, e5⟩, go⟩ := callV XX C.1 (C := Cq) (bytes := cc') (maxL := nL') (ret := ret') C.2.2.2.2.1 (hts _ hl) (hts _ hi) (hts _ hsel) (hts _ y1) ⟨y3, y4⟩ hK (by rw [hT]; exact hcB) hoB hclB (g := F0 X.2.2.2.2.2.1 pc ls (As.reverse ++ .ref a :: st)) rfl hL.1 (argsL := As) (rest := st) (fun sig h => hm.trans (hcb.2.2.2.2.2.2.2.2.2.1 sig h)) rfl (by show 2 * 0 + _ ≤ 16; rw [Nat.mul_zero, Nat.zero_add]; exact Nat.le_of_ble_eq_true hst) (by rw [C.2.2.1]; exact d)
    (fun vm₁ hW₁ => ⟨by rw [hRm]; exact Nat.le_of_ble_eq_true hf.1, by rw [hRm]; exact Nat.le_of_ble_eq_true hf.2, rfl, ⟨by show va_P _ _ _ (T.setVm vm₁).heap; exact (show (T.setVm vm₁).heap = H from hT) ▸ hP, va_K.moved hW₁.alike C.2.2.2.2.2.2.2.2.2.1, by exact (show (T.setVm vm₁).heap = H from hT) ▸ hs⟩, by rw [show (T.setVm vm₁).heap = H from hT]; exact zE.next hW₁ hS.2.1 C.2.2.2.2.2.2.2.2.2.2⟩)
  dsimp only [Pt.U, Pt.locs, Pt.cells, Pt.slots] at X' e1 e2 e3 e4 e5 go
  subst e3; subst e4; subst e5
  exact ⟨v', (T.setVm vm₁).calling g' mk (Value.ref a :: As).toArray, t, U', L, hT, X', hL', e1, e2, hqq, go⟩
/-- invokevirtual of a method of the receiver's own class -/
theorem z_callV (C : zK X w own cc nL ret rm) {i ci m : Nat} {y : MethodName} {cc' : ByteArray} {nL' : Nat} {ret' : Option FieldType} {rm' : Room} {N' : Nat} {h' : zH} {v : Option Value} {As : List Value} {a : Nat} {fs : List Value} {qc : vw_C} (hM : zM w y cc' nL' ret' rm' x N N' h (.ref (zo w + a) :: As) v h') (hY : zY y cc' nL' ret' m) (hl : Cond.methodLink own i y ∈ zG) (hi : Cond.instanceMethod y ∈ zG) (hsel : Cond.selects qc.1 y y ∈ zG) (hq : vwCl[ci]? = some qc) (hc : zc N h a (.inr (ci, fs))) (hR : zRm rm' rm nL' = true) (hm : As.length = m) (hst : Nat.ble ((st.map fun v => v.category).sum) 16 = true) (stk : As.reverse ++ .ref (zo w + a) :: st = st') (hf : (Nat.ble (k + rm'.cells) rm.cells && Nat.ble (n + rm'.slots) rm.slots) = true) (d : decode cc pc = .ok (.invokevirtual i, 3)) (he : pc + 3 = pc')
    (kk : zZ X w Q (k + rm'.cells) (n + rm'.slots) x N' h' pc' lv (v.toList ++ st)) : zZ X w Q k n x N h pc lv st' :=
  z_callR C hM hY hl hi hsel (fun H locs hP hS => va_recv C.2.2.2.2.2.2.2.2.2.1 hP hq (zc_at hc (zj_r hq))) hR hm hst stk hf d he kk
/-- invokestatic -/
theorem z_callS (C : zK X w own cc nL ret rm) {i m : Nat} {y : MethodName} {cc' : ByteArray} {nL' : Nat} {ret' : Option FieldType} {rm' : Room} {N' : Nat} {h' : zH} {v : Option Value} {As : List Value} (hM : zM w y cc' nL' ret' rm' x N N' h As v h') (hY : zY y cc' nL' ret' m) (hl : Cond.methodLink own i y ∈ zG) (hi : Cond.static y ∈ zG) (hR : zRm rm' rm nL' = true) (hm : As.length = m) (hst : Nat.ble ((st.map fun v => v.category).sum) 8 = true) (stk : As.reverse ++ st = st') (hf : (Nat.ble (k + rm'.cells) rm.cells && Nat.ble (n + rm'.slots) rm.slots) = true) (d : decode cc pc = .ok (.invokestatic i, 3)) (he : pc + 3 = pc')
    (kk : zZ X w Q (k + rm'.cells) (n + rm'.slots) x N' h' pc' lv (v.toList ++ st)) : zZ X w Q k n x N h pc lv st' := by
  subst stk
  refine z_fin (y := y) (args' := As.toArray) (fun H locs ls hP hs hS hL => ?_) he kk
  have hts := C.2.2.2.2.2.1
  obtain ⟨y1, y2, y3, y4, y5⟩ := hY
  have hR' := zRm_s hR
  have hRm : X.2.2.2.1 = rm := C.2.2.2.2.2.2.2.2.1
  simp only [Bool.and_eq_true] at hf
  have hMx : Met X.2.1 y (.code y cc' nL' ret' :: zG) rm' (va_Pc As (zPre w x N h)) (zMQ w v x N' h') rm'.cells rm'.slots (fun q => zo w ≤ q) := by rw [C.2.1]; exact hM
  exact va_runS (Ts := zG) (own := own) (nL := nL) (As := As) (n := m) (g := F0 X.2.2.2.2.2.1 pc ls (As.reverse ++ st)) ⟨C.1, C.2.2.1, C.2.2.2.1, C.2.2.2.2.1, hts⟩ hMx
    ⟨callB_of m hts (zG_cons y1) rfl rfl rfl (hts _ y2) (hts _ hl) ⟨y3, y4, y5⟩ (by rw [hRm]; exact ⟨hR'.1, by omega⟩), hts _ hi⟩
    ⟨zWd_blind w x N h _, fun U hU hW => ⟨rfl, ⟨by rw [hU]; exact hP, va_K.moved hW.alike C.2.2.2.2.2.2.2.2.2.1, by rw [hU]; exact hs⟩, by rw [hU]; exact zE.next hW hS.2.1 C.2.2.2.2.2.2.2.2.2.2⟩⟩ rfl hm (hL.1.trans C.2.2.2.1) rfl (by show 2 * 0 + _ ≤ 8; rw [Nat.mul_zero, Nat.zero_add]; exact Nat.le_of_ble_eq_true hst) d ⟨by rw [hRm]; exact Nat.le_of_ble_eq_true hf.1, by rw [hRm]; exact Nat.le_of_ble_eq_true hf.2⟩
end ZI
