/-! methods with handlers, and their calls -/
def zMw (w : zV) (y : MethodName) (cc : ByteArray) (nL : Nat) (hh : List (Nat × Nat × Nat × Nat)) (rm : Room) (N : Nat) (h : zH) (av : List Value) (v : Option Value) (h' : zH) : Prop :=
  Met w.1 y (.codeWith y cc nL (some .int) hh :: zG) rm (va_Pc av (zPre w false N h)) (zMQ w v false N h') rm.cells rm.slots (fun q => zo w ≤ q)
theorem zMw_of {w : zV} {N : Nat} {h h' : zH} {y : MethodName} {cc : ByteArray} {nL : Nat} {hh : List (Nat × Nat × Nat × Nat)} {rm : Room} {av : List Value} {v : Option Value} (hy : plainName y.cls = true) (hlen : Nat.ble (lg_sl av).length nL = true)
    (body : ∀ X : zC, zK X w y.cls cc nL (some .int) rm → X.2.2.2.2.2.2.2.2.2.exceptionTable.toList = tableOf hh → zZ X w (zQ X w rm v false N h') 0 0 false N h 0 (lv_args 0 av) []) : zMw w y cc nL hh rm N h av v h' := by
  unfold zMw
  refine MetFree.of_bodyS (code := cc) (maxLocals := nL) (ret := some .int) hy ?_ ?_
  · intro args s m hq hn
    obtain ⟨m9, meth, c, hn9, h1, h2, h3, h4, -, h5, h6, -⟩ := Cond.codeWith_spec (atoms_spec (ws := .codeWith y cc nL (some .int) hh :: zG) hq _ List.mem_cons_self)
    cases hn.symm.trans hn9
    exact ⟨meth, c, h1, h2, h3, h4, h5, h6⟩
  · intro p e s m args below meth c s₁ B hml hv _
    have hh0 : s₁.heap = s.heap := by rw [B.state]; rfl
    obtain ⟨rfl, ⟨hP, hK, hs⟩, hE⟩ := hv
    have hts := atoms_spec (ws := .codeWith y cc nL (some .int) hh :: zG) B.pre
    have htab := vx_table (x := y) B (hts _ List.mem_cons_self)
    have hl := lv_entry av (n := nL) (Nat.le_of_ble_eq_true hlen)
    have K : W p w.1 e rm s m av.toArray below meth c s.heap [] 0 0 (zQ (p, w.1, e, rm, s, m, av.toArray, below, meth, c) w rm v false N h') (entryFrame m av.toArray nL) := by
      rw [lg_entry_eq]
      generalize (lg_sl av ++ List.replicate (nL - (lg_sl av).length) Slot.unset).toArray = ls at hl ⊢
      exact body (p, w.1, e, rm, s, m, av.toArray, below, meth, c) ⟨B.exec, rfl, B.bytes, hml, findClass_of_methodNamed B.named, fun q hq => hts q (List.mem_cons_of_mem _ hq), B.notSynchronized, B.returns, rfl, hK, hE⟩ htab s.heap [] ls hP hs va_S.rf (by
        show lv_has ls c.maxLocals _
        rw [hml]
        exact hl)
    obtain ⟨t, a1, o, b1, b2, b3⟩ := K s₁ hh0 (Stand.of_body B)
    exact ⟨t, o, a1, b1, b2, ⟨b3.1, b3.2⟩⟩
def zMwP (w : zV) (y : MethodName) (cc : ByteArray) (nL : Nat) (hh : List (Nat × Nat × Nat × Nat)) (rm : Room) (N : Nat) (h : zH) (av : List Value) (v : Option Value) (P : Nat → zH → Prop) : Prop :=
  Met w.1 y (.codeWith y cc nL (some .int) hh :: zG) rm (va_Pc av (zPre w false N h)) (zMQP w v P) rm.cells rm.slots (fun q => zo w ≤ q)
theorem zMwP_of {w : zV} {N : Nat} {h : zH} {y : MethodName} {cc : ByteArray} {nL : Nat} {hh : List (Nat × Nat × Nat × Nat)} {rm : Room} {av : List Value} {v : Option Value} {P : Nat → zH → Prop} (hy : plainName y.cls = true) (hlen : Nat.ble (lg_sl av).length nL = true)
    (body : ∀ X : zC, zK X w y.cls cc nL (some .int) rm → X.2.2.2.2.2.2.2.2.2.exceptionTable.toList = tableOf hh → zZ X w (zQP X w rm v P) 0 0 false N h 0 (lv_args 0 av) []) : zMwP w y cc nL hh rm N h av v P := by
  unfold zMwP
  refine MetFree.of_bodyS (code := cc) (maxLocals := nL) (ret := some .int) hy ?_ ?_
  · intro args s m hq hn
    obtain ⟨m9, meth, c, hn9, h1, h2, h3, h4, -, h5, h6, -⟩ := Cond.codeWith_spec (atoms_spec (ws := .codeWith y cc nL (some .int) hh :: zG) hq _ List.mem_cons_self)
    cases hn.symm.trans hn9
    exact ⟨meth, c, h1, h2, h3, h4, h5, h6⟩
  · intro p e s m args below meth c s₁ B hml hv _
    have hh0 : s₁.heap = s.heap := by rw [B.state]; rfl
    obtain ⟨rfl, ⟨hP, hK, hs⟩, hE⟩ := hv
    have hts := atoms_spec (ws := .codeWith y cc nL (some .int) hh :: zG) B.pre
    have htab := vx_table (x := y) B (hts _ List.mem_cons_self)
    have hl := lv_entry av (n := nL) (Nat.le_of_ble_eq_true hlen)
    have K : W p w.1 e rm s m av.toArray below meth c s.heap [] 0 0 (zQP (p, w.1, e, rm, s, m, av.toArray, below, meth, c) w rm v P) (entryFrame m av.toArray nL) := by
      rw [lg_entry_eq]
      generalize (lg_sl av ++ List.replicate (nL - (lg_sl av).length) Slot.unset).toArray = ls at hl ⊢
      exact body (p, w.1, e, rm, s, m, av.toArray, below, meth, c) ⟨B.exec, rfl, B.bytes, hml, findClass_of_methodNamed B.named, fun q hq => hts q (List.mem_cons_of_mem _ hq), B.notSynchronized, B.returns, rfl, hK, hE⟩ htab s.heap [] ls hP hs va_S.rf (by
        show lv_has ls c.maxLocals _
        rw [hml]
        exact hl)
    obtain ⟨t, a1, o, b1, b2, b3⟩ := K s₁ hh0 (Stand.of_body B)
    exact ⟨t, o, a1, b1, b2, ⟨b3.1, b3.2⟩⟩
section ZHD
variable {X : zC} {w : zV} {Q : State → Prop} {k n : Nat} {N : Nat} {h : zH} {pc pc' : Nat} {lv : List (Nat × Value)} {st st' : List Value} {own : String} {cc : ByteArray} {nL : Nat} {ret : Option FieldType} {rm : Room}
theorem z_keep {s0 t T' : State} {H : Heap} {s : Heap} {locs L : List Loc} (hS : va_S (fun q => zo w ≤ q) s H locs) (h0 : s0.heap = H) (e1 : T'.heap = t.heap) (hF : va_F (fun q => zo w ≤ q) s0 t) (hL' : ∀ q ∈ L, zo w ≤ q.base) : va_S (fun q => zo w ≤ q) s T'.heap (locs ++ L) := by
  obtain ⟨hz, hfr⟩ := hF
  rw [h0] at hz hfr
  exact ⟨Nat.le_trans hS.1 (by rw [e1]; exact hz), fun q h1 h2 => by rw [e1, hfr q (Nat.lt_of_lt_of_le h1 hS.1) h2]; exact hS.2.1 q h1 h2, fun q hq => by
    rcases List.mem_append.mp hq with h | h
    · exact hS.2.2 q h
    · exact hL' q h⟩
/-- invokevirtual of a method that may throw, but answers here -/
theorem z_cVr (C : zK X w own cc nL ret rm) {i ci m a : Nat} {y : MethodName} {cc' : ByteArray} {nL' : Nat} {ret' : Option FieldType} {rm' : Room} {qc : vw_C} {fs : List Value} {As : List Value} {v : Option Value} {h' : zH}
    (hM : zMx w y cc' nL' ret' rm' N h (.ref (zo w + a) :: As) (.inr (v, h'))) (hY : zY y cc' nL' ret' m) (hl : Cond.methodLink own i y ∈ zG) (hi : Cond.instanceMethod y ∈ zG) (hsel : Cond.selects qc.1 y y ∈ zG) (hq : vwCl[ci]? = some qc) (hc : zc N h a (.inr (ci, fs))) (hR : zRm rm' rm nL' = true) (hm : As.length = m) (hst : Nat.ble ((st.map fun v => v.category).sum) 8 = true) (stk : As.reverse ++ .ref (zo w + a) :: st = st') (hk : (Nat.ble (k + rm'.cells) rm.cells && Nat.ble (n + rm'.slots) rm.slots) = true) (d : decode cc pc = .ok (.invokevirtual i, 3)) (he : pc + 3 = pc')
    (kk : zZ X w Q (k + rm'.cells) (n + rm'.slots) false N h' pc' lv (v.toList ++ st)) : zZ X w Q k n false N h pc lv st' := by
  subst stk he
  simp only [Bool.and_eq_true] at hk
  intro H locs ls hP hs hS hL T hT XX
  have hts := C.2.2.2.2.2.1
  obtain ⟨y1, y2, y3, y4, y5⟩ := hY
  have hR' := zRm_s hR
  have hRm : X.2.2.2.1 = rm := C.2.2.2.2.2.2.2.2.1
  have hMx : vx_Met X.2.1 y (.code y cc' nL' ret' :: zG) rm' (va_Pc (.ref (zo w + a) :: As) (zPre w false N h)) (zXQ w (.inr (v, h')) N) (zXX w (.inr (v, h')) N) rm'.cells rm'.slots (fun q => zo w ≤ q) := by rw [C.2.1]; exact hM
  have R : vx_Run X.1 X.2.1 X.2.2.1 X.2.2.2.1 X.2.2.2.2.1 X.2.2.2.2.2.1 X.2.2.2.2.2.2.1 X.2.2.2.2.2.2.2.1 X.2.2.2.2.2.2.2.2.1 X.2.2.2.2.2.2.2.2.2 H locs k n rm'.cells rm'.slots (F0 X.2.2.2.2.2.1 pc ls (As.reverse ++ .ref (zo w + a) :: st)) st (zXQ w (.inr (v, h')) N (Value.ref (zo w + a) :: As).toArray) (zXX w (.inr (v, h')) N) (fun q => zo w ≤ q) := vx_runV (C := qc.1) (Ts := zG) (own := own) (nL := nL) (As := As) (b := zo w + a) (n := m) (g := F0 X.2.2.2.2.2.1 pc ls (As.reverse ++ .ref (zo w + a) :: st)) ⟨C.1, C.2.2.1, C.2.2.2.1, C.2.2.2.2.1, hts⟩ hMx
    ⟨callB_of m hts (zG_cons y1) rfl rfl rfl (hts _ y2) (hts _ hl) ⟨y3, y4, y5⟩ (by rw [hRm]; exact ⟨hR'.1, by omega⟩), hts _ hi, hts _ hsel⟩
    ⟨zWd_blind w false N h _, va_recv C.2.2.2.2.2.2.2.2.2.1 hP hq (zc_at hc (zj_r hq)), fun U hU hW => ⟨rfl, ⟨by rw [hU]; exact hP, va_K.moved hW.alike C.2.2.2.2.2.2.2.2.2.1, fun z => Bool.noConfusion z⟩, by rw [hU]; exact zE.next hW hS.2.1 C.2.2.2.2.2.2.2.2.2.2⟩⟩ rfl hm (hL.1.trans C.2.2.2.1) rfl (by show 2 * 0 + _ ≤ 8; rw [Nat.mul_zero, Nat.zero_add]; exact Nat.le_of_ble_eq_true hst) d ⟨by rw [hRm]; exact Nat.le_of_ble_eq_true hk.1, by rw [hRm]; exact Nat.le_of_ble_eq_true hk.2⟩
  rcases R T hT XX with ⟨v', s0, t, T', L, h0, X', hL', e1, e2, ⟨v1, h1, ho, ⟨⟨hov, hP', hK', hs'⟩, hfr⟩⟩, go⟩ | ⟨q, s0, t, T', L, E, ce, h0, X', hL', e1, e2, ⟨h1, ho, -⟩, -⟩
  · cases ho
    cases hov
    obtain ⟨t2, a1, b1⟩ := kk T'.heap (locs ++ L) ls (by rw [e1]; exact hP') (by rw [e1]; exact hs') (z_keep hS h0 e1 hfr hL') hL T' rfl X'
    exact ⟨t2, go t2 a1, b1⟩
  · cases ho
/-- .. but throws E here, which a row of this method's table catches -/
theorem z_cVl (C : zK X w own cc nL ret rm) {hh : List (Nat × Nat × Nat × Nat)} (htab : X.2.2.2.2.2.2.2.2.2.exceptionTable.toList = tableOf hh) {i ci m a : Nat} {y : MethodName} {cc' : ByteArray} {nL' : Nat} {ret' : Option FieldType} {rm' : Room} {qc : vw_C} {fs : List Value} {As : List Value} {E : String} {h' : zH}
    (hM : zMx w y cc' nL' ret' rm' N h (.ref (zo w + a) :: As) (.inl (E, h'))) (pre suf : List ExceptionTableEntry) (x : ExceptionTableEntry) (hsp : tableOf hh = pre ++ x :: suf)
    (hpre : ∀ z ∈ pre, z.catchType ≠ 0 ∧ ∃ (nm : String) (j : Nat), Cond.classLink own z.catchType nm ∈ zG ∧ zNcs[j]? = some (E, nm)) (hx : covers x pc = true) (h0 : x.catchType ≠ 0) (hlk : Cond.classLink own x.catchType E ∈ zG) {jE : Nat} (hE : zExs[jE]? = some E)
    (hY : zY y cc' nL' ret' m) (hl : Cond.methodLink own i y ∈ zG) (hi : Cond.instanceMethod y ∈ zG) (hsel : Cond.selects qc.1 y y ∈ zG) (hq : vwCl[ci]? = some qc) (hc : zc N h a (.inr (ci, fs))) (hR : zRm rm' rm nL' = true) (hm : As.length = m) (hst : Nat.ble ((st.map fun v => v.category).sum) 8 = true) (stk : As.reverse ++ .ref (zo w + a) :: st = st') (hk : (Nat.ble (k + rm'.cells) rm.cells && Nat.ble (n + rm'.slots) rm.slots) = true) (d : decode cc pc = .ok (.invokevirtual i, 3)) (hp : x.handlerPc = pc')
    (kk : ∀ q : Nat, zZ X w Q (k + rm'.cells) (n + rm'.slots) false N h' pc' lv [.ref q]) : zZ X w Q k n false N h pc lv st' := by
  subst stk hp
  simp only [Bool.and_eq_true] at hk
  intro H locs ls hP hs hS hL T hT XX
  have hts := C.2.2.2.2.2.1
  obtain ⟨y1, y2, y3, y4, y5⟩ := hY
  have hR' := zRm_s hR
  have hRm : X.2.2.2.1 = rm := C.2.2.2.2.2.2.2.2.1
  have hEE := C.2.2.2.2.2.2.2.2.2.2
  have hMx : vx_Met X.2.1 y (.code y cc' nL' ret' :: zG) rm' (va_Pc (.ref (zo w + a) :: As) (zPre w false N h)) (zXQ w (.inl (E, h')) N) (zXX w (.inl (E, h')) N) rm'.cells rm'.slots (fun q => zo w ≤ q) := by rw [C.2.1]; exact hM
  have R : vx_Run X.1 X.2.1 X.2.2.1 X.2.2.2.1 X.2.2.2.2.1 X.2.2.2.2.2.1 X.2.2.2.2.2.2.1 X.2.2.2.2.2.2.2.1 X.2.2.2.2.2.2.2.2.1 X.2.2.2.2.2.2.2.2.2 H locs k n rm'.cells rm'.slots (F0 X.2.2.2.2.2.1 pc ls (As.reverse ++ .ref (zo w + a) :: st)) st (zXQ w (.inl (E, h')) N (Value.ref (zo w + a) :: As).toArray) (zXX w (.inl (E, h')) N) (fun q => zo w ≤ q) := vx_runV (C := qc.1) (Ts := zG) (own := own) (nL := nL) (As := As) (b := zo w + a) (n := m) (g := F0 X.2.2.2.2.2.1 pc ls (As.reverse ++ .ref (zo w + a) :: st)) ⟨C.1, C.2.2.1, C.2.2.2.1, C.2.2.2.2.1, hts⟩ hMx
    ⟨callB_of m hts (zG_cons y1) rfl rfl rfl (hts _ y2) (hts _ hl) ⟨y3, y4, y5⟩ (by rw [hRm]; exact ⟨hR'.1, by omega⟩), hts _ hi, hts _ hsel⟩
    ⟨zWd_blind w false N h _, va_recv C.2.2.2.2.2.2.2.2.2.1 hP hq (zc_at hc (zj_r hq)), fun U hU hW => ⟨rfl, ⟨by rw [hU]; exact hP, va_K.moved hW.alike C.2.2.2.2.2.2.2.2.2.1, fun z => Bool.noConfusion z⟩, by rw [hU]; exact zE.next hW hS.2.1 C.2.2.2.2.2.2.2.2.2.2⟩⟩ rfl hm (hL.1.trans C.2.2.2.1) rfl (by show 2 * 0 + _ ≤ 8; rw [Nat.mul_zero, Nat.zero_add]; exact Nat.le_of_ble_eq_true hst) d ⟨by rw [hRm]; exact Nat.le_of_ble_eq_true hk.1, by rw [hRm]; exact Nat.le_of_ble_eq_true hk.2⟩
  rcases R T hT XX with ⟨v', s0, t, T', L, h1, X', hL', e1, e2, ⟨v1, h2, ho, -⟩, go⟩ | ⟨q, s0, t, T', L, E', ce, h1, X', hL', e1, e2, ⟨h2, ho, ⟨hP', hK', hs'⟩, hfr⟩, hce, hcv, hcl, go⟩
  · cases ho
  · cases ho
    have hW : vx_W X.1 X.2.1 X.2.2.1 X.2.2.2.1 X.2.2.2.2.1 X.2.2.2.2.2.1 X.2.2.2.2.2.2.1 X.2.2.2.2.2.2.2.1 X.2.2.2.2.2.2.2.2.1 X.2.2.2.2.2.2.2.2.2 T'.heap (locs ++ L) (k + rm'.cells) (n + rm'.slots) Q (F0 X.2.2.2.2.2.1 pc ls st) q :=
      vx_catch (name := E) C.2.2.2.2.1 pre x suf (htab.trans hsp) (fun z hz => by
        obtain ⟨z0, nm, j, hl1, hj⟩ := hpre z hz
        exact Or.inr ⟨z0, nm, hts _ hl1, hEE.1.2.2.2.1 j _ hj⟩) hx h0 (hts _ hlk) (va_Nw.use rfl (hEE.1.2.2.2.2.2.1 jE _ hE)) (by rw [e1]; exact hce) hcv hcl
        (kk q T'.heap (locs ++ L) ls (by rw [e1]; exact hP') (fun z => Bool.noConfusion z) (z_keep hS h1 e1 hfr hL') hL)
    obtain ⟨t2, a1, b1⟩ := hW T' rfl X'
    exact ⟨t2, go.trans a1, b1⟩
end ZHD
