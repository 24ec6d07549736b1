/-! methods that throw: the outcome is a class of exceptions and a world, or an answer and a world -/
abbrev zO : Type := (String × zH) ⊕ (Option Value × zH)
def zOm {ε ρ : Type} (Hx : ε → String × zH) (V : ρ → Option Value) (Hh : ρ → zH) : ε ⊕ ρ → zO
  | .inl e => .inl (Hx e)
  | .inr q => .inr (V q, Hh q)
def zXQ (w : zV) (o : zO) (N : Nat) : Array Value → State → Outcome → State → Prop := fun a s oc t => ∃ (v : Option Value) (h' : zH), o = .inr (v, h') ∧ zMQ w v false N h' a s oc t
def zXX (w : zV) (o : zO) (N : Nat) : String → State → State → Prop := fun E s t => ∃ h' : zH, o = .inl (E, h') ∧ zWd w false N h' t ∧ va_F (fun q => zo w ≤ q) s t
def zMx (w : zV) (y : MethodName) (cc : ByteArray) (nL : Nat) (ret : Option FieldType) (rm : Room) (N : Nat) (h : zH) (av : List Value) (o : zO) : Prop :=
  vx_Met w.1 y (.code y cc nL ret :: zG) rm (va_Pc av (zPre w false N h)) (zXQ w o N) (zXX w o N) rm.cells rm.slots (fun q => zo w ≤ q)
def zQx (X : zC) (w : zV) (rm : Room) (o : zO) (N : Nat) : State → Prop := vx_MQ X.2.2.2.2.2.2.2.1 (zXQ w o N) (zXX w o N) X.2.2.2.2.2.2.1 X.2.2.2.2.1 rm.cells rm.slots (fun q => zo w ≤ q)
def zX1 {ε ρ ε' β : Type} (F : Option (ε ⊕ ρ)) (g : ε → ε') (K : ρ → Option (ε' ⊕ β)) : Option (ε' ⊕ β) :=
  match F with
  | none => none
  | some (.inl e) => some (.inl (g e))
  | some (.inr q) => K q
theorem zMx_of {w : zV} {N : Nat} {h : zH} {y : MethodName} {cc : ByteArray} {nL : Nat} {ret : Option FieldType} {rm : Room} {av : List Value} {o : zO} (hy : plainName y.cls = true) (hlen : Nat.ble (lg_sl av).length nL = true)
    (body : ∀ X : zC, zK X w y.cls cc nL ret rm → (∀ x ∈ X.2.2.2.2.2.2.2.2.2.exceptionTable.toList, False) → zZ X w (zQx X w rm o N) 0 0 false N h 0 (lv_args 0 av) []) : zMx w y cc nL ret rm N h av o := by
  refine vx_ofW (cc := cc) (maxL := nL) (ret := ret) hy rfl ?_
  intro p e s m args below meth c s₁ B hml htab hv
  obtain ⟨rfl, ⟨hP, hK, hs⟩, hE⟩ := hv
  have hts := atoms_spec (ws := .code y cc nL ret :: zG) B.pre
  have hl := lv_entry av (n := nL) (Nat.le_of_ble_eq_true hlen)
  rw [lg_entry_eq]
  generalize (lg_sl av ++ List.replicate (nL - (lg_sl av).length) Slot.unset).toArray = ls at hl ⊢
  exact body (p, w.1, e, rm, s, m, av.toArray, below, meth, c) ⟨B.exec, rfl, B.bytes, hml, findClass_of_methodNamed B.named, fun q hq => hts q (List.mem_cons_of_mem _ hq), B.notSynchronized, B.returns, rfl, hK, hE⟩ htab s.heap [] ls hP hs va_S.rf (by
    show lv_has ls c.maxLocals _
    rw [hml]
    exact hl)
section ZX
variable {X : zC} {w : zV} {Q : State → Prop} {k n : Nat} {N : Nat} {h : zH} {pc pc' : Nat} {lv : List (Nat × Value)} {st st' : List Value} {own : String} {cc : ByteArray} {nL : Nat} {ret : Option FieldType} {rm : Room}
theorem z_xr {v : Option Value} {h' : zH} (kk : zZ X w (zQ X w rm v false N h') k n false N h pc lv st) : zZ X w (zQx X w rm (.inr (v, h')) N) k n false N h pc lv st := by
  intro H locs ls hP hs hS hL T hT XX
  obtain ⟨t, a1, o, b1, b2, b3, b4⟩ := kk H locs ls hP hs hS hL T hT XX
  exact ⟨t, a1, o, b1, b2, Or.inl ⟨⟨v, h', rfl, b3⟩, b4⟩⟩
/-- a callee that throws or answers: the two ends; a throw leaves this method too -/
theorem z_finx {ε ρ ε' β : Type} {F : Option (ε ⊕ ρ)} {g : ε → ε'} {K : ρ → Option (ε' ⊕ β)} {r : ε' ⊕ β} (hf : zX1 F g K = some r) {y : MethodName} {rmY : Room} {args' : Array Value} {Hx : ε → String × zH} {V : ρ → Option Value} {Hh : ρ → zH} {Hx' : ε' → String × zH} {V' : β → Option Value} {Hh' : β → zH} {rest st0 : List Value}
    (C : zK X w own cc nL ret rm) (htab : ∀ x ∈ X.2.2.2.2.2.2.2.2.2.exceptionTable.toList, False)
    (hr : ∀ o : ε ⊕ ρ, F = some o → ∀ (H : Heap) (locs : List Loc) (ls : Array Slot), va_P (zD w) vwCl (zl w N h) H → va_S (fun q => zo w ≤ q) X.2.2.2.2.1.heap H locs → lv_has ls X.2.2.2.2.2.2.2.2.2.maxLocals lv → vx_Run X.1 X.2.1 X.2.2.1 X.2.2.2.1 X.2.2.2.2.1 X.2.2.2.2.2.1 X.2.2.2.2.2.2.1 X.2.2.2.2.2.2.2.1 X.2.2.2.2.2.2.2.2.1 X.2.2.2.2.2.2.2.2.2 H locs k n rmY.cells rmY.slots (F0 X.2.2.2.2.2.1 pc ls st0) rest (zXQ w (zOm Hx V Hh o) N args') (zXX w (zOm Hx V Hh o) N) (fun q => zo w ≤ q))
    (hx : ∀ e, Hx' (g e) = Hx e) (hcs : (Nat.ble (k + rmY.cells) rm.cells && Nat.ble (n + rmY.slots) rm.slots) = true) (he : pc + 3 = pc')
    (kk : ∀ q, K q = some r → zZ X w (zQx X w rm (zOm Hx' V' Hh' r) N) (k + rmY.cells) (n + rmY.slots) false N (Hh q) pc' lv ((V q).toList ++ rest)) : zZ X w (zQx X w rm (zOm Hx' V' Hh' r) N) k n false N h pc lv st0 := by
  subst he
  simp only [Bool.and_eq_true] at hcs
  intro H locs ls hP hs hS hL T hT XX
  have keep : ∀ (s0 t T' : State) (L : List Loc), s0.heap = H → T'.heap = t.heap → va_F (fun q => zo w ≤ q) s0 t → (∀ q ∈ L, zo w ≤ q.base) → va_S (fun q => zo w ≤ q) X.2.2.2.2.1.heap T'.heap (locs ++ L) := by
    intro s0 t T' L h0 e1 hF hL'
    obtain ⟨hz, hfr⟩ := hF
    rw [h0] at hz hfr
    exact ⟨Nat.le_trans hS.1 (by rw [e1]; exact hz), fun q h1 h2 => by rw [e1, hfr q (Nat.lt_of_lt_of_le h1 hS.1) h2]; exact hS.2.1 q h1 h2, fun q hq => by
      rcases List.mem_append.mp hq with h | h
      · exact hS.2.2 q h
      · exact hL' q h⟩
  cases hF : F with
  | none => rw [hF] at hf; cases hf
  | some o =>
    rw [hF] at hf
    rcases hr o hF H locs ls hP hS hL T hT XX with ⟨v', s0, t, T', L, h0, X', hL', e1, e2, ⟨v, h', ho, ⟨⟨hov, hP', hK', hs'⟩, hfr⟩⟩, go⟩ | ⟨q, s0, t, T', L, E, ce, h0, X', hL', e1, e2, ⟨h', ho, ⟨hP', hK', hs'⟩, hfr⟩, hce, hcv, hcl, go⟩
    · have hv : v' = v := by cases hov; rfl
      subst hv
      cases o with
      | inl e => cases ho
      | inr q =>
        have hv : V q = v' ∧ Hh q = h' := by
          have := Sum.inr.inj ho
          exact ⟨congrArg Prod.fst this, congrArg Prod.snd this⟩
        obtain ⟨rfl, rfl⟩ := hv
        obtain ⟨t2, a1, b1⟩ := kk q hf T'.heap (locs ++ L) ls (by rw [e1]; exact hP') (by rw [e1]; exact hs') (keep s0 t T' L h0 e1 hfr hL') hL T' rfl X'
        exact ⟨t2, go t2 a1, b1⟩
    · cases o with
      | inr q => cases ho
      | inl e =>
        have hr' : r = .inl (g e) := (Option.some.inj hf).symm
        have hxe : Hx e = (E, h') := Sum.inl.inj ho
        have hS' := keep s0 t T' L h0 e1 hfr hL'
        have hW : vx_W X.1 X.2.1 X.2.2.1 X.2.2.2.1 X.2.2.2.2.1 X.2.2.2.2.2.1 X.2.2.2.2.2.2.1 X.2.2.2.2.2.2.2.1 X.2.2.2.2.2.2.2.2.1 X.2.2.2.2.2.2.2.2.2 T'.heap (locs ++ L) (k + rmY.cells) (n + rmY.slots) (zQx X w rm (zOm Hx' V' Hh' r) N) (F0 X.2.2.2.2.2.1 pc ls rest) q :=
          vx_out (fun x hx => (htab x hx).elim) C.2.2.2.2.2.2.1 (by rw [e1]; exact hce) hcv hcl
            (fun U hU hA => ⟨h', by rw [hr']; exact congrArg Sum.inl ((hx e).trans hxe), ⟨by rw [hU, e1]; exact hP', va_K.moved hA C.2.2.2.2.2.2.2.2.2.1, fun z => Bool.noConfusion z⟩, hS'.F hU⟩) hS'.2.2 (Nat.le_of_ble_eq_true hcs.1) (Nat.le_of_ble_eq_true hcs.2)
        obtain ⟨t2, a1, b1⟩ := hW T' rfl X'
        exact ⟨t2, go.trans a1, b1⟩
/-- invokevirtual of a method that throws, of the receiver's class -/
theorem z_cxV (C : zK X w own cc nL ret rm) (htab : ∀ x ∈ X.2.2.2.2.2.2.2.2.2.exceptionTable.toList, False) {ε ρ ε' β : Type} {F : Option (ε ⊕ ρ)} {g : ε → ε'} {K : ρ → Option (ε' ⊕ β)} {r : ε' ⊕ β} (hf : zX1 F g K = some r) {i ci m : Nat} {y : MethodName} {cc' : ByteArray} {nL' : Nat} {ret' : Option FieldType} {rm' : Room} {Hx : ε → String × zH} {V : ρ → Option Value} {Hh : ρ → zH} {Hx' : ε' → String × zH} {V' : β → Option Value} {Hh' : β → zH} {As : List Value} {a : Nat} {fs : List Value} {qc : vw_C}
    (hM : ∀ {o}, F = some o → zMx w y cc' nL' ret' rm' N h (.ref (zo w + a) :: As) (zOm Hx V Hh o)) (stq : ρ → List Value) (hs : ∀ q, (V q).toList ++ st = stq q) (hx : ∀ e, Hx' (g e) = Hx e) (hY : zY y cc' nL' ret' m) (hl : Cond.methodLink own i y ∈ zG) (hi : Cond.instanceMethod y ∈ zG) (hsel : Cond.selects qc.1 y y ∈ zG) (hq : vwCl[ci]? = some qc) (hc : zc N h a (.inr (ci, fs))) (hR : zRm rm' rm nL' = true) (hm : As.length = m) (hst : Nat.ble ((st.map fun v => v.category).sum) 8 = true) (stk : As.reverse ++ .ref (zo w + a) :: st = st') (hk : (Nat.ble (k + rm'.cells) rm.cells && Nat.ble (n + rm'.slots) rm.slots) = true) (d : decode cc pc = .ok (.invokevirtual i, 3)) (he : pc + 3 = pc')
    (kk : ∀ q, K q = some r → zZ X w (zQx X w rm (zOm Hx' V' Hh' r) N) (k + rm'.cells) (n + rm'.slots) false N (Hh q) pc' lv (stq q)) : zZ X w (zQx X w rm (zOm Hx' V' Hh' r) N) k n false N h pc lv st' := by
  subst stk
  refine z_finx (y := y) (rest := st) (args' := (Value.ref (zo w + a) :: As).toArray) hf C htab (fun o hF H locs ls hP hS hL => ?_) hx hk he (fun q hq => by rw [hs q]; exact kk q hq)
  have hts := C.2.2.2.2.2.1
  obtain ⟨y1, y2, y3, y4, y5⟩ := hY
  have hR' := zRm_s hR
  have hRm : X.2.2.2.1 = rm := C.2.2.2.2.2.2.2.2.1
  simp only [Bool.and_eq_true] at hk
  have hMx : vx_Met X.2.1 y (.code y cc' nL' ret' :: zG) rm' (va_Pc (.ref (zo w + a) :: As) (zPre w false N h)) (zXQ w (zOm Hx V Hh o) N) (zXX w (zOm Hx V Hh o) N) rm'.cells rm'.slots (fun q => zo w ≤ q) := by rw [C.2.1]; exact hM hF
  exact vx_runV (C := qc.1) (Ts := zG) (own := own) (nL := nL) (As := As) (b := zo w + a) (n := m) (g := F0 X.2.2.2.2.2.1 pc ls (As.reverse ++ .ref (zo w + a) :: st)) ⟨C.1, C.2.2.1, C.2.2.2.1, C.2.2.2.2.1, hts⟩ hMx
    ⟨callB_of m hts (zG_cons y1) rfl rfl rfl (hts _ y2) (hts _ hl) ⟨y3, y4, y5⟩ (by rw [hRm]; exact ⟨hR'.1, by omega⟩), hts _ hi, hts _ hsel⟩
    ⟨zWd_blind w false N h _, va_recv C.2.2.2.2.2.2.2.2.2.1 hP hq (zc_at hc (zj_r hq)), fun U hU hW => ⟨rfl, ⟨by rw [hU]; exact hP, va_K.moved hW.alike C.2.2.2.2.2.2.2.2.2.1, fun z => Bool.noConfusion z⟩, by rw [hU]; exact zE.next hW hS.2.1 C.2.2.2.2.2.2.2.2.2.2⟩⟩ rfl hm (hL.1.trans C.2.2.2.1) rfl (by show 2 * 0 + _ ≤ 8; rw [Nat.mul_zero, Nat.zero_add]; exact Nat.le_of_ble_eq_true hst) d ⟨by rw [hRm]; exact Nat.le_of_ble_eq_true hk.1, by rw [hRm]; exact Nat.le_of_ble_eq_true hk.2⟩
/-- invokestatic of a method that throws -/
theorem z_cxS (C : zK X w own cc nL ret rm) (htab : ∀ x ∈ X.2.2.2.2.2.2.2.2.2.exceptionTable.toList, False) {ε ρ ε' β : Type} {F : Option (ε ⊕ ρ)} {g : ε → ε'} {K : ρ → Option (ε' ⊕ β)} {r : ε' ⊕ β} (hf : zX1 F g K = some r) {i m : Nat} {y : MethodName} {cc' : ByteArray} {nL' : Nat} {ret' : Option FieldType} {rm' : Room} {Hx : ε → String × zH} {V : ρ → Option Value} {Hh : ρ → zH} {Hx' : ε' → String × zH} {V' : β → Option Value} {Hh' : β → zH} {As : List Value}
    (hM : ∀ {o}, F = some o → zMx w y cc' nL' ret' rm' N h As (zOm Hx V Hh o)) (stq : ρ → List Value) (hs : ∀ q, (V q).toList ++ st = stq q) (hx : ∀ e, Hx' (g e) = Hx e) (hY : zY y cc' nL' ret' m) (hl : Cond.methodLink own i y ∈ zG) (hi : Cond.static y ∈ zG) (hR : zRm rm' rm nL' = true) (hm : As.length = m) (hst : Nat.ble ((st.map fun v => v.category).sum) 8 = true) (stk : As.reverse ++ st = st') (hk : (Nat.ble (k + rm'.cells) rm.cells && Nat.ble (n + rm'.slots) rm.slots) = true) (d : decode cc pc = .ok (.invokestatic i, 3)) (he : pc + 3 = pc')
    (kk : ∀ q, K q = some r → zZ X w (zQx X w rm (zOm Hx' V' Hh' r) N) (k + rm'.cells) (n + rm'.slots) false N (Hh q) pc' lv (stq q)) : zZ X w (zQx X w rm (zOm Hx' V' Hh' r) N) k n false N h pc lv st' := by
  subst stk
  refine z_finx (y := y) (rest := st) (args' := As.toArray) hf C htab (fun o hF H locs ls hP hS hL => ?_) hx hk he (fun q hq => by rw [hs q]; exact kk q hq)
  have hts := C.2.2.2.2.2.1
  obtain ⟨y1, y2, y3, y4, y5⟩ := hY
  have hR' := zRm_s hR
  have hRm : X.2.2.2.1 = rm := C.2.2.2.2.2.2.2.2.1
  simp only [Bool.and_eq_true] at hk
  have hMx : vx_Met X.2.1 y (.code y cc' nL' ret' :: zG) rm' (va_Pc As (zPre w false N h)) (zXQ w (zOm Hx V Hh o) N) (zXX w (zOm Hx V Hh o) N) rm'.cells rm'.slots (fun q => zo w ≤ q) := by rw [C.2.1]; exact hM hF
  exact vx_runS (Ts := zG) (own := own) (nL := nL) (As := As) (n := m) (g := F0 X.2.2.2.2.2.1 pc ls (As.reverse ++ st)) ⟨C.1, C.2.2.1, C.2.2.2.1, C.2.2.2.2.1, hts⟩ hMx
    ⟨callB_of m hts (zG_cons y1) rfl rfl rfl (hts _ y2) (hts _ hl) ⟨y3, y4, y5⟩ (by rw [hRm]; exact ⟨hR'.1, by omega⟩), hts _ hi⟩
    ⟨zWd_blind w false N h _, fun U hU hW => ⟨rfl, ⟨by rw [hU]; exact hP, va_K.moved hW.alike C.2.2.2.2.2.2.2.2.2.1, fun z => Bool.noConfusion z⟩, by rw [hU]; exact zE.next hW hS.2.1 C.2.2.2.2.2.2.2.2.2.2⟩⟩ rfl hm (hL.1.trans C.2.2.2.1) rfl (by show 2 * 0 + _ ≤ 8; rw [Nat.mul_zero, Nat.zero_add]; exact Nat.le_of_ble_eq_true hst) d ⟨by rw [hRm]; exact Nat.le_of_ble_eq_true hk.1, by rw [hRm]; exact Nat.le_of_ble_eq_true hk.2⟩
end ZX
