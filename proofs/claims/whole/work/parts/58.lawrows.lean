/-! rows of the law's own frame -/
abbrev zwc (y : MethodName) (cc : ByteArray) (nL : Nat) (hh : List (Nat × Nat × Nat × Nat)) : Cond := .codeWith y cc nL (some .int) hh
theorem zG_consW {y : MethodName} {cc : ByteArray} {nL : Nat} {hh : List (Nat × Nat × Nat × Nat)} (h : zwc y cc nL hh ∈ zG) : GoodIn zG (zwc y cc nL hh :: zG) := fun q hq => (List.mem_cons.mp hq).elim (fun e => by rw [e]; exact zG_good _ h) (zG_good q)
theorem zMw_eq {w : zV} {y : MethodName} {cc : ByteArray} {nL : Nat} {hh : List (Nat × Nat × Nat × Nat)} {rm : Room} {N : Nat} {h : zH} {av : List Value} {v : Option Value} {h' h'' : zH} (e : h' = h'') (k : zMw w y cc nL hh rm N h av v h') : zMw w y cc nL hh rm N h av v h'' := e ▸ k
section ZLR
variable {X : zC} {w : zV} {Q : State → Prop} {k n : Nat} {N : Nat} {h : zH} {pc pc' : Nat} {lv : List (Nat × Value)} {st st' : List Value} {own : String} {cc : ByteArray} {nL : Nat} {ret : Option FieldType} {rm : Room} {x : Bool}
theorem z_sld (C : zK X w own cc nL ret rm) {b L : Nat} {xs : Nat → Int32} (hX : va_X b L xs X.2.2.2.2.1 X.2.2.2.2.1.heap) (hb : b < X.2.2.2.2.1.heap.size) (hw : b < zo w) {i v : Int32} (hi : vp_in i L ∧ xs i.toNatClampNeg = v) (d : decode cc pc = .ok (.iaload, 1)) (he : pc + 1 = pc') (kk : zZ X w Q k n x N h pc' lv (.int v :: st)) : zZ X w Q k n x N h pc lv (.int i :: .ref b :: st) := by
  subst he
  obtain ⟨h1, h2⟩ := hi
  subst h2
  intro H locs ls hP hs hS hL
  exact va_sld C.1 C.2.2.1 hX hb (Nat.not_le.mpr hw) hS h1 d (kk H locs ls hP hs hS hL)
theorem z_xlen (C : zK X w own cc nL ret rm) {b L : Nat} {xs : Nat → Int32} (hX : va_X b L xs X.2.2.2.2.1 X.2.2.2.2.1.heap) (hb : b < X.2.2.2.2.1.heap.size) (hw : b < zo w) (d : decode cc pc = .ok (.arraylength, 1)) (he : pc + 1 = pc') (kk : zZ X w Q k n x N h pc' lv (.int (Int32.ofNat L) :: st)) : zZ X w Q k n x N h pc lv (.ref b :: st) := by
  subst he
  intro H locs ls hP hs hS hL
  exact va_slen C.1 C.2.2.1 hX hb (Nat.not_le.mpr hw) hS d (kk H locs ls hP hs hS hL)
theorem z_tabI (C : zK X w own cc nL ret rm) {x1 : Int32} {dflt lo hi off : Int} {offs : Array Int} {len : Nat} (tgt : Nat) (d : decode cc pc = .ok (.tableswitch dflt lo hi offs, len)) (h1 : ¬ x1.toInt < lo) (h2 : ¬ hi < x1.toInt) (ho : offs[(x1.toInt - lo).toNat]? = some off) (ht : (pc : Int) + off = (tgt : Int)) (kk : zZ X w Q k n x N h tgt lv st) : zZ X w Q k n x N h pc lv (.int x1 :: st) :=
  fun H locs ls hP hs hS hL => lv_tableIn C.1 C.2.2.1 d h1 h2 ho ht (kk H locs ls hP hs hS hL)
theorem z_tabO (C : zK X w own cc nL ret rm) {x1 : Int32} {dflt lo hi : Int} {offs : Array Int} {len : Nat} (tgt : Nat) (d : decode cc pc = .ok (.tableswitch dflt lo hi offs, len)) (h : x1.toInt < lo ∨ hi < x1.toInt) (ht : (pc : Int) + dflt = (tgt : Int)) {h' : zH} (kk : zZ X w Q k n x N h' tgt lv st) : zZ X w Q k n x N h' pc lv (.int x1 :: st) :=
  fun H locs ls hP hs hS hL => lv_tableOut C.1 C.2.2.1 d h ht (kk H locs ls hP hs hS hL)
/-- a static call of a method with handlers -/
theorem z_callSW (C : zK X w own cc nL ret rm) {i m : Nat} {y : MethodName} {cc' : ByteArray} {nL' : Nat} {hh : List (Nat × Nat × Nat × Nat)} {rm' : Room} {h' : zH} {v : Option Value} {As : List Value} (hM : zMw w y cc' nL' hh rm' N h As v h') (hcw : zwc y cc' nL' hh ∈ zG) (hini : Cond.initialized y.cls ∈ zG) (hy : (y.cls ≠ "java/lang/invoke/MethodHandle" ∧ y.cls ≠ "java/lang/invoke/VarHandle") ∧ (parseMethodDescriptor y.desc).map (fun d => d.parameters.length) = some m) (hl : Cond.methodLink own i y ∈ zG) (hi : Cond.static y ∈ zG) (hR : zRm rm' rm nL' = true) (hm : As.length = m) (hst : Nat.ble ((st.map fun v => v.category).sum) 8 = true) (stk : As.reverse ++ st = st') (hf : (Nat.ble (k + rm'.cells) rm.cells && Nat.ble (n + rm'.slots) rm.slots) = true) (d : decode cc pc = .ok (.invokestatic i, 3)) (he : pc + 3 = pc')
    (kk : zZ X w Q (k + rm'.cells) (n + rm'.slots) false N h' pc' lv (v.toList ++ st)) : zZ X w Q k n false N h pc lv st' := by
  subst stk
  refine z_fin (y := y) (args' := As.toArray) (fun H locs ls hP hs hS hL => ?_) he kk
  have hts := C.2.2.2.2.2.1
  have hR' := zRm_s hR
  have hRm : X.2.2.2.1 = rm := C.2.2.2.2.2.2.2.2.1
  simp only [Bool.and_eq_true] at hf
  have hMx : Met X.2.1 y (zwc y cc' nL' hh :: zG) rm' (va_Pc As (zPre w false N h)) (zMQ w v false N h') rm'.cells rm'.slots (fun q => zo w ≤ q) := by rw [C.2.1]; exact hM
  have cw : vx_CSW X.2.2.2.1 X.2.2.2.2.1 X.2.2.2.2.2.2.1 own i y cc' nL' (some .int) hh (zwc y cc' nL' hh :: zG) rm' rm'.cells rm'.slots m := by
    rw [hRm]
    exact ⟨⟨rfl, rfl, hR'.1, by omega, pay_in hts (zG_consW hcw), List.mem_cons_self⟩, hts _ hcw, hts _ hini, hy.1, fun sig h => (by
      have h2 := hy.2
      rw [h] at h2
      exact (Option.some.inj h2).symm), hts _ hl, hts _ hi⟩
  exact vx_runSW (Ts := zG) (own := own) (nL := nL) (As := As) (n := m) (g := F0 X.2.2.2.2.2.1 pc ls (As.reverse ++ st)) ⟨C.1, C.2.2.1, C.2.2.2.1, C.2.2.2.2.1, hts⟩ hMx cw
    ⟨zWd_blind w false N h _, fun U hU hW => ⟨rfl, ⟨by rw [hU]; exact hP, va_K.moved hW.alike C.2.2.2.2.2.2.2.2.2.1, by rw [hU]; exact hs⟩, by rw [hU]; exact zE.next hW hS.2.1 C.2.2.2.2.2.2.2.2.2.2⟩⟩ rfl hm (hL.1.trans C.2.2.2.1) rfl (by show 2 * 0 + _ ≤ 8; rw [Nat.mul_zero, Nat.zero_add]; exact Nat.le_of_ble_eq_true hst) d ⟨by rw [hRm]; exact Nat.le_of_ble_eq_true hf.1, by rw [hRm]; exact Nat.le_of_ble_eq_true hf.2⟩
/-- .. that makes something -/
theorem z_callSWP (C : zK X w own cc nL ret rm) {i m : Nat} {y : MethodName} {cc' : ByteArray} {nL' : Nat} {hh : List (Nat × Nat × Nat × Nat)} {rm' : Room} {P : Nat → zH → Prop} {v : Option Value} {As : List Value} (hM : zMwP w y cc' nL' hh rm' N h As v P) (hcw : zwc y cc' nL' hh ∈ zG) (hini : Cond.initialized y.cls ∈ zG) (hy : (y.cls ≠ "java/lang/invoke/MethodHandle" ∧ y.cls ≠ "java/lang/invoke/VarHandle") ∧ (parseMethodDescriptor y.desc).map (fun d => d.parameters.length) = some m) (hl : Cond.methodLink own i y ∈ zG) (hi : Cond.static y ∈ zG) (hR : zRm rm' rm nL' = true) (hm : As.length = m) (hst : Nat.ble ((st.map fun v => v.category).sum) 8 = true) (stk : As.reverse ++ st = st') (hf : (Nat.ble (k + rm'.cells) rm.cells && Nat.ble (n + rm'.slots) rm.slots) = true) (d : decode cc pc = .ok (.invokestatic i, 3)) (he : pc + 3 = pc')
    (kk : ∀ (N' : Nat) (h' : zH), P N' h' → zZ X w Q (k + rm'.cells) (n + rm'.slots) false N' h' pc' lv (v.toList ++ st)) : zZ X w Q k n false N h pc lv st' := by
  subst stk
  refine z_finP (y := y) (args' := As.toArray) (fun H locs ls hP hS hL => ?_) he kk
  have hts := C.2.2.2.2.2.1
  have hR' := zRm_s hR
  have hRm : X.2.2.2.1 = rm := C.2.2.2.2.2.2.2.2.1
  simp only [Bool.and_eq_true] at hf
  have hMx : Met X.2.1 y (zwc y cc' nL' hh :: zG) rm' (va_Pc As (zPre w false N h)) (zMQP w v P) rm'.cells rm'.slots (fun q => zo w ≤ q) := by rw [C.2.1]; exact hM
  have cw : vx_CSW X.2.2.2.1 X.2.2.2.2.1 X.2.2.2.2.2.2.1 own i y cc' nL' (some .int) hh (zwc y cc' nL' hh :: zG) rm' rm'.cells rm'.slots m := by
    rw [hRm]
    exact ⟨⟨rfl, rfl, hR'.1, by omega, pay_in hts (zG_consW hcw), List.mem_cons_self⟩, hts _ hcw, hts _ hini, hy.1, fun sig h => (by
      have h2 := hy.2
      rw [h] at h2
      exact (Option.some.inj h2).symm), hts _ hl, hts _ hi⟩
  exact vx_runSW (Ts := zG) (own := own) (nL := nL) (As := As) (n := m) (g := F0 X.2.2.2.2.2.1 pc ls (As.reverse ++ st)) ⟨C.1, C.2.2.1, C.2.2.2.1, C.2.2.2.2.1, hts⟩ hMx cw
    ⟨zWd_blind w false N h _, fun U hU hW => ⟨rfl, ⟨by rw [hU]; exact hP, va_K.moved hW.alike C.2.2.2.2.2.2.2.2.2.1, fun z => Bool.noConfusion z⟩, by rw [hU]; exact zE.next hW hS.2.1 C.2.2.2.2.2.2.2.2.2.2⟩⟩ rfl hm (hL.1.trans C.2.2.2.1) rfl (by show 2 * 0 + _ ≤ 8; rw [Nat.mul_zero, Nat.zero_add]; exact Nat.le_of_ble_eq_true hst) d ⟨by rw [hRm]; exact Nat.le_of_ble_eq_true hf.1, by rw [hRm]; exact Nat.le_of_ble_eq_true hf.2⟩
theorem room_ok {c s a b : Nat} (hk : k + 12 ≤ 601024) (hn : n + 1000 ≤ 7293033) (h1 : a + c ≤ k + 12) (h2 : b + s ≤ n + 1000) : (Nat.ble (a + c) 601024 && Nat.ble (b + s) 7293033) = true := by
  rw [Bool.and_eq_true]
  exact ⟨Nat.ble_eq_true_of_le (by omega), Nat.ble_eq_true_of_le (by omega)⟩
end ZLR
/-! the law's loop: what each round finds -/
def lw_sc (L : Nat) (xs : Nat → Int32) (i : Int32) (q : Nat → Int32) : Prop := ∀ j, j < 6 → vp_in (i + Int32.ofNat j) L ∧ xs (i + Int32.ofNat j).toNatClampNeg = q j
abbrev lw_lv (w : zV) (b : Nat) (i : Int32) : List (Nat × Value) := [(4, .int i), (3, .ref (zo w + 395)), (2, .ref (zo w + 389)), (1, .ref (zo w + 0)), (0, .ref b)]
def lw_C (X : zC) (w : zV) (b L : Nat) (xs : Nat → Int32) : Prop := zK X w RL cL_law 8 (some .boolean) room_1 ∧ va_X b L xs X.2.2.2.2.1 X.2.2.2.2.1.heap ∧ b < X.2.2.2.2.1.heap.size ∧ b < zo w
def lw_N (X : zC) (w : zV) (Q : State → Prop) (b : Nat) (i : Int32) (N : Nat) (h0 : zH) (k n : Nat) (σ : LgT) (ρ : MdT) : Prop := ∀ (k' n' : Nat) (u : Nat → Int64), k' ≤ k + 12 → n' ≤ n + 1000 → zZ X w Q k' n' false N (gW w h0 σ ρ u) 2707 (lw_lv w b i) []
