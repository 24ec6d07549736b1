/-! throw new E("text") of the face class: the words, and the row -/
def zBt (cls : String) : List Cond := [Cond.castable cls cls, Cond.declares { cls := "java/lang/RuntimeException", name := "<init>", desc := "(Ljava/lang/String;)V" }, Cond.declares { cls := "java/lang/Exception", name := "<init>", desc := "(Ljava/lang/String;)V" }, Cond.declares { cls := "java/lang/Throwable", name := "<init>", desc := "(Ljava/lang/String;)V" }]
set_option maxRecDepth 100000 in
theorem zat_io : ∀ q ∈ (vx_atS RX8 298 "java/lang/IndexOutOfBoundsException" ["java/lang/RuntimeException", "java/lang/Exception"]).filter goodWord, q ∈ zG := by decide +kernel
set_option maxRecDepth 100000 in
theorem zbt_io : ∀ q ∈ (vx_atS RX8 298 "java/lang/IndexOutOfBoundsException" ["java/lang/RuntimeException", "java/lang/Exception"]).filter (fun q => !goodWord q), q ∈ zBt "java/lang/IndexOutOfBoundsException" := by decide +kernel
set_option maxRecDepth 100000 in
theorem zct_io : ∀ q ∈ Cond.classLink RX8 294 "java/lang/IndexOutOfBoundsException" :: Cond.initialized "java/lang/IndexOutOfBoundsException" :: (vx_atS RX8 298 "java/lang/IndexOutOfBoundsException" ["java/lang/RuntimeException", "java/lang/Exception"]), vx_ot q = true := by decide +kernel
set_option maxRecDepth 100000 in
theorem zat_ia : ∀ q ∈ (vx_atS RX8 232 "java/lang/IllegalArgumentException" ["java/lang/RuntimeException", "java/lang/Exception"]).filter goodWord, q ∈ zG := by decide +kernel
set_option maxRecDepth 100000 in
theorem zbt_ia : ∀ q ∈ (vx_atS RX8 232 "java/lang/IllegalArgumentException" ["java/lang/RuntimeException", "java/lang/Exception"]).filter (fun q => !goodWord q), q ∈ zBt "java/lang/IllegalArgumentException" := by decide +kernel
set_option maxRecDepth 100000 in
theorem zct_ia : ∀ q ∈ Cond.classLink RX8 228 "java/lang/IllegalArgumentException" :: Cond.initialized "java/lang/IllegalArgumentException" :: (vx_atS RX8 232 "java/lang/IllegalArgumentException" ["java/lang/RuntimeException", "java/lang/Exception"]), vx_ot q = true := by decide +kernel
set_option maxRecDepth 100000 in
theorem zat_is : ∀ q ∈ (vx_atS RX8 305 "java/lang/IllegalStateException" ["java/lang/RuntimeException", "java/lang/Exception"]).filter goodWord, q ∈ zG := by decide +kernel
set_option maxRecDepth 100000 in
theorem zbt_is : ∀ q ∈ (vx_atS RX8 305 "java/lang/IllegalStateException" ["java/lang/RuntimeException", "java/lang/Exception"]).filter (fun q => !goodWord q), q ∈ zBt "java/lang/IllegalStateException" := by decide +kernel
set_option maxRecDepth 100000 in
theorem zct_is : ∀ q ∈ Cond.classLink RX8 301 "java/lang/IllegalStateException" :: Cond.initialized "java/lang/IllegalStateException" :: (vx_atS RX8 305 "java/lang/IllegalStateException" ["java/lang/RuntimeException", "java/lang/Exception"]), vx_ot q = true := by decide +kernel
/-- throw new E("text") by ldc_w -/
theorem z_throw {X : zC} {w : zV} {k n : Nat} {N : Nat} {h : zH} {pc pc3 pc4 pc7 pc10 : Nat} {lv : List (Nat × Value)} {st : List Value} {cc : ByteArray} {nL : Nat} {ret : Option FieldType} {rm : Room} (C : zK X w RX8 cc nL ret rm) (htab : ∀ x ∈ X.2.2.2.2.2.2.2.2.2.exceptionTable.toList, False) {ik is ic i j : Nat} {cls text : String} {bs : List Int32} {o : zO}
    (hj : zExs[j]? = some cls) (hi : zSt[i]? = some (RX8, is, text, bs)) (hat : ∀ q ∈ (vx_atS RX8 ic cls ["java/lang/RuntimeException", "java/lang/Exception"]).filter goodWord, q ∈ zG) (hbt : ∀ q ∈ (vx_atS RX8 ic cls ["java/lang/RuntimeException", "java/lang/Exception"]).filter (fun q => !goodWord q), q ∈ zBt cls) (hct : ∀ q ∈ Cond.classLink RX8 ik cls :: Cond.initialized cls :: vx_atS RX8 ic cls ["java/lang/RuntimeException", "java/lang/Exception"], vx_ot q = true)
    (hcls : Bundle.fit cls = true) (hk : Cond.classLink RX8 ik cls ∈ zG) (hini : Cond.initialized cls ∈ zG) (ho : o = .inl (cls, h)) (d0 : decode cc pc = .ok (.new ik, 3)) (e3 : pc + 3 = pc3) (d3 : decode cc pc3 = .ok (.dup, 1)) (e4 : pc + 4 = pc4) (d4 : decode cc pc4 = .ok (.ldc_w is, 3)) (e7 : pc + 7 = pc7) (d7 : decode cc pc7 = .ok (.invokespecial ic, 3)) (e10 : pc + 10 = pc10) (d10 : decode cc pc10 = .ok (.athrow, 1))
    (hst : Nat.ble ((st.map fun v => v.category).sum) 8 = true) (hr : (Nat.ble 6 rm.frames && Nat.ble 90 rm.locals && (Nat.ble (k + 1) rm.cells && Nat.ble (n + 6) rm.slots)) = true) : zZ X w (zQx X w rm o N) k n false N h pc lv st := by
  subst e3 e4 e7 e10 ho
  simp only [Bool.and_eq_true] at hr
  obtain ⟨⟨r1, r2⟩, r3, r4⟩ := hr
  have r1 := Nat.le_of_ble_eq_true r1
  have r2 := Nat.le_of_ble_eq_true r2
  have r3 := Nat.le_of_ble_eq_true r3
  have r4 := Nat.le_of_ble_eq_true r4
  have hs' := Nat.le_of_ble_eq_true hst
  have hRm : X.2.2.2.1 = rm := C.2.2.2.2.2.2.2.2.1
  have hts := C.2.2.2.2.2.1
  have hE := C.2.2.2.2.2.2.2.2.2.2
  have hT : X.2.1.stackTraces = false := by rw [C.2.1]; exact hE.1.1
  intro H locs ls hP hs hS hL
  refine vx_throwSW (own := RX8) (names := ["java/lang/RuntimeException", "java/lang/Exception"]) (A := zA w) C.1 C.2.2.1 hT C.2.2.2.2.1 hcls (by decide) (hts _ hk) (hts _ hini) (hE.1.2.1 i _ hi)
    (vx_hat (fun q hq => hts _ (hat q hq)) hbt (vx_c (va_Nw.use rfl (hE.1.2.2.2.2.2.1 j _ hj)) (vx_c (va_Nw.use rfl (hE.1.2.2.2.2.2.2 0 _ rfl)) (vx_c (va_Nw.use rfl (hE.1.2.2.2.2.2.2 1 _ rfl)) (vx_c (va_Nw.use rfl (hE.1.2.2.2.2.2.2 2 _ rfl)) vx_n))))) hct hE.2.2.2.2.1 hE.2.2.2.2.2 hS hL.1 d0 d3 d4 d7 d10 (fun x hx => (htab x hx).elim) (by rw [hRm]; show 2 + 3 < _; omega) (by rw [hRm]; show _ + (13 * (2 + 1) + 43) ≤ _; omega) (by rw [hRm]; omega) (by rw [hRm]; omega) C.2.2.2.2.2.2.1
    (fun t ht hz hq => ⟨h, rfl, ⟨fun a e ha => (hP a e ha).kept (hq _ (hP a e ha).lt), va_K.moved ht C.2.2.2.2.2.2.2.2.2.1, fun z => Bool.noConfusion z⟩, ⟨Nat.le_trans hS.1 hz, fun q h1 h2 => by rw [hq q (Nat.lt_of_lt_of_le h1 hS.1)]; exact hS.2.1 q h1 h2⟩⟩) hS.2.2 r3 r4
/-- throw new E("text") by ldc -/
theorem z_throwL {X : zC} {w : zV} {k n : Nat} {N : Nat} {h : zH} {pc pc3 pc4 pc6 pc9 : Nat} {lv : List (Nat × Value)} {st : List Value} {cc : ByteArray} {nL : Nat} {ret : Option FieldType} {rm : Room} (C : zK X w RX8 cc nL ret rm) (htab : ∀ x ∈ X.2.2.2.2.2.2.2.2.2.exceptionTable.toList, False) {ik is ic i j : Nat} {cls text : String} {bs : List Int32} {o : zO}
    (hj : zExs[j]? = some cls) (hi : zSt[i]? = some (RX8, is, text, bs)) (hat : ∀ q ∈ (vx_atS RX8 ic cls ["java/lang/RuntimeException", "java/lang/Exception"]).filter goodWord, q ∈ zG) (hbt : ∀ q ∈ (vx_atS RX8 ic cls ["java/lang/RuntimeException", "java/lang/Exception"]).filter (fun q => !goodWord q), q ∈ zBt cls) (hct : ∀ q ∈ Cond.classLink RX8 ik cls :: Cond.initialized cls :: vx_atS RX8 ic cls ["java/lang/RuntimeException", "java/lang/Exception"], vx_ot q = true)
    (hcls : Bundle.fit cls = true) (hk : Cond.classLink RX8 ik cls ∈ zG) (hini : Cond.initialized cls ∈ zG) (ho : o = .inl (cls, h)) (d0 : decode cc pc = .ok (.new ik, 3)) (e3 : pc + 3 = pc3) (d3 : decode cc pc3 = .ok (.dup, 1)) (e4 : pc + 4 = pc4) (d4 : decode cc pc4 = .ok (.ldc is, 2)) (e6 : pc + 6 = pc6) (d6 : decode cc pc6 = .ok (.invokespecial ic, 3)) (e9 : pc + 9 = pc9) (d9 : decode cc pc9 = .ok (.athrow, 1))
    (hst : Nat.ble ((st.map fun v => v.category).sum) 8 = true) (hr : (Nat.ble 6 rm.frames && Nat.ble 90 rm.locals && (Nat.ble (k + 1) rm.cells && Nat.ble (n + 6) rm.slots)) = true) : zZ X w (zQx X w rm o N) k n false N h pc lv st := by
  subst e3 e4 e6 e9 ho
  simp only [Bool.and_eq_true] at hr
  obtain ⟨⟨r1, r2⟩, r3, r4⟩ := hr
  have r1 := Nat.le_of_ble_eq_true r1
  have r2 := Nat.le_of_ble_eq_true r2
  have r3 := Nat.le_of_ble_eq_true r3
  have r4 := Nat.le_of_ble_eq_true r4
  have hs' := Nat.le_of_ble_eq_true hst
  have hRm : X.2.2.2.1 = rm := C.2.2.2.2.2.2.2.2.1
  have hts := C.2.2.2.2.2.1
  have hE := C.2.2.2.2.2.2.2.2.2.2
  have hT : X.2.1.stackTraces = false := by rw [C.2.1]; exact hE.1.1
  intro H locs ls hP hs hS hL
  refine vx_throwS (own := RX8) (names := ["java/lang/RuntimeException", "java/lang/Exception"]) (A := zA w) C.1 C.2.2.1 hT C.2.2.2.2.1 hcls (by decide) (hts _ hk) (hts _ hini) (hE.1.2.1 i _ hi)
    (vx_hat (fun q hq => hts _ (hat q hq)) hbt (vx_c (va_Nw.use rfl (hE.1.2.2.2.2.2.1 j _ hj)) (vx_c (va_Nw.use rfl (hE.1.2.2.2.2.2.2 0 _ rfl)) (vx_c (va_Nw.use rfl (hE.1.2.2.2.2.2.2 1 _ rfl)) (vx_c (va_Nw.use rfl (hE.1.2.2.2.2.2.2 2 _ rfl)) vx_n))))) hct hE.2.2.2.2.1 hE.2.2.2.2.2 hS hL.1 d0 d3 d4 d6 d9 (fun x hx => (htab x hx).elim) (by rw [hRm]; show 2 + 3 < _; omega) (by rw [hRm]; show _ + (13 * (2 + 1) + 43) ≤ _; omega) (by rw [hRm]; omega) (by rw [hRm]; omega) C.2.2.2.2.2.2.1
    (fun t ht hz hq => ⟨h, rfl, ⟨fun a e ha => (hP a e ha).kept (hq _ (hP a e ha).lt), va_K.moved ht C.2.2.2.2.2.2.2.2.2.1, fun z => Bool.noConfusion z⟩, ⟨Nat.le_trans hS.1 hz, fun q h1 h2 => by rw [hq q (Nat.lt_of_lt_of_le h1 hS.1)]; exact hS.2.1 q h1 h2⟩⟩) hS.2.2 r3 r4
