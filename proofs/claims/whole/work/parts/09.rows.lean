section ZJ
variable {X : zC} {w : zV} {Q : State → Prop} {k n : Nat} {x : Bool} {N : Nat} {h : zH} {pc pc' : Nat} {lv : List (Nat × Value)} {st st' : List Value} {own : String} {cc : ByteArray} {nL : Nat} {ret : Option FieldType} {rm : Room}
theorem zn0 {rm' : Room} (h0 : rm'.cells = 0 ∧ rm'.slots = 0) (hk : (Nat.ble k rm.cells && Nat.ble n rm.slots) = true) : (Nat.ble (k + rm'.cells) rm.cells && Nat.ble (n + rm'.slots) rm.slots) = true := by rw [h0.1, h0.2]; exact hk
/-- a call in a functional program; the callee makes no cell -/
theorem z_cV (C : zK X w own cc nL ret rm) {ρ β : Type} {F : Option ρ} {K : ρ → Option β} {r : β} (hf : zB1 F K = some r) {i ci m : Nat} {y : MethodName} {cc' : ByteArray} {nL' : Nat} {ret' : Option FieldType} {rm' : Room} {h' : ρ → zH} {V : ρ → Option Value} {As : List Value} {a : Nat} {fs : List Value} {qc : vw_C} (hM : ∀ {q : ρ}, F = some q → zM w y cc' nL' ret' rm' x N N h (.ref (zo w + a) :: As) (V q) (h' q)) (h2 : ρ → zH) (stq : ρ → List Value) (hh : ∀ q, h' q = h2 q) (hs : ∀ q, (V q).toList ++ st = stq q) (hY : zY y cc' nL' ret' m) (hl : Cond.methodLink own i y ∈ zG) (hi : Cond.instanceMethod y ∈ zG) (hsel : Cond.selects qc.1 y y ∈ zG) (hq : vwCl[ci]? = some qc) (hc : zc N h a (.inr (ci, fs))) (h0 : rm'.cells = 0 ∧ rm'.slots = 0) (hR : zRm rm' rm nL' = true) (hm : As.length = m) (hst : Nat.ble ((st.map fun v => v.category).sum) 16 = true) (stk : As.reverse ++ .ref (zo w + a) :: st = st') (hk : (Nat.ble k rm.cells && Nat.ble n rm.slots) = true) (d : decode cc pc = .ok (.invokevirtual i, 3)) (he : pc + 3 = pc')
    (kk : ∀ q : ρ, K q = some r → zZ X w Q k n x N (h2 q) pc' lv (stq q)) : zZ X w Q k n x N h pc lv st' := by
  obtain ⟨q, hF, hK⟩ := zB_s hf
  refine z_callV C (hM hF) hY hl hi hsel hq hc hR hm hst stk (zn0 h0 hk) d he ?_
  rw [h0.1, h0.2, hh q, hs q]
  exact kk q hK
theorem z_cS (C : zK X w own cc nL ret rm) {ρ β : Type} {F : Option ρ} {K : ρ → Option β} {r : β} (hf : zB1 F K = some r) {i m : Nat} {y : MethodName} {cc' : ByteArray} {nL' : Nat} {ret' : Option FieldType} {rm' : Room} {h' : ρ → zH} {V : ρ → Option Value} {As : List Value} (hM : ∀ {q : ρ}, F = some q → zM w y cc' nL' ret' rm' x N N h As (V q) (h' q)) (h2 : ρ → zH) (stq : ρ → List Value) (hh : ∀ q, h' q = h2 q) (hs : ∀ q, (V q).toList ++ st = stq q) (hY : zY y cc' nL' ret' m) (hl : Cond.methodLink own i y ∈ zG) (hi : Cond.static y ∈ zG) (h0 : rm'.cells = 0 ∧ rm'.slots = 0) (hR : zRm rm' rm nL' = true) (hm : As.length = m) (hst : Nat.ble ((st.map fun v => v.category).sum) 8 = true) (stk : As.reverse ++ st = st') (hk : (Nat.ble k rm.cells && Nat.ble n rm.slots) = true) (d : decode cc pc = .ok (.invokestatic i, 3)) (he : pc + 3 = pc')
    (kk : ∀ q : ρ, K q = some r → zZ X w Q k n x N (h2 q) pc' lv (stq q)) : zZ X w Q k n x N h pc lv st' := by
  obtain ⟨q, hF, hK⟩ := zB_s hf
  refine z_callS C (hM hF) hY hl hi hR hm hst stk (zn0 h0 hk) d he ?_
  rw [h0.1, h0.2, hh q, hs q]
  exact kk q hK
/-- room for a small method of the library -/
def zRs (rm : Room) (k n : Nat) : Bool := Nat.ble 1 rm.frames && Nat.ble 40 rm.locals && Nat.ble k rm.cells && Nat.ble n rm.slots
theorem zRs_s (h : zRs rm k n = true) : 1 ≤ rm.frames ∧ 40 ≤ rm.locals ∧ k ≤ rm.cells ∧ n ≤ rm.slots := by
  simp only [zRs, Bool.and_eq_true] at h
  exact ⟨Nat.le_of_ble_eq_true h.1.1.1, Nat.le_of_ble_eq_true h.1.1.2, Nat.le_of_ble_eq_true h.1.2, Nat.le_of_ble_eq_true h.2⟩
theorem zx_math : Cond.initialized "java/lang/Math" ∈ zG := zw_6
theorem zx_imin_s : Cond.static Lib.Math.min.name ∈ zG := zw_97
theorem zx_imin_c : Cond.code Lib.Math.min.name Lib.Math.min.code 2 (some .int) ∈ zG := zw_98
theorem zx_imax_s : Cond.static Lib.Math.max.name ∈ zG := zw_100
theorem zx_imax_c : Cond.code Lib.Math.max.name Lib.Math.max.code 2 (some .int) ∈ zG := zw_101
theorem zx_lmin_s : Cond.static Lib.MathLoose.min_long.x ∈ zG := zw_422
theorem zx_lmin_c : Cond.code Lib.MathLoose.min_long.x Lib.MathLoose.min_long.code 4 (some .long) ∈ zG := zw_423
theorem zx_lmax_s : Cond.static Lib.MathLoose.max_long.x ∈ zG := zw_425
theorem zx_lmax_c : Cond.code Lib.MathLoose.max_long.x Lib.MathLoose.max_long.code 4 (some .long) ∈ zG := zw_426
theorem zx_cp_s : Cond.static arraycopyName ∈ zG := zw_672
theorem zx_cp_n : Cond.native arraycopyName ∈ zG := zw_673
theorem zx_sys : Cond.initialized "java/lang/System" ∈ zG := zw_20
theorem z_imin (C : zK X w own cc nL ret rm) {i : Nat} {x1 y1 : Int32} (hl : Cond.methodLink own i Lib.Math.min.name ∈ zG) (hr : zRs rm k n = true) (hst : Nat.ble ((st.map fun v => v.category).sum) 8 = true) (d : decode cc pc = .ok (.invokestatic i, 3)) (he : pc + 3 = pc') (kk : zZ X w Q k n x N h pc' lv (.int (if y1 < x1 then y1 else x1) :: st)) : zZ X w Q k n x N h pc lv (.int y1 :: .int x1 :: st) := by
  subst he
  have hr' := zRs_s hr
  have hs' := Nat.le_of_ble_eq_true hst
  have hRm : X.2.2.2.1 = rm := C.2.2.2.2.2.2.2.2.1
  have hts := C.2.2.2.2.2.1
  exact fun H locs ls hP hs hS hL => va_mmin C.1 C.2.2.1 hL.1.symm C.2.2.2.2.1 (hts _ hl) (hts _ zx_imin_s) (hts _ zx_math) (hts _ zx_imin_c) (by rw [hRm]; omega) (by rw [hRm]; omega) (by rw [hRm]; omega) (by rw [hRm]; omega) d (kk H locs ls hP hs hS hL)
theorem z_imax (C : zK X w own cc nL ret rm) {i : Nat} {x1 y1 : Int32} (hl : Cond.methodLink own i Lib.Math.max.name ∈ zG) (hr : zRs rm k n = true) (hst : Nat.ble ((st.map fun v => v.category).sum) 8 = true) (d : decode cc pc = .ok (.invokestatic i, 3)) (he : pc + 3 = pc') (kk : zZ X w Q k n x N h pc' lv (.int (if x1 < y1 then y1 else x1) :: st)) : zZ X w Q k n x N h pc lv (.int y1 :: .int x1 :: st) := by
  subst he
  have hr' := zRs_s hr
  have hs' := Nat.le_of_ble_eq_true hst
  have hRm : X.2.2.2.1 = rm := C.2.2.2.2.2.2.2.2.1
  have hts := C.2.2.2.2.2.1
  exact fun H locs ls hP hs hS hL => va_mmax C.1 C.2.2.1 hL.1.symm C.2.2.2.2.1 (hts _ hl) (hts _ zx_imax_s) (hts _ zx_math) (hts _ zx_imax_c) (by rw [hRm]; omega) (by rw [hRm]; omega) (by rw [hRm]; omega) (by rw [hRm]; omega) d (kk H locs ls hP hs hS hL)
theorem z_lmin (C : zK X w own cc nL ret rm) {i : Nat} {x1 y1 : Int64} (hl : Cond.methodLink own i Lib.MathLoose.min_long.x ∈ zG) (hr : zRs rm k n = true) (hst : Nat.ble ((st.map fun v => v.category).sum) 8 = true) (d : decode cc pc = .ok (.invokestatic i, 3)) (he : pc + 3 = pc') (kk : zZ X w Q k n x N h pc' lv (.long (if y1 < x1 then y1 else x1) :: st)) : zZ X w Q k n x N h pc lv (.long y1 :: .long x1 :: st) := by
  subst he
  have hr' := zRs_s hr
  have hs' := Nat.le_of_ble_eq_true hst
  have hRm : X.2.2.2.1 = rm := C.2.2.2.2.2.2.2.2.1
  have hts := C.2.2.2.2.2.1
  exact fun H locs ls hP hs hS hL => va_mmin_long C.1 C.2.2.1 hL.1.symm C.2.2.2.2.1 (hts _ hl) (hts _ zx_lmin_s) (hts _ zx_math) (hts _ zx_lmin_c) (by rw [hRm]; omega) (by rw [hRm]; omega) (by rw [hRm]; omega) (by rw [hRm]; omega) d (kk H locs ls hP hs hS hL)
theorem z_lmax (C : zK X w own cc nL ret rm) {i : Nat} {x1 y1 : Int64} (hl : Cond.methodLink own i Lib.MathLoose.max_long.x ∈ zG) (hr : zRs rm k n = true) (hst : Nat.ble ((st.map fun v => v.category).sum) 8 = true) (d : decode cc pc = .ok (.invokestatic i, 3)) (he : pc + 3 = pc') (kk : zZ X w Q k n x N h pc' lv (.long (if y1 < x1 then x1 else y1) :: st)) : zZ X w Q k n x N h pc lv (.long y1 :: .long x1 :: st) := by
  subst he
  have hr' := zRs_s hr
  have hs' := Nat.le_of_ble_eq_true hst
  have hRm : X.2.2.2.1 = rm := C.2.2.2.2.2.2.2.2.1
  have hts := C.2.2.2.2.2.1
  exact fun H locs ls hP hs hS hL => va_mmax_long C.1 C.2.2.1 hL.1.symm C.2.2.2.2.1 (hts _ hl) (hts _ zx_lmax_s) (hts _ zx_math) (hts _ zx_lmax_c) (by rw [hRm]; omega) (by rw [hRm]; omega) (by rw [hRm]; omega) (by rw [hRm]; omega) d (kk H locs ls hP hs hS hL)
def zCi {β : Type} (n0 n1 : Nat) (f g : Nat → Int32) (sp dp m : Int32) (K : (Nat → Int32) → Option β) : Option β := if sp < 0 ∨ dp < 0 ∨ m < 0 ∨ n0 < sp.toNatClampNeg + m.toNatClampNeg ∨ n1 < dp.toNatClampNeg + m.toNatClampNeg then none else K (va_cpy f g sp.toNatClampNeg dp.toNatClampNeg m.toNatClampNeg)
theorem z_cpi (C : zK X w own cc nL ret rm) {β : Type} {r : β} {i a b n0 n1 : Nat} {f g : Nat → Int32} {sp dp m : Int32} {K : (Nat → Int32) → Option β} {h' : (Nat → Int32) → zH} (hf : zCi n0 n1 f g sp dp m K = some r) (ha : zc N h a (.inl (w.2.2.1 0, n0, .inl f))) (hb : zc N h b (.inl (w.2.2.1 0, n1, .inl g))) (hh : ∀ g' : Nat → Int32, va_up h b (.inl (w.2.2.1 0, n1, .inl g')) = h' g') (hl : Cond.methodLink own i arraycopyName ∈ zG) (hr : zRs rm k n = true) (hst : Nat.ble ((st.map fun v => v.category).sum) 8 = true) (d : decode cc pc = .ok (.invokestatic i, 3)) (he : pc + 3 = pc') (kk : ∀ g' : Nat → Int32, K g' = some r → zZ X w Q k n false N (h' g') pc' lv st) : zZ X w Q k n false N h pc lv (.int m :: .int dp :: .ref (zo w + b) :: .int sp :: .ref (zo w + a) :: st) := by
  subst he
  have hr' := zRs_s hr
  have hs' := Nat.le_of_ble_eq_true hst
  have hRm : X.2.2.2.1 = rm := C.2.2.2.2.2.2.2.2.1
  have hts := C.2.2.2.2.2.1
  unfold zCi at hf
  by_cases c : sp < 0 ∨ dp < 0 ∨ m < 0 ∨ n0 < sp.toNatClampNeg + m.toNatClampNeg ∨ n1 < dp.toNatClampNeg + m.toNatClampNeg
  · rw [if_pos c] at hf; cases hf
  · rw [if_neg c] at hf
    simp only [not_or] at c
    obtain ⟨c1, c2, c3, c4, c5⟩ := c
    intro H locs ls hP hs hS hL
    refine va_copyi (D := zD w) C.1 C.2.2.1 hL.1.symm C.2.2.2.2.1 (hts _ hl) (hts _ zx_cp_n) (hts _ zx_cp_s) (hts _ zx_sys) C.2.2.2.2.2.2.2.2.2.1 hP (zl_D w N h) hS _ _ 0 0 (zc_at ha rfl) (zc_at hb rfl) rfl rfl rfl c1 c2 c3 (Nat.le_of_not_lt c4) (Nat.le_of_not_lt c5) (fun _ _ => rfl) (by rw [hRm]; omega) (by rw [hRm]; exact Nat.le_trans (Nat.add_le_add hs' (show nativeFrameWords "java/lang/System" "arraycopy" 5 + 11 ≤ 32 from Nat.le_of_ble_eq_true rfl)) hr'.2.1) d (fun H1 locs1 hP1 hD1 hS1 => ?_)
    rw [zl_setA hb, hh] at hP1
    exact kk _ hf H1 locs1 ls hP1 (fun z => Bool.noConfusion z) hS1 hL
def zCl {β : Type} (n0 n1 : Nat) (f g : Nat → Int64) (sp dp m : Int32) (K : (Nat → Int64) → Option β) : Option β := if sp < 0 ∨ dp < 0 ∨ m < 0 ∨ n0 < sp.toNatClampNeg + m.toNatClampNeg ∨ n1 < dp.toNatClampNeg + m.toNatClampNeg then none else K (va_cpy f g sp.toNatClampNeg dp.toNatClampNeg m.toNatClampNeg)
theorem z_cpl (C : zK X w own cc nL ret rm) {β : Type} {r : β} {i a b n0 n1 : Nat} {f g : Nat → Int64} {sp dp m : Int32} {K : (Nat → Int64) → Option β} {h' : (Nat → Int64) → zH} (hf : zCl n0 n1 f g sp dp m K = some r) (ha : zc N h a (.inl (w.2.2.1 1, n0, .inr (.inl f)))) (hb : zc N h b (.inl (w.2.2.1 1, n1, .inr (.inl g)))) (hh : ∀ g' : Nat → Int64, va_up h b (.inl (w.2.2.1 1, n1, .inr (.inl g'))) = h' g') (hl : Cond.methodLink own i arraycopyName ∈ zG) (hr : zRs rm k n = true) (hst : Nat.ble ((st.map fun v => v.category).sum) 8 = true) (d : decode cc pc = .ok (.invokestatic i, 3)) (he : pc + 3 = pc') (kk : ∀ g' : Nat → Int64, K g' = some r → zZ X w Q k n false N (h' g') pc' lv st) : zZ X w Q k n false N h pc lv (.int m :: .int dp :: .ref (zo w + b) :: .int sp :: .ref (zo w + a) :: st) := by
  subst he
  have hr' := zRs_s hr
  have hs' := Nat.le_of_ble_eq_true hst
  have hRm : X.2.2.2.1 = rm := C.2.2.2.2.2.2.2.2.1
  have hts := C.2.2.2.2.2.1
  unfold zCl at hf
  by_cases c : sp < 0 ∨ dp < 0 ∨ m < 0 ∨ n0 < sp.toNatClampNeg + m.toNatClampNeg ∨ n1 < dp.toNatClampNeg + m.toNatClampNeg
  · rw [if_pos c] at hf; cases hf
  · rw [if_neg c] at hf
    simp only [not_or] at c
    obtain ⟨c1, c2, c3, c4, c5⟩ := c
    intro H locs ls hP hs hS hL
    refine va_copyl (D := zD w) C.1 C.2.2.1 hL.1.symm C.2.2.2.2.1 (hts _ hl) (hts _ zx_cp_n) (hts _ zx_cp_s) (hts _ zx_sys) C.2.2.2.2.2.2.2.2.2.1 hP (zl_D w N h) hS _ _ 1 1 (zc_at ha rfl) (zc_at hb rfl) rfl rfl rfl c1 c2 c3 (Nat.le_of_not_lt c4) (Nat.le_of_not_lt c5) (fun _ _ => rfl) (by rw [hRm]; omega) (by rw [hRm]; exact Nat.le_trans (Nat.add_le_add hs' (show nativeFrameWords "java/lang/System" "arraycopy" 5 + 11 ≤ 32 from Nat.le_of_ble_eq_true rfl)) hr'.2.1) d (fun H1 locs1 hP1 hD1 hS1 => ?_)
    rw [zl_setA hb, hh] at hP1
    exact kk _ hf H1 locs1 ls hP1 (fun z => Bool.noConfusion z) hS1 hL
end ZJ
section ZSW
variable {X : zC} {w : zV} {Q : State → Prop} {k n : Nat} {x : Bool} {N : Nat} {h : zH} {pc : Nat} {lv : List (Nat × Value)} {st : List Value} {own : String} {cc : ByteArray} {nL : Nat} {ret : Option FieldType} {rm : Room}
theorem z_tab3 (C : zK X w own cc nL ret rm) {β : Type} {A0 A1 A2 B : Option β} {r : β} {x1 c0 c1 c2 : Int32} {dflt lo hi : Int} {offs : Array Int} {len : Nat} (t0 t1 t2 td : Nat) (hf : (if x1 = c0 then A0 else if x1 = c1 then A1 else if x1 = c2 then A2 else B) = some r) (d : decode cc pc = .ok (.tableswitch dflt lo hi offs, len)) (e0 : c0.toInt = lo) (e1 : c1.toInt = lo + 1) (e2 : c2.toInt = lo + 2) (eh : hi = lo + 2) (a0 : offs[0]? = some ((t0 : Int) - pc)) (a1 : offs[1]? = some ((t1 : Int) - pc)) (a2 : offs[2]? = some ((t2 : Int) - pc)) (ad : (pc : Int) + dflt = (td : Int)) (k0 : A0 = some r → zZ X w Q k n x N h t0 lv st) (k1 : A1 = some r → zZ X w Q k n x N h t1 lv st) (k2 : A2 = some r → zZ X w Q k n x N h t2 lv st) (kd : ¬ x1 = c0 → ¬ x1 = c1 → ¬ x1 = c2 → B = some r → zZ X w Q k n x N h td lv st) : zZ X w Q k n x N h pc lv (.int x1 :: st) := by
  intro H locs ls hP hs hS hL
  by_cases q0 : x1 = c0
  · rw [if_pos q0] at hf
    subst q0
    exact lv_tableIn C.1 C.2.2.1 d (by omega) (by omega) (by rw [show (x1.toInt - lo).toNat = 0 by omega]; exact a0) (by omega) (k0 hf H locs ls hP hs hS hL)
  rw [if_neg q0] at hf
  by_cases q1 : x1 = c1
  · rw [if_pos q1] at hf
    subst q1
    exact lv_tableIn C.1 C.2.2.1 d (by omega) (by omega) (by rw [show (x1.toInt - lo).toNat = 1 by omega]; exact a1) (by omega) (k1 hf H locs ls hP hs hS hL)
  rw [if_neg q1] at hf
  by_cases q2 : x1 = c2
  · rw [if_pos q2] at hf
    subst q2
    exact lv_tableIn C.1 C.2.2.1 d (by omega) (by omega) (by rw [show (x1.toInt - lo).toNat = 2 by omega]; exact a2) (by omega) (k2 hf H locs ls hP hs hS hL)
  rw [if_neg q2] at hf
  have n0 : x1.toInt ≠ c0.toInt := fun z => q0 (Int32.toInt_inj.mp z)
  have n1 : x1.toInt ≠ c1.toInt := fun z => q1 (Int32.toInt_inj.mp z)
  have n2 : x1.toInt ≠ c2.toInt := fun z => q2 (Int32.toInt_inj.mp z)
  exact lv_tableOut C.1 C.2.2.1 d (by omega) ad (kd q0 q1 q2 hf H locs ls hP hs hS hL)
theorem z_look2 (C : zK X w own cc nL ret rm) {β : Type} {A0 A1 B : Option β} {r : β} {x1 c0 c1 : Int32} {dflt a0 a1 o0 o1 : Int} {len : Nat} (t0 t1 td : Nat) (hf : (if x1 = c0 then A0 else if x1 = c1 then A1 else B) = some r) (d : decode cc pc = .ok (.lookupswitch dflt #[(a0, o0), (a1, o1)], len)) (e0 : c0.toInt = a0) (e1 : c1.toInt = a1) (ea : a0 < a1) (b0 : (pc : Int) + o0 = (t0 : Int)) (b1 : (pc : Int) + o1 = (t1 : Int)) (ad : (pc : Int) + dflt = (td : Int)) (k0 : A0 = some r → zZ X w Q k n x N h t0 lv st) (k1 : A1 = some r → zZ X w Q k n x N h t1 lv st) (kd : ¬ x1 = c0 → ¬ x1 = c1 → B = some r → zZ X w Q k n x N h td lv st) : zZ X w Q k n x N h pc lv (.int x1 :: st) := by
  intro H locs ls hP hs hS hL
  have hp : ((#[(a0, o0), (a1, o1)] : Array (Int × Int)).toList.zip ((#[(a0, o0), (a1, o1)] : Array (Int × Int)).toList.drop 1)).all (fun (a, next) => a.1 < next.1) = true := by simp [ea]
  by_cases q0 : x1 = c0
  · rw [if_pos q0] at hf
    subst q0
    exact lv_lookup C.1 C.2.2.1 d hp (off := o0) (by rw [Op.lookupswitch.offset_cons, if_pos e0.symm]) b0 (k0 hf H locs ls hP hs hS hL)
  rw [if_neg q0] at hf
  by_cases q1 : x1 = c1
  · rw [if_pos q1] at hf
    subst q1
    exact lv_lookup C.1 C.2.2.1 d hp (off := o1) (by rw [lv_osw q0 e0, Op.lookupswitch.offset_cons, if_pos e1.symm]) b1 (k1 hf H locs ls hP hs hS hL)
  rw [if_neg q1] at hf
  exact lv_lookup C.1 C.2.2.1 d hp (off := dflt) (by rw [lv_osw q0 e0, lv_osw q1 e1, Op.lookupswitch.offset_nil]) ad (kd q0 q1 hf H locs ls hP hs hS hL)
end ZSW
