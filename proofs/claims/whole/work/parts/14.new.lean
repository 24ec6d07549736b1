/-! new objects and arrays: the world grows by a cell, at the heap's end -/
theorem zl_push {w : zV} {N : Nat} {h : zH} {e : va_E} (hj : zj e = true) : zl w (N + 1) (va_up h N e) = zl w N h ++ [(zo w + N, e)] := by
  have e1 : va_up h N e N = e := by simp [va_up]
  rw [zl_succ, e1, if_pos hj, zl_cong (h := va_up h N e) (h' := h) (fun j hj => by simp [va_up, Nat.ne_of_lt hj])]
theorem zl_pushA {w : zV} {N : Nat} {h : zH} {y : ClassId × vp_A} : zl w (N + 1) (va_up h N (.inl y)) = zl w N h ++ [(zo w + N, .inl y)] := zl_push rfl
theorem zl_pushR {w : zV} {N ci : Nat} {h : zH} {fs : List Value} {q : vw_C} (h1 : vwCl[ci]? = some q) : zl w (N + 1) (va_up h N (.inr (ci, fs))) = zl w N h ++ [(zo w + N, .inr (ci, fs))] := zl_push (zj_r h1)
section ZNEW
variable {X : zC} {w : zV} {Q : State → Prop} {k n : Nat} {N : Nat} {h : zH} {pc pc' : Nat} {lv : List (Nat × Value)} {st : List Value} {own : String} {cc : ByteArray} {nL : Nat} {ret : Option FieldType} {rm : Room}
theorem z_new (C : zK X w own cc nL ret rm) {i ci M : Nat} {Cn : String} {T : u_T} {ty : Nat → FieldType} {fs : List Value} {h' : zH} (hci : zci ci Cn T M ty) (hl : Cond.classLink own i Cn ∈ zG) (hinst : Cond.instantiable Cn M ∈ zG) (hini : Cond.initialized Cn ∈ zG)
    (hfs : ∀ j, j < M → defaultValue (ty j) = vp_V fs j) (hh : va_up h N (.inr (ci, fs)) = h') (hr : (Nat.ble (k + 1) rm.cells && Nat.ble (n + M) rm.slots) = true) (d : decode cc pc = .ok (.new i, 3)) (he : pc + 3 = pc')
    (kk : zZ X w Q (k + 1) (n + M) true (N + 1) h' pc' lv (.ref (zo w + N) :: st)) : zZ X w Q k n true N h pc lv st := by
  subst he hh
  simp only [Bool.and_eq_true] at hr
  have r1 := Nat.le_of_ble_eq_true hr.1
  have r2 := Nat.le_of_ble_eq_true hr.2
  have hRm : X.2.2.2.1 = rm := C.2.2.2.2.2.2.2.2.1
  have hts := C.2.2.2.2.2.1
  have hK := C.2.2.2.2.2.2.2.2.2.1
  intro H locs ls hP hs hS hL
  have hz : H.size = zo w + N := hs rfl
  have hKn := hK.1 ci _ hci.1
  refine W.newcK C.1 C.2.2.1 C.2.2.2.2.1 (hts _ hl) (hts _ hinst) (hts _ hini) rfl d (by rw [hRm]; exact r1) (by rw [hRm]; exact r2) hKn.2.1 hz fun H1 kC hkC e1 z1 o1 => ?_
  have hk : ∀ (k : Nat) (x : Nat × va_E), (zl w N h)[k]? = some x → H1[x.1]? = H[x.1]? := fun k x hx => o1 x.1 (by rw [← hz]; exact (hP k x hx).lt)
  refine kk H1 locs ls ?_ (fun _ => by rw [z1]; rfl) ⟨Nat.le_trans hS.1 (by omega), fun x h1 h2 => (o1 x (by rw [← hz]; exact Nat.lt_of_lt_of_le h1 hS.1)).trans (hS.2.1 x h1 h2), hS.2.2⟩ hL
  rw [zl_pushR hci.1]
  refine (hP.kept hk).app (fun k x hx => ?_)
  have hz : k < 1 := (List.getElem?_eq_some_iff.mp hx).1
  rw [show k = 0 by omega] at hx
  cases hx
  exact ⟨_, hci.1, (u_born ty hts hci.2.1 hKn hkC e1 hci.2.2.1).to hfs⟩
theorem z_newa (C : zK X w own cc nL ret rm) {atype : ArrayType} {j L : Nat} {ty : FieldType} {i : Int32} {a0 : vp_A} {h' : zH} (hw : Cond.arrayClass (newarray.typeOf atype) ∈ zG) (hty : newarray.typeOf atype = ty) (hj : (zty w)[j]? = some (w.2.2.1 j, ty)) (hRA : ∀ U cA, va_RA U cA ty → U.vm.findClass ("[" ++ ty.toString) = some cA)
    (ha : ∀ cA : ClassId, vp_cell cA a0 = arrV cA L (fun _ => defaultValue ty)) (hn : ¬ i < 0) (hN : i.toNatClampNeg = L) (hb : Nat.ble (L * componentBytes ty) 536870912 = true) (hh : va_up h N (.inl (w.2.2.1 j, a0)) = h') (hr : (Nat.ble (k + 1) rm.cells && Nat.ble (n + L) rm.slots) = true) (d : decode cc pc = .ok (.newarray atype, 2)) (he : pc + 2 = pc')
    (kk : zZ X w Q (k + 1) (n + L) true (N + 1) h' pc' lv (.ref (zo w + N) :: st)) : zZ X w Q k n true N h pc lv (.int i :: st) := by
  subst he hh hty
  simp only [Bool.and_eq_true] at hr
  have r1 := Nat.le_of_ble_eq_true hr.1
  have r2 := Nat.le_of_ble_eq_true hr.2
  have hRm : X.2.2.2.1 = rm := C.2.2.2.2.2.2.2.2.1
  have hts := C.2.2.2.2.2.1
  have hK := C.2.2.2.2.2.2.2.2.2.1
  intro H locs ls hP hs hS hL
  have hz : H.size = zo w + N := hs rfl
  refine va_newaK C.1 C.2.2.1 (hts _ hw) rfl d rfl hn hN (Nat.le_of_ble_eq_true hb) (by rw [hRm]; exact r1) (by rw [hRm]; exact r2) hz fun H1 cA e1 z1 o1 hA hNm => ?_
  have hc : cA = w.2.2.1 j := Option.some.inj (hNm.symm.trans (hRA _ _ (hK.2 j _ hj).2))
  subst hc
  have hk : ∀ (k : Nat) (x : Nat × va_E), (zl w N h)[k]? = some x → H1[x.1]? = H[x.1]? := fun k x hx => o1 x.1 (by rw [← hz]; exact (hP k x hx).lt)
  refine kk H1 locs ls ?_ (fun _ => by rw [z1]; rfl) ⟨Nat.le_trans hS.1 (by omega), fun x h1 h2 => (o1 x (by rw [← hz]; exact Nat.lt_of_lt_of_le h1 hS.1)).trans (hS.2.1 x h1 h2), hS.2.2⟩ hL
  rw [zl_pushA]
  refine (hP.kept hk).app (fun k x hx => ?_)
  have hz : k < 1 := (List.getElem?_eq_some_iff.mp hx).1
  rw [show k = 0 by omega] at hx
  cases hx
  show H1[zo w + N]? = some (vp_cell _ _)
  rw [ha]
  exact e1
theorem z_anewP (C : zK X w own cc nL ret rm) {ix L : Nat} {i : Int32} {h' : zH} (hl : Cond.classLink own ix "ConstructionLedger$Project" ∈ zG)
    (hn : ¬ i < 0) (hN : i.toNatClampNeg = L) (hb : Nat.ble (L * 4) 536870912 = true) (hh : va_up h N (.inl (w.2.2.1 4, L, .inr (.inr (.inr (.inr (fun _ => none)))))) = h') (hr : (Nat.ble (k + 1) rm.cells && Nat.ble (n + L) rm.slots) = true) (d : decode cc pc = .ok (.anewarray ix, 3)) (he : pc + 3 = pc')
    (kk : zZ X w Q (k + 1) (n + L) true (N + 1) h' pc' lv (.ref (zo w + N) :: st)) : zZ X w Q k n true N h pc lv (.int i :: st) := by
  subst he hh hN
  simp only [Bool.and_eq_true] at hr
  have r1 := Nat.le_of_ble_eq_true hr.1
  have r2 := Nat.le_of_ble_eq_true hr.2
  have hRm : X.2.2.2.1 = rm := C.2.2.2.2.2.2.2.2.1
  have hts := C.2.2.2.2.2.1
  have hK := C.2.2.2.2.2.2.2.2.2.1
  have hE := C.2.2.2.2.2.2.2.2.2.2
  intro H locs ls hP hs hS hL
  have hz : H.size = zo w + N := hs rfl
  refine W.anew C.1 C.2.2.1 C.2.2.2.2.1 (hts _ hl) (va_AO.use hE.1.2.2.2.2.1) rfl d rfl hn (Nat.le_of_ble_eq_true hb) (by rw [hRm]; exact r1) (by rw [hRm]; exact r2) fun cA kA comp f1 f2 f3 f4 => ?_
  generalize hH1 : H.push ({ cls := cA, slots := Array.replicate i.toNatClampNeg .null, vm := .none } : Cell) = H1
  have z1 : H1.size = H.size + 1 := by rw [← hH1, Array.size_push]
  have e1 : H1[H.size]? = some (arrV cA i.toNatClampNeg (fun _ => .null)) := by rw [← hH1, Array.getElem?_push_size, ← arrV_new]
  have o1 : ∀ q : Nat, q < H.size → H1[q]? = H[q]? := fun q hq => by rw [← hH1, Array.getElem?_push, if_neg (Nat.ne_of_lt hq)]
  obtain ⟨kA', comp', -, -, -, hnm⟩ := (hK.2 4 _ rfl).2
  have hc : cA = w.2.2.1 4 := Option.some.inj (f1.symm.trans hnm)
  subst hc
  have hk : ∀ (k : Nat) (x : Nat × va_E), (zl w N h)[k]? = some x → H1[x.1]? = H[x.1]? := fun k x hx => o1 x.1 ((hP k x hx).lt)
  rw [hz]
  refine kk H1 locs ls ?_ (fun _ => by rw [z1, hz]; rfl) ⟨Nat.le_trans hS.1 (by omega), fun x h1 h2 => (o1 x (Nat.lt_of_lt_of_le h1 hS.1)).trans (hS.2.1 x h1 h2), hS.2.2⟩ hL
  rw [zl_pushA]
  refine (hP.kept hk).app (fun k x hx => ?_)
  have hz1 : k < 1 := (List.getElem?_eq_some_iff.mp hx).1
  rw [show k = 0 by omega] at hx
  cases hx
  show H1[zo w + N]? = some (vp_cell _ _)
  rw [vp_cell_q, ← hz]
  exact e1
theorem z_aastP (C : zK X w own cc nL ret rm) {a b L : Nat} {i : Int32} {f : Nat → Option Nat} {fs : List Value} {h' : zH} {x : Bool} (hin : vp_in i L) (hc : zc N h a (.inl (w.2.2.1 4, L, .inr (.inr (.inr (.inr f)))))) (hv : zc N h b (.inr (5, fs)))
    (hh : va_up h a (.inl (w.2.2.1 4, L, .inr (.inr (.inr (.inr (va_up f i.toNatClampNeg (some (zo w + b)))))))) = h') (d : decode cc pc = .ok (.aastore, 1)) (he : pc + 1 = pc')
    (kk : zZ X w Q k n x N h' pc' lv st) : zZ X w Q k n x N h pc lv (.ref (zo w + b) :: .int i :: .ref (zo w + a) :: st) := by
  subst he hh
  have hK := C.2.2.2.2.2.2.2.2.2.1
  intro H locs ls hP hs hS hL
  have hlt : i.toNatClampNeg < L := Nat.not_le.mp fun q => hin (Or.inr q)
  have h0 : ¬ i < 0 := fun q => hin (Or.inl q)
  have ha := zc_at (w := w) hc rfl
  obtain ⟨r', hr', cellV, g1, g2, g3, -⟩ := hP _ _ (zc_at hv rfl)
  have hcls := (hK.1 5 r' hr').2
  obtain ⟨kA, comp, k1, k2, k3, -⟩ := (hK.2 4 _ rfl).2
  cases hr'
  have hcomp : comp = (zD w).1 5 := Option.some.inj (k3.symm.trans hcls.1)
  subst hcomp
  obtain ⟨kC, hkC, -⟩ := hcls.2
  refine W.aast C.1 C.2.2.1 (hP _ _ ha) (fun q h => by cases h) (fun h => by cases h) k1 k2 rfl hkC ⟨h0, by show _ < (arrV _ _ _).slots.size; rw [arrV_size]; exact hlt⟩ g1 (fun q h => by rw [g3] at h; cases h) (by rw [g2]; exact hkC) (by rw [g2]; exact va_assign hcls) rfl rfl d fun H1 e z oq => ?_
  refine kk H1 _ ls ?_ (fun t => by rw [z]; exact hs t) (hS.put z oq (Nat.le_add_right _ _)) hL
  rw [← zl_setA hc]
  refine hP.set (zl_D w N h) ha ?_ oq
  show H1[zo w + a]? = some (vp_cell _ _)
  rw [e]
  rw [vp_cell_q, vp_cell_q, arrV_store]
  congr 2
  funext q
  by_cases hq : q = i.toNatClampNeg
  · subst hq
    simp [updV, va_up, va_rf]
  · simp [updV, va_up, hq]
theorem z_objI (C : zK X w own cc nL ret rm) {i : Nat} {a : Nat} {x : Bool} (hl : Cond.methodLink own i Lib.objectInit ∈ zG) (hi : Cond.instanceMethod Lib.objectInit ∈ zG) (hc : Cond.code Lib.objectInit ⟨#[0xb1]⟩ 1 none ∈ zG)
    (hst : Nat.ble ((st.map fun v => v.category).sum) 8 = true) (hr : (Nat.ble 1 rm.frames && Nat.ble 20 rm.locals) = true) (d : decode cc pc = .ok (.invokespecial i, 3)) (he : pc + 3 = pc') (kk : zZ X w Q k n x N h pc' lv st) : zZ X w Q k n x N h pc lv (.ref a :: st) := by
  subst he
  simp only [Bool.and_eq_true] at hr
  have r1 := Nat.le_of_ble_eq_true hr.1
  have r2 := Nat.le_of_ble_eq_true hr.2
  have hs' := Nat.le_of_ble_eq_true hst
  have hRm : X.2.2.2.1 = rm := C.2.2.2.2.2.2.2.2.1
  have hts := C.2.2.2.2.2.1
  intro H locs ls hP hs hS hL
  exact W.objInit C.1 C.2.2.1 C.2.2.2.2.1 (hts _ hl) (hts _ hi) (hts _ hc) rfl hL.1 rfl d (by rw [hRm]; exact r1) (by rw [hRm]; show 2 * 0 + _ + 12 ≤ _; omega) (kk H locs ls hP hs hS hL)
theorem z_callIN (C : zK X w own cc nL ret rm) {i m iN a : Nat} {y : MethodName} {host : String} {cc' : ByteArray} {nL' : Nat} {rm' : Room} {N' : Nat} {h' : zH} {v : Option Value} {As : List Value} {st' : List Value} {x : Bool} (hM : zM w y cc' nL' none rm' x N N' h (.ref (zo w + a) :: As) v h') (hY : zY y cc' nL' none m) (hN : zNest[iN]? = some (own, i, y, host)) (hy : y.name = "<init>") (hi : Cond.instanceMethod y ∈ zG) (hR : zRm rm' rm nL' = true) (hm : As.length = m) (hst : Nat.ble ((st.map fun v => v.category).sum) 8 = true) (stk : As.reverse ++ .ref (zo w + a) :: st = st') (hf : (Nat.ble (k + rm'.cells) rm.cells && Nat.ble (n + rm'.slots) rm.slots) = true) (d : decode cc pc = .ok (.invokespecial i, 3)) (he : pc + 3 = pc')
    (kk : zZ X w Q (k + rm'.cells) (n + rm'.slots) x N' h' pc' lv (v.toList ++ st)) : zZ X w Q k n x N h pc lv st' := by
  subst stk
  refine z_fin (y := y) (args' := (Value.ref (zo w + a) :: As).toArray) (fun H locs ls hP hs hS hL => ?_) he kk
  have hts := C.2.2.2.2.2.1
  obtain ⟨y1, y2, y3, y4, y5⟩ := hY
  have hR' := zRm_s hR
  have hRm : X.2.2.2.1 = rm := C.2.2.2.2.2.2.2.2.1
  have hE := C.2.2.2.2.2.2.2.2.2.2
  simp only [Bool.and_eq_true] at hf
  have hMx : Met X.2.1 y (.code y cc' nL' none :: zG) rm' (va_Pc (.ref (zo w + a) :: As) (zPre w x N h)) (zMQ w v x N' h') rm'.cells rm'.slots (fun q => zo w ≤ q) := by rw [C.2.1]; exact hM
  exact va_runIN (Ts := zG) (own := own) (host := host) (nL := nL) (As := As) (n := m) (g := F0 X.2.2.2.2.2.1 pc ls (As.reverse ++ .ref (zo w + a) :: st)) ⟨C.1, C.2.2.1, C.2.2.2.1, C.2.2.2.2.1, hts⟩ hMx
    ⟨va_cnB m hts (zG_cons y1) rfl rfl rfl (hE.1.2.2.1 iN _ hN) (hts _ y2) ⟨y3, y4, y5⟩ (by rw [hRm]; exact ⟨hR'.1, by omega⟩), hy, hts _ hi⟩
    ⟨zWd_blind w x N h _, fun U hU hW => ⟨rfl, ⟨by rw [hU]; exact hP, va_K.moved hW.alike C.2.2.2.2.2.2.2.2.2.1, by rw [hU]; exact hs⟩, by rw [hU]; exact zE.next hW hS.2.1 C.2.2.2.2.2.2.2.2.2.2⟩⟩ rfl hm (hL.1.trans C.2.2.2.1) rfl (by show 2 * 0 + _ ≤ 8; rw [Nat.mul_zero, Nat.zero_add]; exact Nat.le_of_ble_eq_true hst) d ⟨by rw [hRm]; exact Nat.le_of_ble_eq_true hf.1, by rw [hRm]; exact Nat.le_of_ble_eq_true hf.2⟩
end ZNEW
/-! the exact end of the heap, and what lies between it and the world's end -/
def hJ (N : Nat) (h : zH) : zH := fun j => if j < N then h j else .inr (1000, [])
theorem hJ_lt {N j : Nat} {h : zH} (hj : j < N) : hJ N h j = h j := if_pos hj
theorem hJ_zu {N a m : Nat} {h : zH} {L : List (Nat × va_E)} (hm : L.all (fun q => Nat.blt q.1 m) = true) (hN : a + m ≤ N) : hJ N (zu h a L) = zu (hJ N h) a L := by
  funext j
  unfold hJ
  by_cases c : j < N
  · rw [if_pos c]
    unfold zu
    by_cases c2 : a ≤ j
    · simp only [if_pos c2, if_pos c]
    · simp only [if_neg c2, if_pos c]
  · have key : ∀ (L : List (Nat × va_E)) (k : Nat), L.all (fun q => Nat.blt q.1 m) = true → m ≤ k → zlook k L = none := by
      intro L k
      induction L with
      | nil => intro _ _; rfl
      | cons q l ih =>
        intro hq hk
        simp only [List.all_cons, Bool.and_eq_true] at hq
        have h3 : q.1 < m := Nat.le_of_ble_eq_true hq.1
        rw [zlook, if_neg (by omega)]
        exact ih hq.2 hk
    rw [if_neg c]
    unfold zu
    by_cases c2 : a ≤ j
    · simp only [if_pos c2, key L (j - a) hm (by omega), if_neg c]
    · simp only [if_neg c2, if_neg c]
theorem zc_J {N N' a : Nat} {h : zH} {e : va_E} (hc : zc N h a e) (hN : N ≤ N') : zc N' (hJ N h) a e := ⟨Nat.lt_of_lt_of_le hc.1 hN, by rw [hJ_lt hc.1]; exact hc.2⟩
section ZSH
variable {X : zC} {w : zV} {Q : State → Prop} {k n : Nat} {x : Bool} {N : Nat} {h : zH} {pc : Nat} {lv : List (Nat × Value)} {st : List Value}
theorem z_agree {h' : zH} (e : ∀ j, j < N → h j = h' j) (kk : zZ X w Q k n x N h' pc lv st) : zZ X w Q k n x N h pc lv st := by
  intro H locs ls hP hs hS hL
  rw [zl_cong e] at hP
  exact kk H locs ls hP hs hS hL
theorem z_sharp {b : Nat} {e : va_E} (hc : zc N h b e) (hj : zj e = true) (hb : N ≤ b + 1) (kk : ∀ N', N ≤ N' → zZ X w Q k n true N' (hJ N h) pc lv st) : zZ X w Q k n x N h pc lv st := by
  intro H locs ls hP hs hS hL
  have hlt : zo w + b < H.size := (hP _ _ (zc_at hc hj)).lt
  refine kk (H.size - zo w) (by omega) H locs ls (zP_iff.mpr fun a ha hja => ?_) (fun _ => by omega) hS hL
  by_cases c : a < N
  · rw [hJ_lt c] at hja ⊢
    exact zP_iff.mp hP a c hja
  · unfold hJ at hja
    rw [if_neg c] at hja
    exact absurd hja (by decide)
end ZSH
