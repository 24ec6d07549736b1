section ZH
variable {X : zC} {w : zV} {Q : State → Prop} {k n : Nat} {x : Bool} {N : Nat} {h : zH} {pc pc' : Nat} {lv : List (Nat × Value)} {st : List Value} {own : String} {cc : ByteArray} {nL : Nat} {ret : Option FieldType} {rm : Room}
theorem zj_r {ci : Nat} {fs : List Value} {q : vw_C} (h1 : vwCl[ci]? = some q) : zj (.inr (ci, fs)) = true := by
  have : ci < 10 := (List.getElem?_eq_some_iff.mp h1).1
  exact Nat.ble_eq_true_of_le this
theorem zl_setR {w : zV} {N a ci : Nat} {h : zH} {fs fs' : List Value} {q : vw_C} (h1 : vwCl[ci]? = some q) (hc : zc N h a (.inr (ci, fs))) : (zl w N h).set (zx h a) (zo w + a, .inr (ci, fs')) = zl w N (va_up h a (.inr (ci, fs'))) := zl_set hc (zj_r h1) (zj_r h1)
/-- a class of the worlds: its place, its name, its fields, how many -/
def zci (ci : Nat) (C : String) (T : u_T) (M : Nat) (ty : Nat → FieldType) : Prop := vwCl[ci]? = some (C, T, M) ∧ (∀ q ∈ u_ws C T M, q ∈ zG) ∧ (∀ k, k < M → parseFieldDescriptor (T k).2.2.1 = some (ty k)) ∧ (∀ a, a < M → ∀ b, b < M → a ≠ b → (T a).2.1 ≠ (T b).2.1)
theorem z_getf (C : zK X w own cc nL ret rm) {a i ci M j : Nat} {fs : List Value} {v : Value} {Cn rf nm ds : String} {T : u_T} {ty : Nat → FieldType} (hci : zci ci Cn T M ty) (hw : Cond.fieldLink own i rf nm ds ∈ zG) (hT : T j = (rf, nm, ds, (T j).2.2.2)) (hc : zc N h a (.inr (ci, fs))) (hv : fs[j]? = some v) (hj : Nat.blt j M = true) (d : decode cc pc = .ok (.getfield i, 3)) (he : pc + 3 = pc') (kk : zZ X w Q k n x N h pc' lv (v :: st)) : zZ X w Q k n x N h pc lv (.ref (zo w + a) :: st) := by
  subst he
  obtain ⟨h1, h2, h3, h4⟩ := hci
  have e1 : (T j).1 = rf := by rw [hT]
  have e2 : (T j).2.1 = nm := by rw [hT]
  have e3 : (T j).2.2.1 = ds := by rw [hT]
  exact fun H locs ls hP hs hS hL => va_get (D := zD w) C.1 C.2.2.1 C.2.2.2.2.2.1 h2 C.2.2.2.2.1 C.2.2.2.2.2.2.2.2.2.1 hP _ (zc_at hc (zj_r h1)) h1 j (Nat.le_of_ble_eq_true hj) (by rw [e2, e3]; exact C.2.2.2.2.2.1 _ hw) (by rw [e1, e2, e3]; exact fun _ z => z) hv d (kk H locs ls hP hs hS hL)
/-- a field is written: the world is h', where the cell's fields are fs' -/
theorem z_putf (C : zK X w own cc nL ret rm) {a i ci M j : Nat} {fs fs' : List Value} {v : Value} {Cn rf nm ds : String} {T : u_T} {ty : Nat → FieldType} {h' : zH} (hci : zci ci Cn T M ty) (hw : Cond.fieldLink own i rf nm ds ∈ zG) (hT : T j = (rf, nm, ds, false)) (hc : zc N h a (.inr (ci, fs))) (hfs : fs.set j v = fs') (hlen : Nat.blt j fs.length = true) (hj : Nat.blt j M = true) (hn : narrow (ty j) v = v) (hfit : fits (ty j) v = true) (hh : va_up h a (.inr (ci, fs')) = h') (d : decode cc pc = .ok (.putfield i, 3)) (he : pc + 3 = pc') (kk : zZ X w Q k n x N h' pc' lv st) : zZ X w Q k n x N h pc lv (v :: .ref (zo w + a) :: st) := by
  subst he hh hfs
  obtain ⟨h1, h2, h3, h4⟩ := hci
  have hk := Nat.le_of_ble_eq_true hj
  intro H locs ls hP hs hS hL
  have hts := C.2.2.2.2.2.1
  have hK := C.2.2.2.2.2.2.2.2.2.1
  have hap := va_apart (own := own) hts h2 ty h3 h4 hK h1
  obtain ⟨r, q0, cell, q1, q2, q3, q4⟩ := hP _ _ (zc_at hc (zj_r h1))
  have hr : r = (Cn, T, M) := Option.some.inj (q0.symm.trans h1)
  subst hr
  obtain ⟨hSl, hfc, kC, hkC, hkind⟩ := hK.1 ci _ h1
  obtain ⟨cf, kf, fi, f, hi, hsl⟩ := hSl j hk
  have hlay := hts _ (h2 _ (u_in_lay hk))
  unfold u_lay at hlay
  rw [if_neg (by rw [hT]; exact Bool.false_ne_true)] at hlay
  have hst := (u_facts hfc hkC (u_lays hts h2 hk) hi).1
  have h6 := u_store hfc hkC hkind hlay hi (h3 j hk) hn hfit
  have e1 : (T j).1 = rf := by rw [hT]
  have e2 : (T j).2.1 = nm := by rw [hT]
  have e3 : (T j).2.2.1 = ds := by rw [hT]
  rw [e1, e2, e3] at hi
  refine W.putK C.1 C.2.2.1 (f := f) ⟨C.2.2.2.2.1, C.2.2.2.2.2.1 _ hw, ⟨_, _, _, hi⟩, hst⟩ (by rw [q2]; exact h6) q1 q3 (by rw [hsl]; exact k2_hasslot (q4 j hk)) rfl rfl d fun H' e1 e2 e3 => ?_
  rw [hsl] at e1
  have hP' := hP.set (zl_D w N h) (zc_at hc (zj_r h1)) (show va_at (zD w) vwCl (zo w + a, .inr (ci, fs.set j v)) H' from ⟨_, h1, t_OB.to (V := updV (vp_V fs) j v) ⟨_, e1, q2, q3, t_set q4 hap hk v⟩ (fun y _ => vp_updV_set (Nat.le_of_ble_eq_true hlen) v y)⟩) e3
  rw [zl_setR h1 hc] at hP'
  exact kk H' _ ls hP' (fun z => e2.trans (hs z)) (hS.put e2 e3 (Nat.le_add_right _ _)) hL
/-- a final field of a new object -/
theorem z_putF (C : zK X w own cc nL ret rm) {a i ci M j : Nat} {fs fs' : List Value} {v : Value} {Cn nm ds : String} {T : u_T} {ty : Nat → FieldType} {h' : zH} (hin : X.2.2.2.2.2.2.2.2.1.name = "<init>") (hci : zci ci Cn T M ty) (hw : Cond.fieldLink own i own nm ds ∈ zG) (hT : T j = (own, nm, ds, true)) (hc : zc N h a (.inr (ci, fs))) (hfs : fs.set j v = fs') (hlen : Nat.blt j fs.length = true) (hj : Nat.blt j M = true) (hn : narrow (ty j) v = v) (hfit : fits (ty j) v = true) (hh : va_up h a (.inr (ci, fs')) = h') (d : decode cc pc = .ok (.putfield i, 3)) (he : pc + 3 = pc') (kk : zZ X w Q k n x N h' pc' lv st) : zZ X w Q k n x N h pc lv (v :: .ref (zo w + a) :: st) := by
  subst he hh hfs
  obtain ⟨h1, h2, h3, h4⟩ := hci
  have hk := Nat.le_of_ble_eq_true hj
  intro H locs ls hP hs hS hL
  have hts := C.2.2.2.2.2.1
  have hK := C.2.2.2.2.2.2.2.2.2.1
  have hap := va_apart (own := own) hts h2 ty h3 h4 hK h1
  obtain ⟨r, q0, cell, q1, q2, q3, q4⟩ := hP _ _ (zc_at hc (zj_r h1))
  have hr : r = (Cn, T, M) := Option.some.inj (q0.symm.trans h1)
  subst hr
  obtain ⟨hSl, hfc, kC, hkC, hkind⟩ := hK.1 ci _ h1
  obtain ⟨cf, kf, fi, f, hi, hsl⟩ := hSl j hk
  have hlay := hts _ (h2 _ (u_in_lay hk))
  unfold u_lay at hlay
  rw [if_pos (by rw [hT])] at hlay
  have hst := (u_facts hfc hkC (u_lays hts h2 hk) hi).1
  have e1 : (T j).1 = own := by rw [hT]
  have e2 : (T j).2.1 = nm := by rw [hT]
  have e3 : (T j).2.2.1 = ds := by rw [hT]
  have hcf : X.2.2.2.2.2.1.cls = cf := by
    obtain ⟨_, _, c', _, _, _, -, -, hf', -, -, -, hown2, -⟩ := Cond.laysFinal_spec hlay
    have e5 : c' = cf := by have := hi.symm.trans hf'; simp at this; exact this.1.symm
    rw [e1] at hown2
    rw [← e5]; exact Option.some.inj (C.2.2.2.2.1.symm.trans hown2)
  have h6 := u_fits hfc hkC hkind (Or.inr hlay) hi (h3 j hk) hn hfit
  rw [e1, e2, e3] at hi
  refine W.putFinK C.1 C.2.2.1 C.2.2.2.2.1 (C.2.2.2.2.2.1 _ hw) hi hst hcf hin (by rw [q2]; exact h6) q1 q3 (by rw [hsl]; exact k2_hasslot (q4 j hk)) rfl rfl d fun H' e1 e2 e3 => ?_
  rw [hsl] at e1
  have hP' := hP.set (zl_D w N h) (zc_at hc (zj_r h1)) (show va_at (zD w) vwCl (zo w + a, .inr (ci, fs.set j v)) H' from ⟨_, h1, t_OB.to (V := updV (vp_V fs) j v) ⟨_, e1, q2, q3, t_set q4 hap hk v⟩ (fun y _ => vp_updV_set (Nat.le_of_ble_eq_true hlen) v y)⟩) e3
  rw [zl_setR h1 hc] at hP'
  exact kk H' _ ls hP' (fun z => e2.trans (hs z)) (hS.put e2 e3 (Nat.le_add_right _ _)) hL
/-! arrays -/
theorem z_iald (C : zK X w own cc nL ret rm) {β : Type} {r : β} {a m : Nat} {f : Nat → Int32} {i : Int32} {K : Int32 → Option β} (hf : zR m f i K = some r) (hc : zc N h a (.inl (w.2.2.1 0, m, .inl f))) (d : decode cc pc = .ok (.iaload, 1)) (he : pc + 1 = pc') (kk : ∀ v : Int32, K v = some r → zZ X w Q k n x N h pc' lv (.int v :: st)) : zZ X w Q k n x N h pc lv (.int i :: .ref (zo w + a) :: st) := by
  subst he
  obtain ⟨hin, hf⟩ := zR_s hf
  exact fun H locs ls hP hs hS hL => va_iald (D := zD w) C.1 C.2.2.1 C.2.2.2.2.2.2.2.2.2.1 hP _ 0 (zc_at hc rfl) rfl hin d (kk _ hf H locs ls hP hs hS hL)
theorem z_bald (C : zK X w own cc nL ret rm) {β : Type} {r : β} {a m : Nat} {f : Nat → Int32} {i : Int32} {K : Int32 → Option β} (hf : zR m f i K = some r) (hc : zc N h a (.inl (w.2.2.1 2, m, .inl f))) (d : decode cc pc = .ok (.baload, 1)) (he : pc + 1 = pc') (kk : ∀ v : Int32, K v = some r → zZ X w Q k n x N h pc' lv (.int v :: st)) : zZ X w Q k n x N h pc lv (.int i :: .ref (zo w + a) :: st) := by
  subst he
  obtain ⟨hin, hf⟩ := zR_s hf
  exact fun H locs ls hP hs hS hL => va_bald (D := zD w) C.1 C.2.2.1 C.2.2.2.2.2.2.2.2.2.1 hP _ 2 (zc_at hc rfl) rfl hin d (kk _ hf H locs ls hP hs hS hL)
theorem z_zald (C : zK X w own cc nL ret rm) {β : Type} {r : β} {a m : Nat} {f : Nat → Int32} {i : Int32} {K : Int32 → Option β} (hf : zR m f i K = some r) (hc : zc N h a (.inl (w.2.2.1 3, m, .inl f))) (d : decode cc pc = .ok (.baload, 1)) (he : pc + 1 = pc') (kk : ∀ v : Int32, K v = some r → zZ X w Q k n x N h pc' lv (.int v :: st)) : zZ X w Q k n x N h pc lv (.int i :: .ref (zo w + a) :: st) := by
  subst he
  obtain ⟨hin, hf⟩ := zR_s hf
  exact fun H locs ls hP hs hS hL => va_zald (D := zD w) C.1 C.2.2.1 C.2.2.2.2.2.2.2.2.2.1 hP _ 3 (zc_at hc rfl) rfl hin d (kk _ hf H locs ls hP hs hS hL)
theorem z_lald (C : zK X w own cc nL ret rm) {β : Type} {r : β} {a m : Nat} {f : Nat → Int64} {i : Int32} {K : Int64 → Option β} (hf : zR m f i K = some r) (hc : zc N h a (.inl (w.2.2.1 1, m, .inr (.inl f)))) (d : decode cc pc = .ok (.laload, 1)) (he : pc + 1 = pc') (kk : ∀ v : Int64, K v = some r → zZ X w Q k n x N h pc' lv (.long v :: st)) : zZ X w Q k n x N h pc lv (.int i :: .ref (zo w + a) :: st) := by
  subst he
  obtain ⟨hin, hf⟩ := zR_s hf
  exact fun H locs ls hP hs hS hL => va_lald (D := zD w) C.1 C.2.2.1 C.2.2.2.2.2.2.2.2.2.1 hP _ 1 (zc_at hc rfl) rfl hin d (kk _ hf H locs ls hP hs hS hL)
theorem z_alen (C : zK X w own cc nL ret rm) (t : Nat) {a : Nat} {cA : ClassId} {y : vp_A} {ty : FieldType} {v : Int32} (hc : zc N h a (.inl (cA, y))) (ht : (zty w)[t]? = some (cA, ty)) (hv : Int32.ofNat y.1 = v) (d : decode cc pc = .ok (.arraylength, 1)) (he : pc + 1 = pc') (kk : zZ X w Q k n x N h pc' lv (.int v :: st)) : zZ X w Q k n x N h pc lv (.ref (zo w + a) :: st) := by
  subst he
  exact fun H locs ls hP hs hS hL => va_alen (D := zD w) C.1 C.2.2.1 C.2.2.2.2.2.2.2.2.2.1 hP _ t (zc_at hc rfl) ht hv d (kk H locs ls hP hs hS hL)
theorem z_iast (C : zK X w own cc nL ret rm) {β : Type} {r : β} {a m : Nat} {f : Nat → Int32} {i v : Int32} {K : (Nat → Int32) → Option β} {h' : (Nat → Int32) → zH} (hf : zSi m f i v K = some r) (hc : zc N h a (.inl (w.2.2.1 0, m, .inl f))) (hh : ∀ g : Nat → Int32, va_up h a (.inl (w.2.2.1 0, m, .inl g)) = h' g) (d : decode cc pc = .ok (.iastore, 1)) (he : pc + 1 = pc') (kk : ∀ g : Nat → Int32, K g = some r → zZ X w Q k n x N (h' g) pc' lv st) : zZ X w Q k n x N h pc lv (.int v :: .int i :: .ref (zo w + a) :: st) := by
  subst he
  obtain ⟨hin, hf⟩ := zSi_s hf
  intro H locs ls hP hs hS hL
  refine W.iast C.1 C.2.2.1 (hP _ _ (zc_at hc rfl)) ((C.2.2.2.2.2.2.2.2.2.1.2 0 _ rfl).1 m (fun j => .int (f j))) (fun q => by cases q) (by show ¬ (i < 0 ∨ (arrV _ _ _).slots.size ≤ _); rw [arrV_size]; exact hin) rfl rfl d fun H1 e z oq => ?_
  have hP' := hP.set (e := .inl (w.2.2.1 0, m, .inl (upd f i.toNatClampNeg v))) (zl_D w N h) (zc_at hc rfl) (by
    show H1[zo w + a]? = some (vp_cell _ _)
    rw [e, vp_cell_i, vp_cell_i, arrV_store]
    congr 2
    funext q
    by_cases hq : q = i.toNatClampNeg
    · subst hq; simp [updV, upd]
    · simp [updV, upd, hq]) oq
  rw [zl_setA hc, hh] at hP'
  exact kk _ hf H1 _ ls hP' (fun y => z.trans (hs y)) (hS.put z oq (Nat.le_add_right _ _)) hL
theorem z_bast (C : zK X w own cc nL ret rm) {β : Type} {r : β} {a m : Nat} {f : Nat → Int32} {i v : Int32} {K : (Nat → Int32) → Option β} {h' : (Nat → Int32) → zH} (hf : zSi m f i (vp_nar .byte v) K = some r) (hc : zc N h a (.inl (w.2.2.1 2, m, .inl f))) (hh : ∀ g : Nat → Int32, va_up h a (.inl (w.2.2.1 2, m, .inl g)) = h' g) (d : decode cc pc = .ok (.bastore, 1)) (he : pc + 1 = pc') (kk : ∀ g : Nat → Int32, K g = some r → zZ X w Q k n x N (h' g) pc' lv st) : zZ X w Q k n x N h pc lv (.int v :: .int i :: .ref (zo w + a) :: st) := by
  subst he
  obtain ⟨hin, hf⟩ := zSi_s hf
  intro H locs ls hP hs hS hL
  refine W.bast C.1 C.2.2.1 (hP _ _ (zc_at hc rfl)) ((C.2.2.2.2.2.2.2.2.2.1.2 2 _ rfl).1 m (fun j => .int (f j))) (fun q => by cases q) (by show ¬ (i < 0 ∨ (arrV _ _ _).slots.size ≤ _); rw [arrV_size]; exact hin) rfl rfl d fun H1 e z oq => ?_
  have hP' := hP.set (e := .inl (w.2.2.1 2, m, .inl (upd f i.toNatClampNeg (vp_nar .byte v)))) (zl_D w N h) (zc_at hc rfl) (by
    show H1[zo w + a]? = some (vp_cell _ _)
    rw [e, vp_cell_i, vp_cell_i, arrV_store]
    congr 2
    funext q
    by_cases hq : q = i.toNatClampNeg
    · subst hq
      simp [updV, upd, vp_nar]
      try rfl
    · simp [updV, upd, hq]) oq
  rw [zl_setA hc, hh] at hP'
  exact kk _ hf H1 _ ls hP' (fun y => z.trans (hs y)) (hS.put z oq (Nat.le_add_right _ _)) hL
theorem z_zast (C : zK X w own cc nL ret rm) {β : Type} {r : β} {a m : Nat} {f : Nat → Int32} {i v : Int32} {K : (Nat → Int32) → Option β} {h' : (Nat → Int32) → zH} (hf : zSi m f i (vp_nar .boolean v) K = some r) (hc : zc N h a (.inl (w.2.2.1 3, m, .inl f))) (hh : ∀ g : Nat → Int32, va_up h a (.inl (w.2.2.1 3, m, .inl g)) = h' g) (d : decode cc pc = .ok (.bastore, 1)) (he : pc + 1 = pc') (kk : ∀ g : Nat → Int32, K g = some r → zZ X w Q k n x N (h' g) pc' lv st) : zZ X w Q k n x N h pc lv (.int v :: .int i :: .ref (zo w + a) :: st) := by
  subst he
  obtain ⟨hin, hf⟩ := zSi_s hf
  intro H locs ls hP hs hS hL
  refine W.zast C.1 C.2.2.1 (hP _ _ (zc_at hc rfl)) ((C.2.2.2.2.2.2.2.2.2.1.2 3 _ rfl).1 m (fun j => .int (f j))) (fun q => by cases q) (by show ¬ (i < 0 ∨ (arrV _ _ _).slots.size ≤ _); rw [arrV_size]; exact hin) rfl rfl d fun H1 e z oq => ?_
  have hP' := hP.set (e := .inl (w.2.2.1 3, m, .inl (upd f i.toNatClampNeg (vp_nar .boolean v)))) (zl_D w N h) (zc_at hc rfl) (by
    show H1[zo w + a]? = some (vp_cell _ _)
    rw [e, vp_cell_i, vp_cell_i, arrV_store]
    congr 2
    funext q
    by_cases hq : q = i.toNatClampNeg
    · subst hq
      simp [updV, upd, vp_nar]
      try rfl
    · simp [updV, upd, hq]) oq
  rw [zl_setA hc, hh] at hP'
  exact kk _ hf H1 _ ls hP' (fun y => z.trans (hs y)) (hS.put z oq (Nat.le_add_right _ _)) hL
theorem z_last (C : zK X w own cc nL ret rm) {β : Type} {r : β} {a m : Nat} {f : Nat → Int64} {i : Int32} {v : Int64} {K : (Nat → Int64) → Option β} {h' : (Nat → Int64) → zH} (hf : zSl m f i v K = some r) (hc : zc N h a (.inl (w.2.2.1 1, m, .inr (.inl f)))) (hh : ∀ g : Nat → Int64, va_up h a (.inl (w.2.2.1 1, m, .inr (.inl g))) = h' g) (d : decode cc pc = .ok (.lastore, 1)) (he : pc + 1 = pc') (kk : ∀ g : Nat → Int64, K g = some r → zZ X w Q k n x N (h' g) pc' lv st) : zZ X w Q k n x N h pc lv (.long v :: .int i :: .ref (zo w + a) :: st) := by
  subst he
  obtain ⟨hin, hf⟩ := zSl_s hf
  intro H locs ls hP hs hS hL
  refine W.last C.1 C.2.2.1 (hP _ _ (zc_at hc rfl)) ((C.2.2.2.2.2.2.2.2.2.1.2 1 _ rfl).1 m (fun j => .long (f j))) (fun q => by cases q) (by show ¬ (i < 0 ∨ (arrV _ _ _).slots.size ≤ _); rw [arrV_size]; exact hin) rfl rfl d fun H1 e z oq => ?_
  have hP' := hP.set (e := .inl (w.2.2.1 1, m, .inr (.inl (vp_updL f i.toNatClampNeg v)))) (zl_D w N h) (zc_at hc rfl) (by
    show H1[zo w + a]? = some (vp_cell _ _)
    rw [e, vp_cell_l, vp_cell_l, arrV_store]
    congr 2
    funext q
    by_cases hq : q = i.toNatClampNeg
    · subst hq; simp [updV, vp_updL]
    · simp [updV, vp_updL, hq]) oq
  rw [zl_setA hc, hh] at hP'
  exact kk _ hf H1 _ ls hP' (fun y => z.trans (hs y)) (hS.put z oq (Nat.le_add_right _ _)) hL
/-! contracts -/
def zMQ (w : zV) (v : Option Value) (x : Bool) (N : Nat) (h : zH) : Array Value → State → Outcome → State → Prop := fun _ s o t => (o = .returned v ∧ zWd w x N h t) ∧ va_F (fun q => zo w ≤ q) s t
def zPre (w : zV) (x : Bool) (N : Nat) (h : zH) : State → Prop := fun U => zWd w x N h U ∧ zE w U U.heap
def zM (w : zV) (y : MethodName) (cc : ByteArray) (nL : Nat) (ret : Option FieldType) (rm : Room) (x : Bool) (N N' : Nat) (h : zH) (av : List Value) (v : Option Value) (h' : zH) : Prop :=
  Met w.1 y (.code y cc nL ret :: zG) rm (va_Pc av (zPre w x N h)) (zMQ w v x N' h') rm.cells rm.slots (fun q => zo w ≤ q)
def zQ (X : zC) (w : zV) (rm : Room) (v : Option Value) (x : Bool) (N : Nat) (h : zH) : State → Prop := MQ X.2.2.2.2.2.2.2.1 (zMQ w v x N h) X.2.2.2.2.2.2.1 X.2.2.2.2.1 rm.cells rm.slots (fun q => zo w ≤ q)
theorem zWd_blind (w : zV) (x : Bool) (N : Nat) (h : zH) (av : List Value) : FrameBlind (va_Pc av (zPre w x N h)) := fun a U g mk q => by
  obtain ⟨q0, ⟨qP, qK, qs⟩, qE⟩ := q
  exact ⟨q0, ⟨qP, va_K.moved (u := U) (U := U.calling g mk a) (Vm.Alike.refl U.vm) qK, qs⟩, zE.same (u := U) (U := U.calling g mk a) rfl qE⟩
theorem zM_of {y : MethodName} {cc : ByteArray} {nL : Nat} {ret : Option FieldType} {rm : Room} {av : List Value} {v : Option Value} {N' : Nat} {h' : zH} (hy : plainName y.cls = true) (hlen : Nat.ble (lg_sl av).length nL = true)
    (body : ∀ X : zC, zK X w y.cls cc nL ret rm → X.2.2.2.2.2.2.2.2.1.name = y.name → zZ X w (zQ X w rm v x N' h') 0 0 x N h 0 (lv_args 0 av) []) : zM w y cc nL ret rm x N N' h av v h' := by
  refine Met.ofW (cc := cc) (maxL := nL) (ret := ret) hy rfl ?_
  intro p e s m args below meth c s₁ B hml hv
  obtain ⟨rfl, ⟨hP, hK, hs⟩, hE⟩ := hv
  have hts := atoms_spec (ws := .code y cc nL ret :: zG) B.pre
  have hl := lv_entry av (n := nL) (Nat.le_of_ble_eq_true hlen)
  rw [lg_entry_eq]
  generalize (lg_sl av ++ List.replicate (nL - (lg_sl av).length) Slot.unset).toArray = ls at hl ⊢
  exact body (p, w.1, e, rm, s, m, av.toArray, below, meth, c) ⟨B.exec, rfl, B.bytes, hml, findClass_of_methodNamed B.named, fun q hq => hts q (List.mem_cons_of_mem _ hq), B.notSynchronized, B.returns, rfl, hK, hE⟩ (name_of_methodNamed B.named B.method).1 s.heap [] ls hP hs va_S.rf (by
    show lv_has ls c.maxLocals _
    rw [hml]
    exact hl)
theorem z_iret (C : zK X w own cc nL (some .int) rm) {v : Int32} (hk : rm.cells = k) (hn : rm.slots = n) (d : decode cc pc = .ok (.ireturn, 1)) : zZ X w (zQ X w rm (some (.int v)) x N h) k n x N h pc lv [.int v] := by
  subst hk hn
  intro H locs ls hP hs hS hL
  exact W.iret C.1 C.2.2.1 C.2.2.2.2.2.2.2.1 (fun t ht hW => ⟨⟨rfl, by rw [ht]; exact hP, va_K.moved hW.alike C.2.2.2.2.2.2.2.2.2.1, by rw [ht]; exact hs⟩, hS.F ht⟩) hS.2.2 d (hlocks := C.2.2.2.2.2.2.1)
theorem z_zret (C : zK X w own cc nL (some .boolean) rm) {v : Int32} (hv : v &&& 1 = v) (hk : rm.cells = k) (hn : rm.slots = n) (d : decode cc pc = .ok (.ireturn, 1)) : zZ X w (zQ X w rm (some (.int v)) x N h) k n x N h pc lv [.int v] := by
  subst hk hn
  intro H locs ls hP hs hS hL
  exact W.zret C.1 C.2.2.1 C.2.2.2.2.2.2.2.1 (by show Value.int (v &&& 1) = _; rw [hv]) (fun t ht hW => ⟨⟨rfl, by rw [ht]; exact hP, va_K.moved hW.alike C.2.2.2.2.2.2.2.2.2.1, by rw [ht]; exact hs⟩, hS.F ht⟩) hS.2.2 d (hlocks := C.2.2.2.2.2.2.1)
theorem z_lret (C : zK X w own cc nL (some .long) rm) {v : Int64} (hk : rm.cells = k) (hn : rm.slots = n) (d : decode cc pc = .ok (.lreturn, 1)) : zZ X w (zQ X w rm (some (.long v)) x N h) k n x N h pc lv [.long v] := by
  subst hk hn
  intro H locs ls hP hs hS hL
  exact W.lret C.1 C.2.2.1 C.2.2.2.2.2.2.2.1 (fun t ht hW => ⟨⟨rfl, by rw [ht]; exact hP, va_K.moved hW.alike C.2.2.2.2.2.2.2.2.2.1, by rw [ht]; exact hs⟩, hS.F ht⟩) hS.2.2 d (hlocks := C.2.2.2.2.2.2.1)
theorem z_vret (C : zK X w own cc nL none rm) (hk : rm.cells = k) (hn : rm.slots = n) (d : decode cc pc = .ok (.return_, 1)) : zZ X w (zQ X w rm none x N h) k n x N h pc lv [] := by
  subst hk hn
  intro H locs ls hP hs hS hL
  exact W.vret C.1 C.2.2.1 C.2.2.2.2.2.2.2.1 (fun t ht hW => ⟨⟨rfl, by rw [ht]; exact hP, va_K.moved hW.alike C.2.2.2.2.2.2.2.2.2.1, by rw [ht]; exact hs⟩, hS.F ht⟩) hS.2.2 d (hlocks := C.2.2.2.2.2.2.1)
theorem z_aret (C : zK X w own cc nL (some (.object "ConstructionLedger$Project")) rm) {v : Nat} (hk : rm.cells = k) (hn : rm.slots = n) (d : decode cc pc = .ok (.areturn, 1)) : zZ X w (zQ X w rm (some (.ref v)) x N h) k n x N h pc lv [.ref v] := by
  subst hk hn
  intro H locs ls hP hs hS hL
  exact W.aret C.1 C.2.2.1 C.2.2.2.2.2.2.2.1 (Or.inl ⟨_, rfl⟩) (Or.inr ⟨_, rfl⟩) (fun t ht hW => ⟨⟨rfl, by rw [ht]; exact hP, va_K.moved hW.alike C.2.2.2.2.2.2.2.2.2.1, by rw [ht]; exact hs⟩, hS.F ht⟩) hS.2.2 d (hlocks := C.2.2.2.2.2.2.1)
end ZH
