/-! worlds of two bases; methods that make a row of prices
-/
theorem zlook_app (o : Nat) : ∀ (L M : List (Nat × va_E)), zlook o (L ++ M) = match zlook o L with | some e => some e | none => zlook o M
  | [], M => rfl
  | q :: l, M => by
    have ih := zlook_app o l M
    by_cases h : q.1 = o
    · simp [zlook, h]
    · simp [zlook, h, ih]
theorem zlook_shift (d o : Nat) : ∀ L : List (Nat × va_E), zlook o (L.map fun q => (d + q.1, q.2)) = if d ≤ o then zlook (o - d) L else none
  | [] => by simp [zlook]
  | q :: l => by
    have ih := zlook_shift d o l
    by_cases h1 : d ≤ o
    · by_cases h2 : q.1 = o - d
      · have : d + q.1 = o := by omega
        simp [zlook, h1, h2, this]
      · have : ¬ d + q.1 = o := by omega
        simp [zlook, h1, h2, this, ih]
    · have : ¬ d + q.1 = o := by omega
      simp [zlook, h1, this, ih]
theorem zlook_lo {d : Nat} : ∀ {L : List (Nat × va_E)}, L.all (fun q => Nat.blt q.1 d) = true → ∀ o, d ≤ o → zlook o L = none
  | [], _, _, _ => rfl
  | q :: l, h, o, ho => by
    simp only [List.all_cons, Bool.and_eq_true] at h
    have h1 : q.1 < d := Nat.le_of_ble_eq_true h.1
    have : ¬ q.1 = o := by omega
    simp [zlook, this, zlook_lo h.2 o ho]
theorem zu_app {h : zH} {a d : Nat} {L L2 L' : List (Nat × va_E)} (hd : L.all (fun q => Nat.blt q.1 d) = true) (hL : L ++ L2.map (fun q => (d + q.1, q.2)) = L') : zu (zu h a L) (a + d) L2 = zu h a L' := by
  subst hL
  funext j
  simp only [zu, zlook_app, zlook_shift]
  by_cases h1 : a + d ≤ j
  · have h2 : a ≤ j := by omega
    have h3 : d ≤ j - a := by omega
    have h4 : j - a - d = j - (a + d) := by omega
    rw [zlook_lo hd (j - a) h3]
    simp only [if_pos h1, if_pos h2, if_pos h3, h4]
  · by_cases h2 : a ≤ j
    · have h3 : ¬ d ≤ j - a := by omega
      simp only [if_neg h1, if_pos h2, if_neg h3]
      cases zlook (j - a) L <;> rfl
    · simp only [if_neg h1, if_neg h2]
theorem zu_appn {h : zH} {a d : Nat} (L0 : List (Nat × va_E)) {e0 : va_E} {L L2 L' : List (Nat × va_E)} (h0 : L0 ++ [(d, e0)] = L) (hd : L0.all (fun q => Nat.blt q.1 d) = true) (hs : (zlook 0 L2).isSome = true) (hL : L0 ++ L2.map (fun q => (d + q.1, q.2)) = L') : zu (zu h a L) (a + d) L2 = zu h a L' := by
  subst h0
  rw [← zu_app hd hL]
  funext j
  have e : ∀ o, zlook o (L0 ++ [(d, e0)]) = match zlook o L0 with | some e => some e | none => if d = o then some e0 else none := fun o => by
    rw [zlook_app]
    cases zlook o L0 <;> simp [zlook]
  by_cases h1 : a + d ≤ j
  · by_cases h3 : j = a + d
    · subst h3
      obtain ⟨x, hx⟩ := Option.isSome_iff_exists.mp hs
      simp [zu, hx]
    · have h2 : a ≤ j := by omega
      have h5 : ¬ d = j - a := by omega
      simp only [zu, if_pos h1, if_pos h2, e, if_neg h5]
      cases zlook (j - (a + d)) L2 <;> cases zlook (j - a) L0 <;> rfl
  · by_cases h2 : a ≤ j
    · have h5 : ¬ d = j - a := by omega
      simp only [zu, if_neg h1, if_pos h2, e, if_neg h5]
      cases zlook (j - a) L0 <;> rfl
    · simp only [zu, if_neg h1, if_neg h2]
theorem zc_w {N a o : Nat} {h : zH} {L : List (Nat × va_E)} {e : va_E} (hN : a + o < N) (hl : zlook o L = some e) : zc N (zu h a L) (a + o) e := by
  refine ⟨hN, ?_⟩
  unfold zu
  rw [if_pos (Nat.le_add_right _ _), Nat.add_sub_cancel_left, hl]
theorem zna_0 (L : Nat) (cA : ClassId) : vp_cell cA (L, .inl (fun _ => 0)) = arrV cA L (fun _ => defaultValue .int) := rfl
theorem zna_1 (L : Nat) (cA : ClassId) : vp_cell cA (L, .inr (.inl (fun _ => 0))) = arrV cA L (fun _ => defaultValue .long) := rfl
theorem zna_2 (L : Nat) (cA : ClassId) : vp_cell cA (L, .inl (fun _ => 0)) = arrV cA L (fun _ => defaultValue .byte) := rfl
theorem zna_3 (L : Nat) (cA : ClassId) : vp_cell cA (L, .inl (fun _ => 0)) = arrV cA L (fun _ => defaultValue .boolean) := rfl
theorem zlook_none {m : Nat} : ∀ (L : List (Nat × va_E)) (k : Nat), L.all (fun q => Nat.blt q.1 m) = true → m ≤ k → zlook k L = none := by
  intro L k
  induction L with
  | nil => intro _ _; rfl
  | cons q l ih =>
    intro hq hk
    simp only [List.all_cons, Bool.and_eq_true] at hq
    have h3 : q.1 < m := Nat.le_of_ble_eq_true hq.1
    rw [zlook, if_neg (by omega)]
    exact ih hq.2 hk
theorem zu_far {h : zH} {a m j : Nat} {L : List (Nat × va_E)} (hm : L.all (fun q => Nat.blt q.1 m) = true) (hj : j < a ∨ a + m ≤ j) : zu h a L j = h j := by
  unfold zu
  by_cases c : a ≤ j
  · rw [if_pos c, zlook_none L (j - a) hm (by omega)]
  · rw [if_neg c]
theorem zlook_some {m : Nat} : ∀ (L : List (Nat × va_E)) (k : Nat) (e : va_E), L.all (fun q => Nat.blt q.1 m) = true → zlook k L = some e → k < m := by
  intro L k e hm hk
  by_cases c : k < m
  · exact c
  · rw [zlook_none L k hm (by omega)] at hk
    cases hk
/-- two worlds laid over one, apart: their order doesn't matter -/
theorem zu_swap {h : zH} {a g m n : Nat} {La Lg : List (Nat × va_E)} (hm : La.all (fun q => Nat.blt q.1 m) = true) (hn : Lg.all (fun q => Nat.blt q.1 n) = true) (hf : a + m ≤ g ∨ g + n ≤ a) : zu (zu h a La) g Lg = zu (zu h g Lg) a La := by
  funext j
  by_cases c1 : a ≤ j ∧ j < a + m
  · rw [zu_far (h := zu h a La) hn (by omega)]
    unfold zu
    rw [if_pos c1.1, if_pos c1.1]
    have : zu h g Lg j = h j := zu_far hn (by omega)
    unfold zu at this
    rw [this]
  · rw [zu_far (h := zu h g Lg) hm (by omega)]
    unfold zu
    have : zu h a La j = h j := zu_far hm (by omega)
    unfold zu at this
    rw [this]
theorem zu_put2 {h : zH} {g a o m : Nat} {e : va_E} {La Lg Lg' : List (Nat × va_E)} (hm : La.all (fun q => Nat.blt q.1 m) = true) (hf : a + m ≤ g + o) (hL : zins o e Lg = Lg') : va_up (zu (zu h g Lg) a La) (g + o) e = zu (zu h g Lg') a La := by
  rw [← zu_put (h := h) (a := g) hL]
  funext j
  by_cases c : j = g + o
  · subst c
    rw [zu_far (h := va_up (zu h g Lg) (g + o) e) hm (by omega)]
    simp [va_up]
  · have e1 : va_up (zu (zu h g Lg) a La) (g + o) e j = zu (zu h g Lg) a La j := by simp [va_up, c]
    rw [e1]
    have e2 : va_up (zu h g Lg) (g + o) e j = zu h g Lg j := by simp [va_up, c]
    simp only [zu] at e2 ⊢
    rw [e2]
theorem zu_shG {h : zH} {g a m : Nat} {La Lg L2 Lg' : List (Nat × va_E)} {n : Nat} (hm : La.all (fun q => Nat.blt q.1 m) = true) (hn : L2.all (fun q => Nat.blt q.1 n) = true) (hf : a + m ≤ g) (hd : znd L2 = true) (hL : zsh 0 Lg L2 = Lg') : zu (zu (zu h g Lg) a La) g L2 = zu (zu h g Lg') a La := by
  rw [zu_swap (h := zu h g Lg) hm hn (Or.inl hf)]
  have e := zu_sh (h := h) (a := g) (d := 0) hd hL
  rw [Nat.add_zero] at e
  rw [e]
theorem zu_shB {h : zH} {g a m d : Nat} {La Lg L2 L3 Lg' La' : List (Nat × va_E)} {n : Nat} (hm : La.all (fun q => Nat.blt q.1 m) = true) (hn : L2.all (fun q => Nat.blt q.1 n) = true) (hf : a + m ≤ g) (hd : znd L2 = true) (hL : zsh 0 Lg L2 = Lg') (hd3 : znd L3 = true) (hL3 : zsh d La L3 = La') : zu (zu (zu (zu h g Lg) a La) g L2) (a + d) L3 = zu (zu h g Lg') a La' := by
  rw [zu_shG hm hn hf hd hL, zu_sh hd3 hL3]
/-- a cell that isn't the one written -/
theorem zc_1 {N b g : Nat} {h : zH} {e0 e : va_E} (hc : zc N h b e0) (hf : b ≠ g + 1) : zc N (zu h g [(1, e)]) b e0 := by
  refine ⟨hc.1, ?_⟩
  unfold zu
  by_cases c : g ≤ b
  · have : ¬ 1 = b - g := by omega
    rw [if_pos c, zlook, if_neg this]
    exact hc.2
  · rw [if_neg c]
    exact hc.2
/-- what was new at g is now written whole -/
theorem zu_newg {h : zH} {a g m n : Nat} {e0 : va_E} {La Lg : List (Nat × va_E)} (hm : La.all (fun q => Nat.blt q.1 m) = true) (hn : Lg.all (fun q => Nat.blt q.1 n) = true) (hf : a + m ≤ g) (h0 : (zlook 0 Lg).isSome = true) : zu (va_up (zu h a La) g e0) g Lg = zu (zu h g Lg) a La := by
  rw [← zu_swap (h := h) hm hn (Or.inl hf)]
  funext j
  unfold zu
  by_cases c : g ≤ j
  · rw [if_pos c, if_pos c]
    by_cases c2 : j = g
    · subst c2
      rw [Nat.sub_self]
      obtain ⟨x, hx⟩ := Option.isSome_iff_exists.mp h0
      rw [hx]
    · have e : ∀ f : zH, va_up f g e0 j = f j := fun f => by simp [va_up, c2]
      rw [e]
  · rw [if_neg c, if_neg c]
    have c2 : ¬ j = g := by omega
    simp [va_up, c2]
/-- a callee that made something at g, and wrote at a + d -/
theorem zu_alloc {N : Nat} {h : zH} {a g m n d : Nat} {La Lg L2 La' : List (Nat × va_E)} (hm : La.all (fun q => Nat.blt q.1 m) = true) (hn : Lg.all (fun q => Nat.blt q.1 n) = true) (hN : a + m ≤ N) (hg : N ≤ g) (hd : znd L2 = true) (hL : zsh d La L2 = La') : zu (zu (hJ N (zu h a La)) g Lg) (a + d) L2 = zu (zu (hJ N h) g Lg) a La' := by
  rw [hJ_zu hm hN, zu_swap hm hn (Or.inl (by omega)), zu_sh hd hL]
abbrev zrx (f lo c s : Nat) : Room := { frames := f, cells := c, slots := s, locals := lo }
/-! the room of a rate's text -/
def zpn (x : Int32) : Nat := (if (0 : Int32) < (if (900 : Int32) < x then (900 : Int32) else x) then (if (900 : Int32) < x then (900 : Int32) else x) else (0 : Int32)).toNatClampNeg
theorem zpn_ok (x : Int32) : ¬ (if (0 : Int32) < (if (900 : Int32) < x then (900 : Int32) else x) then (if (900 : Int32) < x then (900 : Int32) else x) else (0 : Int32)) < 0 := by
  generalize (if (900 : Int32) < x then (900 : Int32) else x) = y
  have e0 : (0 : Int32).toInt = 0 := rfl
  by_cases h1 : (0 : Int32) < y
  · rw [if_pos h1]
    intro h2
    have a := Int32.lt_iff_toInt_lt.mp h1
    have b := Int32.lt_iff_toInt_lt.mp h2
    omega
  · rw [if_neg h1]
    decide
theorem zpn_le (x : Int32) : zpn x ≤ 900 := by
  unfold zpn
  have e9 : (900 : Int32).toInt = 900 := rfl
  have key : ∀ y : Int32, y.toInt ≤ 900 → y.toNatClampNeg ≤ 900 := fun y hy => by
    rw [show y.toNatClampNeg = y.toInt.toNat from rfl]
    omega
  have h2 : (if (900 : Int32) < x then (900 : Int32) else x).toInt ≤ 900 := by
    by_cases c : (900 : Int32) < x
    · rw [if_pos c]
      omega
    · rw [if_neg c]
      have : ¬ (900 : Int32).toInt < x.toInt := fun z => c (Int32.lt_iff_toInt_lt.mpr z)
      omega
  generalize (if (900 : Int32) < x then (900 : Int32) else x) = y at h2 ⊢
  by_cases h1 : (0 : Int32) < y
  · rw [if_pos h1]
    exact key y h2
  · rw [if_neg h1]
    decide
theorem zpn_0 : zpn 0 = 0 := by decide
/-! contracts of methods that make something: the world behind them is one of those that P names -/
def zMQP (w : zV) (v : Option Value) (P : Nat → zH → Prop) : Array Value → State → Outcome → State → Prop := fun a s o t => ∃ (N : Nat) (h : zH), P N h ∧ zMQ w v false N h a s o t
def zMP (w : zV) (y : MethodName) (cc : ByteArray) (nL : Nat) (ret : Option FieldType) (rm : Room) (N : Nat) (h : zH) (av : List Value) (v : Option Value) (P : Nat → zH → Prop) : Prop :=
  Met w.1 y (.code y cc nL ret :: zG) rm (va_Pc av (zPre w false N h)) (zMQP w v P) rm.cells rm.slots (fun q => zo w ≤ q)
def zQP (X : zC) (w : zV) (rm : Room) (v : Option Value) (P : Nat → zH → Prop) : State → Prop := MQ X.2.2.2.2.2.2.2.1 (zMQP w v P) X.2.2.2.2.2.2.1 X.2.2.2.2.1 rm.cells rm.slots (fun q => zo w ≤ q)
section ZPP
variable {X : zC} {w : zV} {Q : State → Prop} {k n : Nat} {x : Bool} {N : Nat} {h : zH} {pc pc' : Nat} {lv : List (Nat × Value)} {st st' : List Value} {own : String} {cc : ByteArray} {nL : Nat} {ret : Option FieldType} {rm : Room}
theorem zMP_of {y : MethodName} {cc : ByteArray} {nL : Nat} {ret : Option FieldType} {rm : Room} {av : List Value} {v : Option Value} {P : Nat → zH → Prop} (hy : plainName y.cls = true) (hlen : Nat.ble (lg_sl av).length nL = true)
    (body : ∀ X : zC, zK X w y.cls cc nL ret rm → zZ X w (zQP X w rm v P) 0 0 false N h 0 (lv_args 0 av) []) : zMP w y cc nL ret rm N h av v P := by
  refine Met.ofW (cc := cc) (maxL := nL) (ret := ret) hy rfl ?_
  intro p e s m args below meth c s₁ B hml hv
  obtain ⟨rfl, ⟨hP, hK, hs⟩, hE⟩ := hv
  have hts := atoms_spec (ws := .code y cc nL ret :: zG) B.pre
  have hl := lv_entry av (n := nL) (Nat.le_of_ble_eq_true hlen)
  rw [lg_entry_eq]
  generalize (lg_sl av ++ List.replicate (nL - (lg_sl av).length) Slot.unset).toArray = ls at hl ⊢
  exact body (p, w.1, e, rm, s, m, av.toArray, below, meth, c) ⟨B.exec, rfl, B.bytes, hml, findClass_of_methodNamed B.named, fun q hq => hts q (List.mem_cons_of_mem _ hq), B.notSynchronized, B.returns, rfl, hK, hE⟩ s.heap [] ls hP hs va_S.rf (by
    show lv_has ls c.maxLocals _
    rw [hml]
    exact hl)
theorem z_toP {v : Option Value} {P : Nat → zH → Prop} {N' : Nat} {h' : zH} (hP : P N' h') (kk : zZ X w (zQ X w rm v false N' h') k n x N h pc lv st) : zZ X w (zQP X w rm v P) k n x N h pc lv st := by
  intro H locs ls hP' hs hS hL T hT XX
  obtain ⟨t, a1, o, b1, b2, b3, b4⟩ := kk H locs ls hP' hs hS hL T hT XX
  exact ⟨t, a1, o, b1, b2, ⟨N', h', hP, b3⟩, b4⟩
theorem z_finP {y : MethodName} {rmY : Room} {args' : Array Value} {v : Option Value} {P : Nat → zH → Prop} {rest : List Value} {st0 : List Value}
    (hr : ∀ (H : Heap) (locs : List Loc) (ls : Array Slot), va_P (zD w) vwCl (zl w N h) H → va_S (fun q => zo w ≤ q) X.2.2.2.2.1.heap H locs → lv_has ls X.2.2.2.2.2.2.2.2.2.maxLocals lv → va_Run X.1 X.2.1 X.2.2.1 X.2.2.2.1 X.2.2.2.2.1 X.2.2.2.2.2.1 X.2.2.2.2.2.2.1 X.2.2.2.2.2.2.2.1 X.2.2.2.2.2.2.2.2.1 X.2.2.2.2.2.2.2.2.2 H locs k n rmY.cells rmY.slots (F0 X.2.2.2.2.2.1 pc ls st0) rest (zMQP w v P args') (fun q => zo w ≤ q))
    (he : pc + 3 = pc') (kk : ∀ (N' : Nat) (h' : zH), P N' h' → zZ X w Q (k + rmY.cells) (n + rmY.slots) false N' h' pc' lv (v.toList ++ rest)) : zZ X w Q k n false N h pc lv st0 := by
  subst he
  intro H locs ls hP hs hS hL T hT XX
  obtain ⟨v', s0, t, T', L, h0, X', hL', e1, e2, ⟨N', h', hPN, ⟨ho, hP', hK', hs'⟩, hz, hfr⟩, go⟩ := hr H locs ls hP hS hL T hT XX
  have hv : v' = v := by cases ho; rfl
  subst hv
  rw [h0] at hz hfr
  have hS' : va_S (fun q => zo w ≤ q) X.2.2.2.2.1.heap T'.heap (locs ++ L) := ⟨Nat.le_trans hS.1 (by rw [e1]; exact hz), fun q h1 h2 => by rw [e1, hfr q (Nat.lt_of_lt_of_le h1 hS.1) h2]; exact hS.2.1 q h1 h2, fun q hq => by
      rcases List.mem_append.mp hq with h | h
      · exact hS.2.2 q h
      · exact hL' q h⟩
  obtain ⟨t2, a1, b1⟩ := kk N' h' hPN T'.heap (locs ++ L) ls (by rw [e1]; exact hP') (by rw [e1]; exact hs') hS' hL T' rfl X'
  exact ⟨t2, go t2 a1, b1⟩
/-- invokevirtual of a method that makes something -/
theorem z_callVP (C : zK X w own cc nL ret rm) {i ci m : Nat} {y : MethodName} {cc' : ByteArray} {nL' : Nat} {ret' : Option FieldType} {rm' : Room} {P : Nat → zH → Prop} {v : Option Value} {As : List Value} {a : Nat} {fs : List Value} {qc : vw_C} (hM : zMP w y cc' nL' ret' rm' N h (.ref (zo w + a) :: As) v P) (hY : zY y cc' nL' ret' m) (hl : Cond.methodLink own i y ∈ zG) (hi : Cond.instanceMethod y ∈ zG) (hsel : Cond.selects qc.1 y y ∈ zG) (hq : vwCl[ci]? = some qc) (hc : zc N h a (.inr (ci, fs))) (hR : zRm rm' rm nL' = true) (hm : As.length = m) (hst : Nat.ble ((st.map fun v => v.category).sum) 8 = true) (stk : As.reverse ++ .ref (zo w + a) :: st = st') (hf : (Nat.ble (k + rm'.cells) rm.cells && Nat.ble (n + rm'.slots) rm.slots) = true) (d : decode cc pc = .ok (.invokevirtual i, 3)) (he : pc + 3 = pc')
    (kk : ∀ (N' : Nat) (h' : zH), P N' h' → zZ X w Q (k + rm'.cells) (n + rm'.slots) false N' h' pc' lv (v.toList ++ st)) : zZ X w Q k n false N h pc lv st' := by
  subst stk
  refine z_finP (y := y) (args' := (Value.ref (zo w + a) :: As).toArray) (fun H locs ls hP hS hL => ?_) he kk
  have hts := C.2.2.2.2.2.1
  obtain ⟨y1, y2, y3, y4, y5⟩ := hY
  have hR' := zRm_s hR
  have hRm : X.2.2.2.1 = rm := C.2.2.2.2.2.2.2.2.1
  simp only [Bool.and_eq_true] at hf
  have hMx : Met X.2.1 y (.code y cc' nL' ret' :: zG) rm' (va_Pc (.ref (zo w + a) :: As) (zPre w false N h)) (zMQP w v P) rm'.cells rm'.slots (fun q => zo w ≤ q) := by rw [C.2.1]; exact hM
  exact va_runV (C := qc.1) (Ts := zG) (own := own) (nL := nL) (As := As) (b := zo w + a) (n := m) (g := F0 X.2.2.2.2.2.1 pc ls (As.reverse ++ .ref (zo w + a) :: st)) ⟨C.1, C.2.2.1, C.2.2.2.1, C.2.2.2.2.1, hts⟩ hMx
    ⟨callB_of m hts (zG_cons y1) rfl rfl rfl (hts _ y2) (hts _ hl) ⟨y3, y4, y5⟩ (by rw [hRm]; exact ⟨hR'.1, by omega⟩), hts _ hi, hts _ hsel⟩
    ⟨zWd_blind w false N h _, va_recv C.2.2.2.2.2.2.2.2.2.1 hP hq (zc_at hc (zj_r hq)), fun U hU hW => ⟨rfl, ⟨by rw [hU]; exact hP, va_K.moved hW.alike C.2.2.2.2.2.2.2.2.2.1, fun z => Bool.noConfusion z⟩, by rw [hU]; exact zE.next hW hS.2.1 C.2.2.2.2.2.2.2.2.2.2⟩⟩ rfl hm (hL.1.trans C.2.2.2.1) rfl (by show 2 * 0 + _ ≤ 8; rw [Nat.mul_zero, Nat.zero_add]; exact Nat.le_of_ble_eq_true hst) d ⟨by rw [hRm]; exact Nat.le_of_ble_eq_true hf.1, by rw [hRm]; exact Nat.le_of_ble_eq_true hf.2⟩
/-- invokestatic of a method that may throw, but answers here -/
theorem z_cSr (C : zK X w own cc nL ret rm) {i m : Nat} {y : MethodName} {cc' : ByteArray} {nL' : Nat} {ret' : Option FieldType} {rm' : Room} {As : List Value} {v : Option Value} {h' : zH}
    (hM : zMx w y cc' nL' ret' rm' N h As (.inr (v, h'))) (hY : zY y cc' nL' ret' m) (hl : Cond.methodLink own i y ∈ zG) (hi : Cond.static y ∈ zG) (hR : zRm rm' rm nL' = true) (hm : As.length = m) (hst : Nat.ble ((st.map fun v => v.category).sum) 8 = true) (stk : As.reverse ++ st = st') (hk : (Nat.ble (k + rm'.cells) rm.cells && Nat.ble (n + rm'.slots) rm.slots) = true) (d : decode cc pc = .ok (.invokestatic i, 3)) (he : pc + 3 = pc')
    (kk : zZ X w Q (k + rm'.cells) (n + rm'.slots) false N h' pc' lv (v.toList ++ st)) : zZ X w Q k n false N h pc lv st' := by
  subst stk he
  simp only [Bool.and_eq_true] at hk
  intro H locs ls hP hs hS hL T hT XX
  have hts := C.2.2.2.2.2.1
  obtain ⟨y1, y2, y3, y4, y5⟩ := hY
  have hR' := zRm_s hR
  have hRm : X.2.2.2.1 = rm := C.2.2.2.2.2.2.2.2.1
  have hMx : vx_Met X.2.1 y (.code y cc' nL' ret' :: zG) rm' (va_Pc As (zPre w false N h)) (zXQ w (.inr (v, h')) N) (zXX w (.inr (v, h')) N) rm'.cells rm'.slots (fun q => zo w ≤ q) := by rw [C.2.1]; exact hM
  have R : vx_Run X.1 X.2.1 X.2.2.1 X.2.2.2.1 X.2.2.2.2.1 X.2.2.2.2.2.1 X.2.2.2.2.2.2.1 X.2.2.2.2.2.2.2.1 X.2.2.2.2.2.2.2.2.1 X.2.2.2.2.2.2.2.2.2 H locs k n rm'.cells rm'.slots (F0 X.2.2.2.2.2.1 pc ls (As.reverse ++ st)) st (zXQ w (.inr (v, h')) N As.toArray) (zXX w (.inr (v, h')) N) (fun q => zo w ≤ q) := vx_runS (Ts := zG) (own := own) (nL := nL) (As := As) (n := m) (g := F0 X.2.2.2.2.2.1 pc ls (As.reverse ++ st)) ⟨C.1, C.2.2.1, C.2.2.2.1, C.2.2.2.2.1, hts⟩ hMx
    ⟨callB_of m hts (zG_cons y1) rfl rfl rfl (hts _ y2) (hts _ hl) ⟨y3, y4, y5⟩ (by rw [hRm]; exact ⟨hR'.1, by omega⟩), hts _ hi⟩
    ⟨zWd_blind w false N h _, fun U hU hW => ⟨rfl, ⟨by rw [hU]; exact hP, va_K.moved hW.alike C.2.2.2.2.2.2.2.2.2.1, fun z => Bool.noConfusion z⟩, by rw [hU]; exact zE.next hW hS.2.1 C.2.2.2.2.2.2.2.2.2.2⟩⟩ rfl hm (hL.1.trans C.2.2.2.1) rfl (by show 2 * 0 + _ ≤ 8; rw [Nat.mul_zero, Nat.zero_add]; exact Nat.le_of_ble_eq_true hst) d ⟨by rw [hRm]; exact Nat.le_of_ble_eq_true hk.1, by rw [hRm]; exact Nat.le_of_ble_eq_true hk.2⟩
  rcases R T hT XX with ⟨v', s0, t, T', L, h0, X', hL', e1, e2, ⟨v1, h1, ho, ⟨⟨hov, hP', hK', hs'⟩, hz, hfr⟩⟩, go⟩ | ⟨q, s0, t, T', L, E, ce, h0, X', hL', e1, e2, ⟨h1, ho, -⟩, -⟩
  · cases ho
    cases hov
    rw [h0] at hz hfr
    have hS' : va_S (fun q => zo w ≤ q) X.2.2.2.2.1.heap T'.heap (locs ++ L) := ⟨Nat.le_trans hS.1 (by rw [e1]; exact hz), fun q h1 h2 => by rw [e1, hfr q (Nat.lt_of_lt_of_le h1 hS.1) h2]; exact hS.2.1 q h1 h2, fun q hq => by
      rcases List.mem_append.mp hq with h | h
      · exact hS.2.2 q h
      · exact hL' q h⟩
    obtain ⟨t2, a1, b1⟩ := kk T'.heap (locs ++ L) ls (by rw [e1]; exact hP') (by rw [e1]; exact hs') hS' hL T' rfl X'
    exact ⟨t2, go t2 a1, b1⟩
  · cases ho
/-- a constructor, named by an ordinary link -/
theorem z_callI0 (C : zK X w own cc nL ret rm) {i m a : Nat} {y : MethodName} {cc' : ByteArray} {nL' : Nat} {rm' : Room} {N' : Nat} {h' : zH} {v : Option Value} {As : List Value} {st' : List Value} {x : Bool} (hM : zM w y cc' nL' none rm' x N N' h (.ref (zo w + a) :: As) v h') (hY : zY y cc' nL' none m) (hl : Cond.methodLink own i y ∈ zG) (hy : y.name = "<init>") (hi : Cond.instanceMethod y ∈ zG) (hR : zRm rm' rm nL' = true) (hm : As.length = m) (hst : Nat.ble ((st.map fun v => v.category).sum) 8 = true) (stk : As.reverse ++ .ref (zo w + a) :: st = st') (hf : (Nat.ble (k + rm'.cells) rm.cells && Nat.ble (n + rm'.slots) rm.slots) = true) (d : decode cc pc = .ok (.invokespecial i, 3)) (he : pc + 3 = pc')
    (kk : zZ X w Q (k + rm'.cells) (n + rm'.slots) x N' h' pc' lv (v.toList ++ st)) : zZ X w Q k n x N h pc lv st' := by
  subst stk
  refine z_fin (y := y) (args' := (Value.ref (zo w + a) :: As).toArray) (fun H locs ls hP hs hS hL => ?_) he kk
  have hts := C.2.2.2.2.2.1
  obtain ⟨y1, y2, y3, y4, y5⟩ := hY
  have hR' := zRm_s hR
  have hRm : X.2.2.2.1 = rm := C.2.2.2.2.2.2.2.2.1
  simp only [Bool.and_eq_true] at hf
  have hMx : Met X.2.1 y (.code y cc' nL' none :: zG) rm' (va_Pc (.ref (zo w + a) :: As) (zPre w x N h)) (zMQ w v x N' h') rm'.cells rm'.slots (fun q => zo w ≤ q) := by rw [C.2.1]; exact hM
  exact va_runI (Ts := zG) (own := own) (nL := nL) (As := As) (n := m) (b := zo w + a) (g := F0 X.2.2.2.2.2.1 pc ls (As.reverse ++ .ref (zo w + a) :: st)) ⟨C.1, C.2.2.1, C.2.2.2.1, C.2.2.2.2.1, hts⟩ hMx
    ⟨callB_of m hts (zG_cons y1) rfl rfl rfl (hts _ y2) (hts _ hl) ⟨y3, y4, y5⟩ (by rw [hRm]; exact ⟨hR'.1, by omega⟩), hy, hts _ hi⟩
    ⟨zWd_blind w x N h _, fun U hU hW => ⟨rfl, ⟨by rw [hU]; exact hP, va_K.moved hW.alike C.2.2.2.2.2.2.2.2.2.1, by rw [hU]; exact hs⟩, by rw [hU]; exact zE.next hW hS.2.1 C.2.2.2.2.2.2.2.2.2.2⟩⟩ rfl hm (hL.1.trans C.2.2.2.1) rfl (by show 2 * 0 + _ ≤ 8; rw [Nat.mul_zero, Nat.zero_add]; exact Nat.le_of_ble_eq_true hst) d ⟨by rw [hRm]; exact Nat.le_of_ble_eq_true hf.1, by rw [hRm]; exact Nat.le_of_ble_eq_true hf.2⟩
theorem z_drop (kk : zZ X w Q k n false N h pc lv st) : zZ X w Q k n x N h pc lv st := fun H locs ls hP _ hS hL => kk H locs ls hP (fun z => Bool.noConfusion z) hS hL
end ZPP
