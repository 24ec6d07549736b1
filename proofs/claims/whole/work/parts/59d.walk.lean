def R_law : String := "ConstructionLedgerLaw"
def lw_P (b : Addr) (xs : List Int32) (args : Array Value) (s : State) : Prop := args = #[.ref b] ∧ s.IntsAt b xs ∧ xs.length ≤ 3072 ∧ (Jvm.Cond.and given_1 narrow_1).before args s = true
def lw_Q (_ : Array Value) (s : State) (o : Outcome) (t : State) : Prop := o = .returned (some (.int 1)) ∧ Framed s o t [] 601024 7293033
def lw_Z (below : List Frame) (a : Array Value) (s : State) : State → Prop := fun t => ∃ o, t.status = .running ∧ Ended t below o ∧ lw_Q a s o t
/-- the law's own end, with 1 on the stack, nothing written that was there before, its room as the claim has it -/
theorem lw_ret {p : Program} {l : Launch} {e : Env} {s : State} {m : MethodId} {below : List Frame} {meth : Method} {c : Code} {b : Nat} (hx : p.tables.exec = Jvm.exec) (hb : c.code = code) (hr : meth.sig.returnType = ret) (hlocks : meth.locks = false) {pc : Nat} {H : Heap} {ls : Array Slot} (hdg : decode code pc = .ok (.ireturn, 1)) : W p l e room_1 s m #[Value.ref b] below meth c H [] 601024 7293033 (lw_Z below #[Value.ref b] s) (F0 m pc ls [.int 1]) := by
  intro T hT X
  obtain ⟨fs, hret, hrun, hended, hW, hframe⟩ := X.leave (v := some (.int 1)) (hlocks := hlocks) (fun h => by rw [hr] at h; cases h)
  have hmeth' : T.vm.method? m = some meth := X.method'
  refine ⟨T.setFrames fs, ?_, .returned (some (.int 1)), hrun, hended, rfl, ⟨_, rfl⟩, hW, hframe⟩
  jvm_step X.here [X.here.top, hx, hb, hdg, hmeth', hr, ret, narrow_b1]
  (try refine ⟨rfl, ?_⟩); (try refine ⟨rfl, ?_⟩)
  first | (intro acts; rw [hret _ acts rfl rfl rfl]) | rw [hret _ _ rfl rfl rfl]
  exact Steps.refl _
/-- what holds at the law's entry: the machine, the code, the tables' words (any of lw_tbl by 'hts w (by decide +kernel)'), the script of L ints xs at the cell b, what the Statement gives of the start (any of its parts by flat_of_before) -/
def lw_At (p : Program) (s : State) (m : MethodId) (meth : Method) (c : Code) (b L : Nat) (xs : Nat → Int32) : Prop :=
  p.tables.exec = Jvm.exec ∧ c.code = code ∧ meth.sig.returnType = ret ∧ c.maxLocals = 8 ∧ s.vm.findClass R_law = some m.cls ∧ (∀ w ∈ lw_tbl, w.before #[Value.ref b] s = true) ∧ va_X b L xs s s.heap ∧ b < s.heap.size ∧ meth.locks = false ∧ (Jvm.Cond.and given_1 narrow_1).before #[Value.ref b] s = true

section ZCI
variable {X : zC} {w : zV} {Q : State → Prop} {k n : Nat} {N : Nat} {h : zH} {pc pc' : Nat} {lv : List (Nat × Value)} {st : List Value} {own : String} {cc : ByteArray} {nL : Nat} {ret : Option FieldType} {rm : Room}
theorem z_callI (C : zK X w own cc nL ret rm) {i m a : Nat} {y : MethodName} {cc' : ByteArray} {nL' : Nat} {rm' : Room} {N' : Nat} {h' : zH} {v : Option Value} {As : List Value} {st' : List Value} {x : Bool} (hM : zM w y cc' nL' none rm' x N N' h (.ref (zo w + a) :: As) v h') (hY : zY y cc' nL' none m) (hy : y.name = "<init>") (hl : Cond.methodLink own i y ∈ zG) (hi : Cond.instanceMethod y ∈ zG) (hR : zRm rm' rm nL' = true) (hm : As.length = m) (hst : Nat.ble ((st.map fun v => v.category).sum) 8 = true) (stk : As.reverse ++ .ref (zo w + a) :: st = st') (hf : (Nat.ble (k + rm'.cells) rm.cells && Nat.ble (n + rm'.slots) rm.slots) = true) (d : decode cc pc = .ok (.invokespecial i, 3)) (he : pc + 3 = pc')
    (kk : zZ X w Q (k + rm'.cells) (n + rm'.slots) x N' h' pc' lv (v.toList ++ st)) : zZ X w Q k n x N h pc lv st' := by
  subst stk
  refine z_fin (y := y) (args' := (Value.ref (zo w + a) :: As).toArray) (fun H locs ls hP hs hS hL => ?_) he kk
  have hts := C.2.2.2.2.2.1
  obtain ⟨y1, y2, y3, y4, y5⟩ := hY
  have hR' := zRm_s hR
  have hRm : X.2.2.2.1 = rm := C.2.2.2.2.2.2.2.2.1
  simp only [Bool.and_eq_true] at hf
  have hMx : Met X.2.1 y (.code y cc' nL' none :: zG) rm' (va_Pc (.ref (zo w + a) :: As) (zPre w x N h)) (zMQ w v x N' h') rm'.cells rm'.slots (fun q => zo w ≤ q) := by rw [C.2.1]; exact hM
  exact va_runI (Ts := zG) (own := own) (nL := nL) (As := As) (n := m) (g := F0 X.2.2.2.2.2.1 pc ls (As.reverse ++ .ref (zo w + a) :: st)) ⟨C.1, C.2.2.1, C.2.2.2.1, C.2.2.2.2.1, hts⟩ hMx
    ⟨callB_of m hts (zG_cons y1) rfl rfl rfl (hts _ y2) (hts _ hl) ⟨y3, y4, y5⟩ (by rw [hRm]; exact ⟨hR'.1, by omega⟩), hy, hts _ hi⟩
    ⟨zWd_blind w x N h _, fun U hU hW => ⟨rfl, ⟨by rw [hU]; exact hP, va_K.moved hW.alike C.2.2.2.2.2.2.2.2.2.1, by rw [hU]; exact hs⟩, by rw [hU]; exact zE.next hW hS.2.1 C.2.2.2.2.2.2.2.2.2.2⟩⟩ rfl hm (hL.1.trans C.2.2.2.1) rfl (by show 2 * 0 + _ ≤ 8; rw [Nat.mul_zero, Nat.zero_add]; exact Nat.le_of_ble_eq_true hst) d ⟨by rw [hRm]; exact Nat.le_of_ble_eq_true hf.1, by rw [hRm]; exact Nat.le_of_ble_eq_true hf.2⟩
end ZCI
def md0 : MdT := (0, vp_updL (fun _ => 0) 2 25, (fun _ => 0), (fun _ => 0), 0, 0, (fun _ => 0), 0, -1, 0, 0, 0, 0, 0, 0, 0, (fun _ => 0))
theorem st_E {s : State} {b : Nat} {l : Launch} {D : va_G} {ar : Nat → ClassId} {sa sv : Nat → Nat} (hflags : l.flags = flags0) (hts : ∀ w ∈ lw_tbl, w.before #[Value.ref b] s = true) (hl : ∀ c ∈ lw_leaf, c.before #[Value.ref b] s = true)
    (hS : ∀ (i : Nat) (q : String × Nat × String × List Int32), zSt[i]? = some q → (Term.string q.1 q.2.1).eval #[Value.ref b] s none [] s = some (.ref (sa i)) ∧ va_O "java/lang/String" (sa i) (fun q => s.heap.size ≤ q) s s.heap ∧ va_OF "java/lang/String" "coder" "B" (.int 0) (sa i) (fun q => s.heap.size ≤ q) s s.heap ∧ va_OF "java/lang/String" "value" "[B" (.ref (sv i)) (sa i) (fun q => s.heap.size ≤ q) s s.heap ∧ va_T .byte (sv i) q.2.2.2.length (fun j => .int (q.2.2.2.getD j 0)) (fun q => s.heap.size ≤ q) s s.heap) : zE (l, D, ar, s.heap.size, sa, sv) s s.heap := by
  have hA : ∀ a : Nat, a < s.heap.size → ¬ (fun q : Nat => s.heap.size ≤ q) a := fun a h => Nat.not_le.mpr h
  refine ⟨⟨?_, fun i q h => vk_R.of (hts _ (st_tab q (List.mem_of_getElem? h))) (hS i q h).1, fun i q h => va_Nw.of rfl (hts _ (st_nest q (List.mem_of_getElem? h))), fun i q h => va_Nc.of (hl _ (st_ncs q (List.mem_of_getElem? h))), va_AO.of (hts _ (by decide +kernel)), fun i q h => va_Nw.of rfl (hts _ (st_exs q (List.mem_of_getElem? h))), fun i q h => va_Nw.of rfl (hts _ (st_dcl q (List.mem_of_getElem? h)))⟩, fun i q h => (hS i q h).2, ?_, ?_, ?_, ?_⟩
  · show l.stackTraces = false
    unfold Launch.stackTraces
    rw [hflags]
    decide
  · exact va_Zof (hts (.laysStatic "java/lang/String" "COMPACT_STRINGS" "Z") (by decide +kernel)) (hts (.initialized "java/lang/String") (by decide +kernel)) (va_eqt (hl _ (List.mem_of_getElem? (i := 6) (by decide +kernel)))) hA
  · exact va_Zqof (hts (.laysStatic "jdk/internal/util/Preconditions" "SIOOBE_FORMATTER" "Ljava/util/function/BiFunction;") (by decide +kernel)) (hts (.initialized "jdk/internal/util/Preconditions") (by decide +kernel)) (hl _ (List.mem_of_getElem? (i := 7) (by decide +kernel))) hA
  · exact vx_Zqof (hts (.laysStatic "java/lang/Throwable" "UNASSIGNED_STACK" "[Ljava/lang/StackTraceElement;") (by decide +kernel)) (hts (.initialized "java/lang/Throwable") (by decide +kernel)) (hl _ (List.mem_of_getElem? (i := 4) (by decide +kernel))) hA
  · exact vx_Zqof (hts (.laysStatic "java/lang/Throwable" "SUPPRESSED_SENTINEL" "Ljava/util/List;") (by decide +kernel)) (hts (.initialized "java/lang/Throwable") (by decide +kernel)) (hl _ (List.mem_of_getElem? (i := 5) (by decide +kernel))) hA
theorem gW_start {w : zV} {h : zH} : ∀ j, j < 396 → va_up (zu (va_up (lgH w 0 (hI w 0 (va_up h 0 (.inr (8, [.null, .null, .int 0, .int 0, .null])))) (lg_0s 0)) 389 (.inr (9, [.int 0, .null, .null, .null, .int 0, .int 0, .null, .int 0, .int 0, .int 0, .int 0, .int 0, .int 0, .int 0, .int 0, .int 0, .null]))) 389 [(0, .inr (9, [.int 0, .ref (zo w + (389 + 1)), .ref (zo w + (389 + 2)), .ref (zo w + (389 + 3)), .int 0, .int 0, .ref (zo w + (389 + 4)), .int 0, .int (-1 : Int32), .int 0, .int 0, .int 0, .int 0, .int 0, .int 0, .int 0, .ref (zo w + (389 + 5))])), (1, .inl (w.2.2.1 1, 22500, .inr (.inl (vp_updL (fun _ => 0) 2 25)))), (2, .inl (w.2.2.1 1, 2500, .inr (.inl (fun _ => 0)))), (3, .inl (w.2.2.1 1, 2500, .inr (.inl (fun _ => 0)))), (4, .inl (w.2.2.1 0, 900, .inl (fun _ => 0))), (5, .inl (w.2.2.1 1, 128, .inr (.inl (fun _ => 0))))]) 395 (.inl (w.2.2.1 1, 1, .inr (.inl (fun _ => 0)))) j = gW w (hI w 0 h) (lg_0s 0) md0 (fun _ => 0) j := by
  intro j hj
  by_cases h1 : j < 389
  · have h2 : ¬ j = 395 := by omega
    have h3 : ¬ 389 ≤ j := by omega
    have h4 : ¬ j = 389 := by omega
    have e1 : ∀ (f : zH) (L : List (Nat × va_E)), zu f 389 L j = f j := fun f L => if_neg h3
    have e2 : ∀ (f : zH) (e : va_E), va_up f 395 e j = f j := fun f e => by simp [va_up, h2]
    have e3 : ∀ (f : zH) (e : va_E), va_up f 389 e j = f j := fun f e => by simp [va_up, h4]
    rw [e2, e1, e3]
    unfold gW
    by_cases c : lin 0 j
    · rw [lg_in c, lg_in c]
    · have hh : lhole (j - 0) := by omega
      rw [lg_out c, lg_out c, e1, hI_at (Nat.zero_le _) (by omega) hh, hI_at (Nat.zero_le _) (by omega) hh]
  · have h2 : j = 389 ∨ j = 390 ∨ j = 391 ∨ j = 392 ∨ j = 393 ∨ j = 394 ∨ j = 395 := by omega
    rcases h2 with h | h | h | h | h | h | h <;> subst h
    · exact (gW_c (w := w) (h0 := hI w 0 h) (σ := lg_0s 0) (ρ := md0) (u := fun _ => 0) (N := 396) (k := 0) (by omega) rfl).2.symm
    · exact (gW_c (w := w) (h0 := hI w 0 h) (σ := lg_0s 0) (ρ := md0) (u := fun _ => 0) (N := 396) (k := 1) (by omega) rfl).2.symm
    · exact (gW_c (w := w) (h0 := hI w 0 h) (σ := lg_0s 0) (ρ := md0) (u := fun _ => 0) (N := 396) (k := 2) (by omega) rfl).2.symm
    · exact (gW_c (w := w) (h0 := hI w 0 h) (σ := lg_0s 0) (ρ := md0) (u := fun _ => 0) (N := 396) (k := 3) (by omega) rfl).2.symm
    · exact (gW_c (w := w) (h0 := hI w 0 h) (σ := lg_0s 0) (ρ := md0) (u := fun _ => 0) (N := 396) (k := 4) (by omega) rfl).2.symm
    · exact (gW_c (w := w) (h0 := hI w 0 h) (σ := lg_0s 0) (ρ := md0) (u := fun _ => 0) (N := 396) (k := 5) (by omega) rfl).2.symm
    · exact (gW_c (w := w) (h0 := hI w 0 h) (σ := lg_0s 0) (ρ := md0) (u := fun _ => 0) (N := 396) (k := 6) (by omega) rfl).2.symm
theorem PrOK_13 {w : zV} {h : zH} : PrOK w 396 (hI w 0 h) (pgT (lg_P0 (0 + 13))) := by
  have e : ∀ k, k < 3 → hI w 0 h (13 + k) = pgi w 13 k := fun k hk => by
    rw [hI_at (Nat.zero_le _) (by omega) (by omega)]
    unfold icell
    rw [if_pos (by omega), Nat.sub_zero, Nat.add_sub_cancel_left]
  exact ⟨⟨by show 13 + 0 < 396; omega, e 0 (by omega)⟩, ⟨_, by show 13 + 1 < 396; omega, e 1 (by omega)⟩, ⟨by show 13 + 2 < 396; omega, e 2 (by omega)⟩, by show ¬ lin 0 13; omega, by show ¬ lin 0 (13 + 1); omega, by show ¬ lin 0 (13 + 2); omega, Or.inl (by show 13 + 2 < 389; omega)⟩
theorem PrOK_i {w : zV} {h : zH} {i : Nat} (hi : i < 9) : PrOK w 396 (hI w 0 h) (pgT (lg_P0 (0 + (74 + 35 * i) + 10))) := by
  have hh : ∀ k, k < 3 → lhole (0 + (74 + 35 * i) + 10 + k - 0) := fun k hk => by
    have e2 : (0 + (74 + 35 * i) + 10 + k - 0 - 74) % 35 = 10 + k := by omega
    unfold lhole
    rw [e2]
    omega
  have e : ∀ k, k < 3 → hI w 0 h (0 + (74 + 35 * i) + 10 + k) = pgi w (0 + (74 + 35 * i) + 10) k := fun k hk => by
    rw [hI_at (Nat.zero_le _) (by omega) (hh k hk)]
    have e1 : (0 + (74 + 35 * i) + 10 + k - 0 - 74) / 35 = i := by omega
    have e2 : (0 + (74 + 35 * i) + 10 + k - 0 - 74) % 35 - 10 = k := by omega
    unfold icell
    rw [if_neg (by omega), if_neg (by omega), e1, e2]
  exact ⟨⟨by show 0 + (74 + 35 * i) + 10 + 0 < 396; omega, e 0 (by omega)⟩, ⟨_, by show 0 + (74 + 35 * i) + 10 + 1 < 396; omega, e 1 (by omega)⟩, ⟨by show 0 + (74 + 35 * i) + 10 + 2 < 396; omega, e 2 (by omega)⟩, fun z => z.2.2 (hh 0 (by omega)), fun z => z.2.2 (hh 1 (by omega)), fun z => z.2.2 (hh 2 (by omega)), Or.inl (by show 0 + (74 + 35 * i) + 10 + 2 < 389; omega)⟩
theorem lw_whole {J : (PgT → Prop) → Nat → LgT → MdT → Prop} (hJ0 : ∀ ok : PgT → Prop, (∀ i, i < 9 → ok (pgT (lg_P0 (0 + (74 + 35 * i) + 10)))) → ok (pgT (lg_P0 (0 + 13))) → J ok 0 (lg_0s 0) md0) (hJ : ∀ ok t σ ρ, t < 512 → J ok t σ ρ → ∀ q kv, lw_LS (J ok (t + 1)) (fun T σ' ρ' => ∀ ok' : PgT → Prop, (∀ T, ok T → ok' T) → ok' T → J ok' (t + 1) σ' ρ') σ ρ q kv) (hJm : ∀ ok t σ ρ, J ok t σ ρ → J ok (t + 1) σ ρ) (hJo : ∀ (ok ok' : PgT → Prop) t σ ρ, (∀ T, ok T → ok' T) → J ok t σ ρ → J ok' t σ ρ) (hJp : ∀ ok t σ ρ, J ok t σ ρ → ok (pgT (σ.2.2.2.2.2 σ.1.toNatClampNeg)) ∧ ∃ T, ok T ∧ T.1 = rj_rd_ga σ.2.2.1) (hJs : ∀ ok t σ ρ s, J ok t σ ρ → J ok t (lgs σ (pj_pr_pricing (σ.2.2.2.2.2 σ.1.toNatClampNeg)) s) ρ) {p : Program} {e : Env} {s : State} {m : MethodId} {below : List Frame} {meth : Method} {c : Code} (l : Launch) (hflags : l.flags = flags0) {b L : Nat} {xs : Nat → Int32} (hL : L ≤ 3072) (C0 : lw_At p s m meth c b L xs) : W p l e room_1 s m #[Value.ref b] below meth c s.heap [] 0 0 (lw_Z below #[Value.ref b] s) (entryFrame m ([Value.ref b] : List Value).toArray 8) := by
  obtain ⟨hx, hb, hr, hml, hown, hts, hX, hbl, hlocks, hgv⟩ := id C0
  have hA : ∀ a : Nat, a < s.heap.size → ¬ (fun q : Nat => s.heap.size ≤ q) a := fun a h => Nat.not_le.mpr h
  have hG : ∀ q ∈ zG, q.before #[Value.ref b] s = true := fun q hq => hts q (List.mem_filter.mp hq).1
  have hl := flat_of_before _ hgv
  obtain ⟨D, ar, hK⟩ := st_K hG (hts _ (by decide +kernel))
  obtain ⟨sa, sv, hS⟩ := st_S hl hA
  have hE : zE (l, D, ar, s.heap.size, sa, sv) s s.heap := st_E hflags hts hl hS
  have C : zK (p, l, e, room_1, s, m, #[Value.ref b], below, meth, c) (l, D, ar, s.heap.size, sa, sv) RL cL_law 8 (some .boolean) room_1 := ⟨hx, rfl, hb, hml, hown, hG, hlocks, hr, rfl, hK, hE⟩
  have K : ∀ w : zV, w = (l, D, ar, s.heap.size, sa, sv) → zK (p, l, e, room_1, s, m, #[Value.ref b], below, meth, c) w RL cL_law 8 (some .boolean) room_1 → zZ (p, l, e, room_1, s, m, #[Value.ref b], below, meth, c) w (lw_Z below #[Value.ref b] s) 0 0 true 0 (fun _ => .inr (8, [.null, .null, .int 0, .int 0, .null])) 0 (lv_args 0 [.ref b]) [] := by
    intro w hw C
    have hzo : zo w = s.heap.size := by rw [hw]
    refine z_pick (lv' := [(0, .ref b)]) [0] rfl ?_
    refine z_new (pc' := 3) (h' := va_up (fun _ => .inr (8, [.null, .null, .int 0, .int 0, .null])) 0 (.inr (8, [.null, .null, .int 0, .int 0, .null]))) C zci_8 zw_23 zw_24 zw_1 zdf_8 rfl rfl dL_law_0 rfl ?_
    refine z_dup (pc' := 4) C dL_law_3 rfl rfl ?_
    refine z_callI (pc' := 7) (N' := 389) (h' := lgH w 0 (hI w 0 (va_up (fun _ => .inr (8, [.null, .null, .int 0, .int 0, .null])) 0 (.inr (8, [.null, .null, .int 0, .int 0, .null])))) (lg_0s 0)) (st := [.ref (zo w + 0)]) C (c_X8_init (a := 0) ⟨by omega, by simp [va_up]⟩) zy_X8_init rfl zw_25 zw_26 rfl rfl rfl rfl rfl dL_law_4 rfl ?_
    refine z_astore_n (pc' := 8) C [(1, .ref (zo w + 0)), (0, .ref b)] dL_law_7 rfl rfl rfl rfl ?_
    refine z_new (pc' := 11) (h' := va_up (lgH w 0 (hI w 0 (va_up (fun _ => .inr (8, [.null, .null, .int 0, .int 0, .null])) 0 (.inr (8, [.null, .null, .int 0, .int 0, .null])))) (lg_0s 0)) 389 (.inr (9, [.int 0, .null, .null, .null, .int 0, .int 0, .null, .int 0, .int 0, .int 0, .int 0, .int 0, .int 0, .int 0, .int 0, .int 0, .null]))) C zci_9 zw_1177 zw_1178 zw_11 zdf_9 rfl rfl dL_law_8 rfl ?_
    refine z_dup (pc' := 12) C dL_law_11 rfl rfl ?_
    refine z_callI (pc' := 15) (N' := 395) (h' := zu (va_up (lgH w 0 (hI w 0 (va_up (fun _ => .inr (8, [.null, .null, .int 0, .int 0, .null])) 0 (.inr (8, [.null, .null, .int 0, .int 0, .null])))) (lg_0s 0)) 389 (.inr (9, [.int 0, .null, .null, .null, .int 0, .int 0, .null, .int 0, .int 0, .int 0, .int 0, .int 0, .int 0, .int 0, .int 0, .int 0, .null]))) 389 [(0, .inr (9, [.int 0, .ref (zo w + (389 + 1)), .ref (zo w + (389 + 2)), .ref (zo w + (389 + 3)), .int 0, .int 0, .ref (zo w + (389 + 4)), .int 0, .int (-1 : Int32), .int 0, .int 0, .int 0, .int 0, .int 0, .int 0, .int 0, .ref (zo w + (389 + 5))])), (1, .inl (w.2.2.1 1, 22500, .inr (.inl (vp_updL (fun _ => 0) 2 25)))), (2, .inl (w.2.2.1 1, 2500, .inr (.inl (fun _ => 0)))), (3, .inl (w.2.2.1 1, 2500, .inr (.inl (fun _ => 0)))), (4, .inl (w.2.2.1 0, 900, .inl (fun _ => 0))), (5, .inl (w.2.2.1 1, 128, .inr (.inl (fun _ => 0))))]) (st := [.ref (zo w + 389)]) C (c_X9_init (a := 389) ⟨by omega, by simp [va_up]⟩) zy_X9_init rfl zw_1179 zw_1180 rfl rfl rfl rfl rfl dL_law_12 rfl ?_
    refine z_astore_n (pc' := 16) C [(2, .ref (zo w + 389)), (1, .ref (zo w + 0)), (0, .ref b)] dL_law_15 rfl rfl rfl rfl ?_
    refine z_iconst (pc' := 17) C dL_law_16 zk_iconst_1 rfl ?_
    refine z_newa (pc' := 19) (atype := .long) (ty := .long) (j := 1) (L := 1) (a0 := (1, .inr (.inl (fun _ => 0)))) (h' := va_up (zu (va_up (lgH w 0 (hI w 0 (va_up (fun _ => .inr (8, [.null, .null, .int 0, .int 0, .null])) 0 (.inr (8, [.null, .null, .int 0, .int 0, .null])))) (lg_0s 0)) 389 (.inr (9, [.int 0, .null, .null, .null, .int 0, .int 0, .null, .int 0, .int 0, .int 0, .int 0, .int 0, .int 0, .int 0, .int 0, .int 0, .null]))) 389 [(0, .inr (9, [.int 0, .ref (zo w + (389 + 1)), .ref (zo w + (389 + 2)), .ref (zo w + (389 + 3)), .int 0, .int 0, .ref (zo w + (389 + 4)), .int 0, .int (-1 : Int32), .int 0, .int 0, .int 0, .int 0, .int 0, .int 0, .int 0, .ref (zo w + (389 + 5))])), (1, .inl (w.2.2.1 1, 22500, .inr (.inl (vp_updL (fun _ => 0) 2 25)))), (2, .inl (w.2.2.1 1, 2500, .inr (.inl (fun _ => 0)))), (3, .inl (w.2.2.1 1, 2500, .inr (.inl (fun _ => 0)))), (4, .inl (w.2.2.1 0, 900, .inl (fun _ => 0))), (5, .inl (w.2.2.1 1, 128, .inr (.inl (fun _ => 0))))]) 395 (.inl (w.2.2.1 1, 1, .inr (.inl (fun _ => 0))))) C zw_87 rfl rfl (fun _ _ h => h) (zna_1 1) (by decide) (by decide) rfl rfl rfl dL_law_17 rfl ?_
    refine z_astore_n (pc' := 20) C [(3, .ref (zo w + 395)), (2, .ref (zo w + 389)), (1, .ref (zo w + 0)), (0, .ref b)] dL_law_19 rfl rfl rfl rfl ?_
    refine z_iconst (pc' := 21) C dL_law_20 zk_iconst_0 rfl ?_
    refine z_istore (pc' := 23) C (lw_lv w b (Int32.ofNat (6 * 0))) dL_law_21 rfl rfl rfl ?_
    refine z_agree (h' := gW w (hI w 0 (fun _ => .inr (8, [.null, .null, .int 0, .int 0, .null]))) (lg_0s 0) md0 (fun _ => 0)) gW_start ?_
    refine z_drop ?_
    refine lw_loop (Q := lw_Z below #[Value.ref b] s) ⟨C, hX, hbl, by rw [hzo]; exact hbl⟩ hL hJ hJm hJo hJp hJs (fun k' n' N h0 σ ρ u hk hn => ?_) 512 0 _ _ 396 _ _ _ _ rfl (by decide) (by decide) ⟨Nat.le_refl _, Or.inl rfl⟩ (hJ0 _ (fun i hi => PrOK_i hi) PrOK_13)
    intro H locs ls hP hs hS hL
    exact va_forget (fun q hq => by rw [← hzo]; exact hS.2.2 q hq) (W.widen hk hn (lw_ret hx hb hr hlocks dL_law_2714))
  have hlv := lv_entry ([Value.ref b]) (n := 8) (Nat.le_of_ble_eq_true rfl)
  rw [lg_entry_eq]
  generalize (lg_sl ([Value.ref b]) ++ List.replicate (8 - (lg_sl ([Value.ref b])).length) Slot.unset).toArray = ls at hlv ⊢
  exact K _ rfl C s.heap [] ls (fun k q h => by simp [zl] at h) (fun _ => rfl) va_S.rf (by
    show lv_has ls c.maxLocals _
    rw [hml]
    exact hlv)

