theorem dJ0_length_8abf5_0 : decode cJ0_length_8abf5 0 = .ok (.aload_n 0, 1) := by decide +kernel
theorem dJ0_length_8abf5_1 : decode cJ0_length_8abf5 1 = .ok (.getfield 9, 3) := by decide +kernel
theorem dJ0_length_8abf5_4 : decode cJ0_length_8abf5 4 = .ok (.arraylength, 1) := by decide +kernel
theorem dJ0_length_8abf5_5 : decode cJ0_length_8abf5 5 = .ok (.aload_n 0, 1) := by decide +kernel
theorem dJ0_length_8abf5_6 : decode cJ0_length_8abf5 6 = .ok (.invokevirtual 335, 3) := by decide +kernel
theorem dJ0_length_8abf5_9 : decode cJ0_length_8abf5 9 = .ok (.ishr, 1) := by decide +kernel
theorem dJ0_length_8abf5_10 : decode cJ0_length_8abf5 10 = .ok (.ireturn, 1) := by decide +kernel
theorem dJ0_charAt_5068e_0 : decode cJ0_charAt_5068e 0 = .ok (.aload_n 0, 1) := by decide +kernel
theorem dJ0_charAt_5068e_1 : decode cJ0_charAt_5068e 1 = .ok (.invokevirtual 492, 3) := by decide +kernel
theorem dJ0_charAt_5068e_4 : decode cJ0_charAt_5068e 4 = .ok (.ifCond .eq 12, 3) := by decide +kernel
theorem dJ0_charAt_5068e_7 : decode cJ0_charAt_5068e 7 = .ok (.aload_n 0, 1) := by decide +kernel
theorem dJ0_charAt_5068e_8 : decode cJ0_charAt_5068e 8 = .ok (.getfield 9, 3) := by decide +kernel
theorem dJ0_charAt_5068e_11 : decode cJ0_charAt_5068e 11 = .ok (.iload_n 1, 1) := by decide +kernel
theorem dJ0_charAt_5068e_12 : decode cJ0_charAt_5068e 12 = .ok (.invokestatic 495, 3) := by decide +kernel
theorem dJ0_charAt_5068e_15 : decode cJ0_charAt_5068e 15 = .ok (.ireturn, 1) := by decide +kernel
theorem dJ0_charAt_5068e_16 : decode cJ0_charAt_5068e 16 = .ok (.aload_n 0, 1) := by decide +kernel
theorem dJ0_charAt_5068e_17 : decode cJ0_charAt_5068e 17 = .ok (.getfield 9, 3) := by decide +kernel
theorem dJ0_charAt_5068e_20 : decode cJ0_charAt_5068e 20 = .ok (.iload_n 1, 1) := by decide +kernel
theorem dJ0_charAt_5068e_21 : decode cJ0_charAt_5068e 21 = .ok (.invokestatic 498, 3) := by decide +kernel
theorem dJ0_charAt_5068e_24 : decode cJ0_charAt_5068e 24 = .ok (.ireturn, 1) := by decide +kernel
theorem dJ0_coder_7d493_0 : decode cJ0_coder_7d493 0 = .ok (.getstatic 38, 3) := by decide +kernel
theorem dJ0_coder_7d493_3 : decode cJ0_coder_7d493 3 = .ok (.ifCond .eq 10, 3) := by decide +kernel
theorem dJ0_coder_7d493_6 : decode cJ0_coder_7d493 6 = .ok (.aload_n 0, 1) := by decide +kernel
theorem dJ0_coder_7d493_7 : decode cJ0_coder_7d493 7 = .ok (.getfield 15, 3) := by decide +kernel
theorem dJ0_coder_7d493_10 : decode cJ0_coder_7d493 10 = .ok (.goto 4, 3) := by decide +kernel
theorem dJ0_coder_7d493_13 : decode cJ0_coder_7d493 13 = .ok (.iconst 1, 1) := by decide +kernel
theorem dJ0_coder_7d493_14 : decode cJ0_coder_7d493 14 = .ok (.ireturn, 1) := by decide +kernel
theorem dJ0_isLatin1_aae02_0 : decode cJ0_isLatin1_aae02 0 = .ok (.getstatic 38, 3) := by decide +kernel
theorem dJ0_isLatin1_aae02_3 : decode cJ0_isLatin1_aae02 3 = .ok (.ifCond .eq 14, 3) := by decide +kernel
theorem dJ0_isLatin1_aae02_6 : decode cJ0_isLatin1_aae02 6 = .ok (.aload_n 0, 1) := by decide +kernel
theorem dJ0_isLatin1_aae02_7 : decode cJ0_isLatin1_aae02 7 = .ok (.getfield 15, 3) := by decide +kernel
theorem dJ0_isLatin1_aae02_10 : decode cJ0_isLatin1_aae02 10 = .ok (.ifCond .ne 7, 3) := by decide +kernel
theorem dJ0_isLatin1_aae02_13 : decode cJ0_isLatin1_aae02 13 = .ok (.iconst 1, 1) := by decide +kernel
theorem dJ0_isLatin1_aae02_14 : decode cJ0_isLatin1_aae02 14 = .ok (.goto 4, 3) := by decide +kernel
theorem dJ0_isLatin1_aae02_17 : decode cJ0_isLatin1_aae02 17 = .ok (.iconst 0, 1) := by decide +kernel
theorem dJ0_isLatin1_aae02_18 : decode cJ0_isLatin1_aae02 18 = .ok (.ireturn, 1) := by decide +kernel
theorem dJ0_checkIndex_df160_0 : decode cJ0_checkIndex_df160 0 = .ok (.iload_n 0, 1) := by decide +kernel
theorem dJ0_checkIndex_df160_1 : decode cJ0_checkIndex_df160 1 = .ok (.iload_n 1, 1) := by decide +kernel
theorem dJ0_checkIndex_df160_2 : decode cJ0_checkIndex_df160 2 = .ok (.getstatic 1053, 3) := by decide +kernel
theorem dJ0_checkIndex_df160_5 : decode cJ0_checkIndex_df160 5 = .ok (.invokestatic 1059, 3) := by decide +kernel
theorem dJ0_checkIndex_df160_8 : decode cJ0_checkIndex_df160 8 = .ok (.pop, 1) := by decide +kernel
theorem dJ0_checkIndex_df160_9 : decode cJ0_checkIndex_df160 9 = .ok (.return_, 1) := by decide +kernel
theorem dJ1_charAt_3b067_0 : decode cJ1_charAt_3b067 0 = .ok (.iload_n 1, 1) := by decide +kernel
theorem dJ1_charAt_3b067_1 : decode cJ1_charAt_3b067 1 = .ok (.aload_n 0, 1) := by decide +kernel
theorem dJ1_charAt_3b067_2 : decode cJ1_charAt_3b067 2 = .ok (.arraylength, 1) := by decide +kernel
theorem dJ1_charAt_3b067_3 : decode cJ1_charAt_3b067 3 = .ok (.invokestatic 9, 3) := by decide +kernel
theorem dJ1_charAt_3b067_6 : decode cJ1_charAt_3b067 6 = .ok (.aload_n 0, 1) := by decide +kernel
theorem dJ1_charAt_3b067_7 : decode cJ1_charAt_3b067 7 = .ok (.iload_n 1, 1) := by decide +kernel
theorem dJ1_charAt_3b067_8 : decode cJ1_charAt_3b067 8 = .ok (.baload, 1) := by decide +kernel
theorem dJ1_charAt_3b067_9 : decode cJ1_charAt_3b067 9 = .ok (.sipush 255, 3) := by decide +kernel
theorem dJ1_charAt_3b067_12 : decode cJ1_charAt_3b067 12 = .ok (.iand, 1) := by decide +kernel
theorem dJ1_charAt_3b067_13 : decode cJ1_charAt_3b067 13 = .ok (.i2c, 1) := by decide +kernel
theorem dJ1_charAt_3b067_14 : decode cJ1_charAt_3b067 14 = .ok (.ireturn, 1) := by decide +kernel
theorem dJ3_checkIndex_8e157_0 : decode cJ3_checkIndex_8e157 0 = .ok (.iload_n 0, 1) := by decide +kernel
theorem dJ3_checkIndex_8e157_1 : decode cJ3_checkIndex_8e157 1 = .ok (.ifCond .lt 8, 3) := by decide +kernel
theorem dJ3_checkIndex_8e157_4 : decode cJ3_checkIndex_8e157 4 = .ok (.iload_n 0, 1) := by decide +kernel
theorem dJ3_checkIndex_8e157_5 : decode cJ3_checkIndex_8e157 5 = .ok (.iload_n 1, 1) := by decide +kernel
theorem dJ3_checkIndex_8e157_6 : decode cJ3_checkIndex_8e157 6 = .ok (.if_icmp .lt 10, 3) := by decide +kernel
theorem dJ3_checkIndex_8e157_9 : decode cJ3_checkIndex_8e157 9 = .ok (.aload_n 2, 1) := by decide +kernel
theorem dJ3_checkIndex_8e157_10 : decode cJ3_checkIndex_8e157 10 = .ok (.iload_n 0, 1) := by decide +kernel
theorem dJ3_checkIndex_8e157_11 : decode cJ3_checkIndex_8e157 11 = .ok (.iload_n 1, 1) := by decide +kernel
theorem dJ3_checkIndex_8e157_12 : decode cJ3_checkIndex_8e157 12 = .ok (.invokestatic 95, 3) := by decide +kernel
theorem dJ3_checkIndex_8e157_15 : decode cJ3_checkIndex_8e157 15 = .ok (.athrow, 1) := by decide +kernel
theorem dJ3_checkIndex_8e157_16 : decode cJ3_checkIndex_8e157 16 = .ok (.iload_n 0, 1) := by decide +kernel
theorem dJ3_checkIndex_8e157_17 : decode cJ3_checkIndex_8e157 17 = .ok (.ireturn, 1) := by decide +kernel
section ZSTR
variable {X : zC} {w : zV} {Q : State → Prop} {k n : Nat} {x : Bool} {N : Nat} {h : zH} {pc pc' : Nat} {lv : List (Nat × Value)} {st : List Value} {own : String} {cc : ByteArray} {nL : Nat} {ret : Option FieldType} {rm : Room}
theorem zE_str (C : zK X w own cc nL ret rm) {i : Nat} {q : String × Nat × String × List Int32} (hi : zSt[i]? = some q) : zStr q.2.2.2 (zsa w i) (zsv w i) w X.2.2.2.2.1 X.2.2.2.2.1.heap := C.2.2.2.2.2.2.2.2.2.2.2.1 i q hi
theorem z_ldcS (C : zK X w own cc nL ret rm) {j : Nat} (i : Nat) {tx : String} {bs : List Int32} (hi : zSt[i]? = some (own, j, tx, bs)) (d : decode cc pc = .ok (.ldc j, 2)) (he : pc + 2 = pc') (kk : zZ X w Q k n x N h pc' lv (.ref (zsa w i) :: st)) : zZ X w Q k n x N h pc lv st := by
  subst he
  exact fun H locs ls hP hs hS hL => va_ldcS C.1 C.2.2.1 C.2.2.2.2.1 (C.2.2.2.2.2.2.2.2.2.2.1.2.1 i _ hi) d (kk H locs ls hP hs hS hL)
/-- a field of a text constant -/
theorem z_sgetf (C : zK X w own cc nL ret rm) {j q : Nat} {v : Value} {nm ds : String} (hE : va_OF "java/lang/String" nm ds v q (zA w) X.2.2.2.2.1 X.2.2.2.2.1.heap) (hw : Cond.fieldLink own j "java/lang/String" nm ds ∈ zG) (d : decode cc pc = .ok (.getfield j, 3)) (he : pc + 3 = pc') (kk : zZ X w Q k n x N h pc' lv (v :: st)) : zZ X w Q k n x N h pc lv (.ref q :: st) := by
  subst he
  exact fun H locs ls hP hs hS hL => vk_getf C.1 C.2.2.1 hE hS C.2.2.2.2.1 (C.2.2.2.2.2.1 _ hw) (fun _ z => z) d (kk H locs ls hP hs hS hL)
theorem z_gets (C : zK X w own cc nL ret rm) {j : Nat} {v : Value} {Cn nm ds : String} (hZ : va_Z Cn nm ds v (zA w) X.2.2.2.2.1 X.2.2.2.2.1.heap) (hw : Cond.fieldLink own j Cn nm ds ∈ zG) (d : decode cc pc = .ok (.getstatic j, 3)) (he : pc + 3 = pc') (kk : zZ X w Q k n x N h pc' lv (v :: st)) : zZ X w Q k n x N h pc lv st := by
  subst he
  exact fun H locs ls hP hs hS hL => va_gets C.1 C.2.2.1 hZ hS C.2.2.2.2.1 (C.2.2.2.2.2.1 _ hw) (fun _ z => z) d (kk H locs ls hP hs hS hL)
theorem z_tlen (C : zK X w own cc nL ret rm) {t M : Nat} {f : Nat → Value} {ty : FieldType} (hT : va_T ty t M f (zA w) X.2.2.2.2.1 X.2.2.2.2.1.heap) {v : Int32} (hv : Int32.ofNat M = v) (d : decode cc pc = .ok (.arraylength, 1)) (he : pc + 1 = pc') (kk : zZ X w Q k n x N h pc' lv (.int v :: st)) : zZ X w Q k n x N h pc lv (.ref t :: st) := by
  subst he
  exact fun H locs ls hP hs hS hL => va_tlen C.1 C.2.2.1 hT hS hv d (kk H locs ls hP hs hS hL)
theorem z_tb (C : zK X w own cc nL ret rm) {t M : Nat} {f : Nat → Value} (hT : va_T .byte t M f (zA w) X.2.2.2.2.1 X.2.2.2.2.1.heap) {i : Int32} (hin : vp_in i M) {v : Value} (hv : f i.toNatClampNeg = v) (d : decode cc pc = .ok (.baload, 1)) (he : pc + 1 = pc') (kk : zZ X w Q k n x N h pc' lv (v :: st)) : zZ X w Q k n x N h pc lv (.int i :: .ref t :: st) := by
  subst he
  exact fun H locs ls hP hs hS hL => va_tb C.1 C.2.2.1 hT hS hin hv d (kk H locs ls hP hs hS hL)
theorem z_i2c (C : zK X w own cc nL ret rm) {x1 v : Int32} (hv : (x1.toUInt32 % 65536).toInt32 = v) (d : decode cc pc = .ok (.i2c, 1)) (he : pc + 1 = pc') (kk : zZ X w Q k n x N h pc' lv (.int v :: st)) : zZ X w Q k n x N h pc lv (.int x1 :: st) := by
  subst he
  exact fun H locs ls hP hs hS hL => lv_i2c C.1 C.2.2.1 d hv (kk H locs ls hP hs hS hL)
/-- the end of a method with an answer of a small type -/
theorem z_nret (C : zK X w own cc nL ret rm) {ty : FieldType} {v : Int32} (hr : ret = some ty) (hv : narrow ty (.int v) = .int v) (hk : rm.cells = k) (hn : rm.slots = n) (d : decode cc pc = .ok (.ireturn, 1)) : zZ X w (zQ X w rm (some (.int v)) x N h) k n x N h pc lv [.int v] := by
  subst hk hn hr
  intro H locs ls hP hs hS hL
  exact W.zret C.1 C.2.2.1 C.2.2.2.2.2.2.2.1 hv (fun t ht hW => ⟨⟨rfl, by rw [ht]; exact hP, va_K.moved hW.alike C.2.2.2.2.2.2.2.2.2.1, by rw [ht]; exact hs⟩, hS.F ht⟩) hS.2.2 d (hlocks := C.2.2.2.2.2.2.1)
theorem z_srec (C : zK X w own cc nL ret rm) {i : Nat} {q : String × Nat × String × List Int32} (hi : zSt[i]? = some q) (H : Heap) (locs : List Loc) (_ : va_P (zD w) vwCl (zl w N h) H) (hS : va_S (fun q => zo w ≤ q) X.2.2.2.2.1.heap H locs) : ∃ cell : Cell, H[zsa w i]? = some cell ∧ cell.vm.isStatics = false ∧ X.2.2.2.2.1.vm.findClass "java/lang/String" = some cell.cls := by
  obtain ⟨g, -⟩ := zE_str C hi
  obtain ⟨cell, h1, h2, h3, -⟩ := g.kept hS.2.1
  exact ⟨cell, h1, h2, h3⟩
end ZSTR
theorem zyJ_coder : zY yJ0_coder_7d493 cJ0_coder_7d493 1 (some .byte) 0 := ⟨zw_558, zw_16, by decide +kernel, by decide +kernel, by decide +kernel⟩
theorem zyJ_length : zY yJ0_length_8abf5 cJ0_length_8abf5 1 (some .int) 0 := ⟨zw_554, zw_16, by decide +kernel, by decide +kernel, by decide +kernel⟩
theorem zyJ_charAt : zY yJ0_charAt_5068e cJ0_charAt_5068e 2 (some .char) 1 := ⟨zw_564, zw_16, by decide +kernel, by decide +kernel, by decide +kernel⟩
theorem zyJ_isLatin1 : zY yJ0_isLatin1_aae02 cJ0_isLatin1_aae02 1 (some .boolean) 0 := ⟨zw_568, zw_16, by decide +kernel, by decide +kernel, by decide +kernel⟩
theorem zyJ_lcharAt : zY yJ1_charAt_3b067 cJ1_charAt_3b067 2 (some .char) 2 := ⟨zw_571, zw_17, by decide +kernel, by decide +kernel, by decide +kernel⟩
theorem zyJ_checkIndex : zY yJ0_checkIndex_df160 cJ0_checkIndex_df160 2 none 2 := ⟨zw_574, zw_16, by decide +kernel, by decide +kernel, by decide +kernel⟩
theorem zyJ_pcheckIndex : zY yJ3_checkIndex_8e157 cJ3_checkIndex_8e157 3 (some .int) 3 := ⟨zw_579, zw_18, by decide +kernel, by decide +kernel, by decide +kernel⟩
set_option maxRecDepth 20000 in
theorem c_J_coder {w : zV} {N : Nat} {h : zH} {i : Nat} {q : String × Nat × String × List Int32} (hi : zSt[i]? = some q) : zM w yJ0_coder_7d493 cJ0_coder_7d493 1 (some .byte) (zr 0 0) false N N h [.ref (zsa w i)] (some (.int 0)) h := by
  refine zM_of (by decide) rfl (fun X C _ => ?_)
  obtain ⟨-, g2, -⟩ := zE_str C hi
  refine z_pick (lv' := [(0, .ref (zsa w i))]) [0] rfl ?_
  refine z_gets (pc' := 3) C C.2.2.2.2.2.2.2.2.2.2.2.2.1 zw_559 dJ0_coder_7d493_0 rfl ?_
  refine z_if_eq (pc' := 6) (A := (none : Option Unit)) (B := some ()) (r := ()) C 13 (by decide) dJ0_coder_7d493_3 rfl rfl (fun g _ => absurd g (by decide)) (fun _ _ => ?_)
  refine z_aload_n (pc' := 7) C 0 dJ0_coder_7d493_6 rfl rfl rfl ?_
  refine z_sgetf (pc' := 10) C g2 zw_1718 dJ0_coder_7d493_7 rfl ?_
  refine z_goto C 14 dJ0_coder_7d493_10 rfl ?_
  exact z_nret C rfl (by decide) rfl rfl dJ0_coder_7d493_14
set_option maxRecDepth 20000 in
theorem c_J_length {w : zV} {N : Nat} {h : zH} {i : Nat} {q : String × Nat × String × List Int32} (hi : zSt[i]? = some q) : zM w yJ0_length_8abf5 cJ0_length_8abf5 1 (some .int) (zr 1 40) false N N h [.ref (zsa w i)] (some (.int (nI q.2.2.2.length >>> ((0 : Int32) &&& 31)))) h := by
  refine zM_of (by decide) rfl (fun X C _ => ?_)
  obtain ⟨-, g2, g3, g4⟩ := zE_str C hi
  refine z_pick (lv' := [(0, .ref (zsa w i))]) [0] rfl ?_
  refine z_aload_n (pc' := 1) C 0 dJ0_length_8abf5_0 rfl rfl rfl ?_
  refine z_sgetf (pc' := 4) C g3 zw_1717 dJ0_length_8abf5_1 rfl ?_
  refine z_tlen (pc' := 5) C g4 (v := nI q.2.2.2.length) rfl dJ0_length_8abf5_4 rfl ?_
  refine z_aload_n (pc' := 6) C 0 dJ0_length_8abf5_5 rfl rfl rfl ?_
  refine z_callR (pc' := 9) (st := [.int (nI q.2.2.2.length)]) C (As := []) (c_J_coder hi) zyJ_coder zw_555 zw_556 zw_557 (z_srec C hi) rfl rfl rfl rfl rfl dJ0_length_8abf5_6 rfl ?_
  refine z_ishr (pc' := 10) C dJ0_length_8abf5_9 rfl ?_
  exact z_iret C rfl rfl dJ0_length_8abf5_10
set_option maxRecDepth 20000 in
theorem c_J_isLatin1 {w : zV} {N : Nat} {h : zH} {i : Nat} {q : String × Nat × String × List Int32} (hi : zSt[i]? = some q) : zM w yJ0_isLatin1_aae02 cJ0_isLatin1_aae02 1 (some .boolean) (zr 0 0) false N N h [.ref (zsa w i)] (some (.int 1)) h := by
  refine zM_of (by decide) rfl (fun X C _ => ?_)
  obtain ⟨-, g2, -⟩ := zE_str C hi
  refine z_pick (lv' := [(0, .ref (zsa w i))]) [0] rfl ?_
  refine z_gets (pc' := 3) C C.2.2.2.2.2.2.2.2.2.2.2.2.1 zw_559 dJ0_isLatin1_aae02_0 rfl ?_
  refine z_if_eq (pc' := 6) (A := (none : Option Unit)) (B := some ()) (r := ()) C 17 (by decide) dJ0_isLatin1_aae02_3 rfl rfl (fun g _ => absurd g (by decide)) (fun _ _ => ?_)
  refine z_aload_n (pc' := 7) C 0 dJ0_isLatin1_aae02_6 rfl rfl rfl ?_
  refine z_sgetf (pc' := 10) C g2 zw_1718 dJ0_isLatin1_aae02_7 rfl ?_
  refine z_if_ne (pc' := 13) (A := (none : Option Unit)) (B := some ()) (r := ()) C 17 (by decide) dJ0_isLatin1_aae02_10 rfl rfl (fun g _ => absurd rfl g) (fun _ _ => ?_)
  refine z_iconst (pc' := 14) C dJ0_isLatin1_aae02_13 zk_iconst_1 rfl ?_
  refine z_goto C 18 dJ0_isLatin1_aae02_14 rfl ?_
  exact z_zret C zb_1 rfl rfl dJ0_isLatin1_aae02_18
set_option maxRecDepth 20000 in
theorem c_J_pcheck {w : zV} {N : Nat} {h : zH} {i m : Int32} {v : Value} (hv : v = .null ∨ ∃ t, v = .ref t) (h0 : ¬ i < 0) (h1 : i < m) : zM w yJ3_checkIndex_8e157 cJ3_checkIndex_8e157 3 (some .int) (zr 0 0) false N N h [.int i, .int m, v] (some (.int i)) h := by
  rcases hv with rfl | ⟨t, rfl⟩
  all_goals
    refine zM_of (by decide) rfl (fun X C _ => ?_)
    refine z_pick (lv' := [(0, .int i), (1, .int m)]) [0, 1] rfl ?_
    refine z_iload_n (pc' := 1) C 0 dJ3_checkIndex_8e157_0 rfl rfl rfl ?_
    refine z_if_lt (pc' := 4) (A := (none : Option Unit)) (B := some ()) (r := ()) C 9 (by rw [if_neg h0]) dJ3_checkIndex_8e157_1 rfl rfl (fun g _ => absurd g h0) (fun _ _ => ?_)
    refine z_iload_n (pc' := 5) C 0 dJ3_checkIndex_8e157_4 rfl rfl rfl ?_
    refine z_iload_n (pc' := 6) C 1 dJ3_checkIndex_8e157_5 rfl rfl rfl ?_
    refine z_icmp_lt (pc' := 9) (B := (none : Option Unit)) (A := some ()) (r := ()) C 16 (by rw [if_pos h1]) dJ3_checkIndex_8e157_6 rfl rfl (fun _ _ => ?_) (fun g _ => absurd h1 g)
    refine z_iload_n (pc' := 17) C 0 dJ3_checkIndex_8e157_16 rfl rfl rfl ?_
    exact z_iret C rfl rfl dJ3_checkIndex_8e157_17
set_option maxRecDepth 20000 in
theorem c_J_check {w : zV} {N : Nat} {h : zH} {i m : Int32} (h0 : ¬ i < 0) (h1 : i < m) : zM w yJ0_checkIndex_df160 cJ0_checkIndex_df160 2 none (zr 1 40) false N N h [.int i, .int m] none h := by
  refine zM_of (by decide) rfl (fun X C _ => ?_)
  obtain ⟨v, hv, hZ⟩ : ∃ v : Value, (v = .null ∨ ∃ t, v = .ref t) ∧ va_Z "jdk/internal/util/Preconditions" "SIOOBE_FORMATTER" "Ljava/util/function/BiFunction;" v (zA w) X.2.2.2.2.1 X.2.2.2.2.1.heap := by
    rcases C.2.2.2.2.2.2.2.2.2.2.2.2.2.1 with g | ⟨t, g⟩
    · exact ⟨_, Or.inl rfl, g⟩
    · exact ⟨_, Or.inr ⟨t, rfl⟩, g⟩
  refine z_pick (lv' := [(0, .int i), (1, .int m)]) [0, 1] rfl ?_
  refine z_iload_n (pc' := 1) C 0 dJ0_checkIndex_df160_0 rfl rfl rfl ?_
  refine z_iload_n (pc' := 2) C 1 dJ0_checkIndex_df160_1 rfl rfl rfl ?_
  refine z_gets (pc' := 5) C hZ zw_575 dJ0_checkIndex_df160_2 rfl ?_
  refine z_callS (pc' := 8) (st := []) C (As := [.int i, .int m, v]) (c_J_pcheck hv h0 h1) zyJ_pcheckIndex zw_577 zw_578 rfl rfl rfl rfl rfl dJ0_checkIndex_df160_5 rfl ?_
  refine z_pop (pc' := 9) C dJ0_checkIndex_df160_8 rfl rfl ?_
  exact z_vret C rfl rfl dJ0_checkIndex_df160_9
set_option maxRecDepth 20000 in
theorem c_J_lcharAt {w : zV} {N : Nat} {h : zH} {i : Nat} {q : String × Nat × String × List Int32} {j : Int32} (hi : zSt[i]? = some q) (hlen : q.2.2.2.length < 2147483648) (hj : vp_in j q.2.2.2.length) : zM w yJ1_charAt_3b067 cJ1_charAt_3b067 2 (some .char) (zr 2 80) false N N h [.ref (zsv w i), .int j] (some (.int (q.2.2.2.getD j.toNatClampNeg 0 &&& 255))) h := by
  obtain ⟨m, hm, rfl⟩ := vp_in_of hj hlen
  refine zM_of (by decide) rfl (fun X C _ => ?_)
  obtain ⟨-, g2, g3, g4⟩ := zE_str C hi
  refine z_pick (lv' := [(0, .ref (zsv w i)), (1, .int (nI m))]) [0, 1] rfl ?_
  refine z_iload_n (pc' := 1) C 1 dJ1_charAt_3b067_0 rfl rfl rfl ?_
  refine z_aload_n (pc' := 2) C 0 dJ1_charAt_3b067_1 rfl rfl rfl ?_
  refine z_tlen (pc' := 3) C g4 (v := nI q.2.2.2.length) rfl dJ1_charAt_3b067_2 rfl ?_
  refine z_callS (pc' := 6) (st := []) C (As := [.int (nI m), .int (nI q.2.2.2.length)]) (c_J_check (nI_pos (by omega)) (nI_lt hm hlen)) zyJ_checkIndex zw_572 zw_573 rfl rfl rfl rfl rfl dJ1_charAt_3b067_3 rfl ?_
  refine z_aload_n (pc' := 7) C 0 dJ1_charAt_3b067_6 rfl rfl rfl ?_
  refine z_iload_n (pc' := 8) C 1 dJ1_charAt_3b067_7 rfl rfl rfl ?_
  refine z_tb (pc' := 9) C g4 hj rfl dJ1_charAt_3b067_8 rfl ?_
  refine z_sipush (pc' := 12) C dJ1_charAt_3b067_9 zk_sipush_255 rfl ?_
  refine z_iand (pc' := 13) C dJ1_charAt_3b067_12 rfl ?_
  refine z_i2c (pc' := 14) C (sc_c2 _) dJ1_charAt_3b067_13 rfl ?_
  exact z_nret C rfl (sc_nar _) rfl rfl dJ1_charAt_3b067_14
set_option maxRecDepth 20000 in
theorem c_J_charAt {w : zV} {N : Nat} {h : zH} {i : Nat} {q : String × Nat × String × List Int32} {j : Int32} (hi : zSt[i]? = some q) (hlen : q.2.2.2.length < 2147483648) (hj : vp_in j q.2.2.2.length) : zM w yJ0_charAt_5068e cJ0_charAt_5068e 2 (some .char) (zr 3 120) false N N h [.ref (zsa w i), .int j] (some (.int (q.2.2.2.getD j.toNatClampNeg 0 &&& 255))) h := by
  refine zM_of (by decide) rfl (fun X C _ => ?_)
  obtain ⟨-, g2, g3, g4⟩ := zE_str C hi
  refine z_pick (lv' := [(0, .ref (zsa w i)), (1, .int j)]) [0, 1] rfl ?_
  refine z_aload_n (pc' := 1) C 0 dJ0_charAt_5068e_0 rfl rfl rfl ?_
  refine z_callR (pc' := 4) (st := []) C (As := []) (c_J_isLatin1 hi) zyJ_isLatin1 zw_565 zw_566 zw_567 (z_srec C hi) rfl rfl rfl rfl rfl dJ0_charAt_5068e_1 rfl ?_
  refine z_if_eq (pc' := 7) (A := (none : Option Unit)) (B := some ()) (r := ()) C 16 (by decide) dJ0_charAt_5068e_4 rfl rfl (fun g _ => absurd g (by decide)) (fun _ _ => ?_)
  refine z_aload_n (pc' := 8) C 0 dJ0_charAt_5068e_7 rfl rfl rfl ?_
  refine z_sgetf (pc' := 11) C g3 zw_1717 dJ0_charAt_5068e_8 rfl ?_
  refine z_iload_n (pc' := 12) C 1 dJ0_charAt_5068e_11 rfl rfl rfl ?_
  refine z_callS (pc' := 15) (st := []) C (As := [.ref (zsv w i), .int j]) (c_J_lcharAt hi hlen hj) zyJ_lcharAt zw_569 zw_570 rfl rfl rfl rfl rfl dJ0_charAt_5068e_12 rfl ?_
  exact z_nret C rfl (sc_nar _) rfl rfl dJ0_charAt_5068e_15
/-! the texts in functional programs: their lengths and signs -/
def zSb (i : Nat) : List Int32 := match zSt[i]? with | some q => q.2.2.2 | none => []
theorem zSb_all : ∀ i, i < 25 → (zSb i).length < 64 := by decide
theorem zSb_some {i : Nat} (hi : i < 25) : ∃ q, zSt[i]? = some q ∧ q.2.2.2 = zSb i := by
  have h : i < zSt.length := hi
  exact ⟨zSt[i], by simp [h], by simp [zSb, h]⟩
def f_len (i : Nat) : Int32 := nI (zSb i).length
def f_chr {β : Type} (i : Nat) (j : Int32) (K : Int32 → Option β) : Option β := zR (zSb i).length (fun m => (zSb i).getD m 0 &&& 255) j K
section ZSTR2
variable {X : zC} {w : zV} {Q : State → Prop} {k n : Nat} {N : Nat} {h : zH} {pc pc' : Nat} {lv : List (Nat × Value)} {st : List Value} {own : String} {cc : ByteArray} {nL : Nat} {ret : Option FieldType} {rm : Room}
theorem z_slen (C : zK X w own cc nL ret rm) {i j : Nat} (hi : i < 25) (hl : Cond.methodLink own j yJ0_length_8abf5 ∈ zG) (hR : zRm (zr 1 40) rm 1 = true) (hst : Nat.ble ((st.map fun v => v.category).sum) 16 = true) (hf : (Nat.ble (k + 0) rm.cells && Nat.ble (n + 0) rm.slots) = true) (d : decode cc pc = .ok (.invokevirtual j, 3)) (he : pc + 3 = pc') (kk : zZ X w Q k n false N h pc' lv (.int (f_len i) :: st)) : zZ X w Q k n false N h pc lv (.ref (zsa w i) :: st) := by
  obtain ⟨q, hq, e⟩ := zSb_some hi
  refine z_callR (st := st) C (As := []) (c_J_length hq) zyJ_length hl zw_552 zw_553 (z_srec C hq) hR rfl hst rfl hf d he ?_
  have e2 : nI q.2.2.2.length >>> ((0 : Int32) &&& 31) = f_len i := by
    have := zSb_all i hi
    rw [e, sc_shr0 (by omega)]
    rfl
  rw [e2]
  exact kk
theorem z_schr (C : zK X w own cc nL ret rm) {β : Type} {r : β} {i j : Nat} {v : Int32} {K : Int32 → Option β} (hf : f_chr i v K = some r) (hi : i < 25) (hl : Cond.methodLink own j yJ0_charAt_5068e ∈ zG) (hR : zRm (zr 3 120) rm 2 = true) (hst : Nat.ble ((st.map fun v => v.category).sum) 16 = true) (hk : (Nat.ble (k + 0) rm.cells && Nat.ble (n + 0) rm.slots) = true) (d : decode cc pc = .ok (.invokevirtual j, 3)) (he : pc + 3 = pc') (kk : ∀ u : Int32, K u = some r → zZ X w Q k n false N h pc' lv (.int u :: st)) : zZ X w Q k n false N h pc lv (.int v :: .ref (zsa w i) :: st) := by
  obtain ⟨q, hq, e⟩ := zSb_some hi
  obtain ⟨hin, hf⟩ := zR_s hf
  have hl2 := zSb_all i hi
  refine z_callR (st := st) C (As := [.int v]) (c_J_charAt hq (by rw [e]; omega) (by rw [e]; exact hin)) zyJ_charAt hl zw_562 zw_563 (z_srec C hq) hR rfl hst rfl hk d he ?_
  rw [e]
  exact kk _ hf
end ZSTR2
