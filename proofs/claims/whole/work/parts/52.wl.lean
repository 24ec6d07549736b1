theorem zu_off {H : zH} {b d : Nat} {L L2 : List (Nat × va_E)} (hL : L.map (fun q => (d + q.1, q.2)) = L2) : zu H (b + d) L = zu H b L2 := by
  subst hL
  have key : ∀ (L : List (Nat × va_E)) (k : Nat), zlook (d + k) (L.map (fun q => (d + q.1, q.2))) = zlook k L := by
    intro L k
    induction L with
    | nil => rfl
    | cons q l ih =>
      simp only [List.map_cons, zlook, ih]
      by_cases c : q.1 = k
      · simp [c]
      · have : ¬ d + q.1 = d + k := by omega
        simp [c, this]
  have key2 : ∀ (L : List (Nat × va_E)) (k : Nat), k < d → zlook k (L.map (fun q => (d + q.1, q.2))) = none := by
    intro L k hk
    induction L with
    | nil => rfl
    | cons q l ih =>
      have : ¬ d + q.1 = k := by omega
      simp only [List.map_cons, zlook, if_neg this, ih]
  funext j
  unfold zu
  by_cases c : b + d ≤ j
  · have c2 : b ≤ j := by omega
    rw [if_pos c, if_pos c2, ← key L (j - (b + d)), show d + (j - (b + d)) = j - b by omega]
  · rw [if_neg c]
    by_cases c2 : b ≤ j
    · rw [if_pos c2, key2 L (j - b) (by omega)]
    · rw [if_neg c2]
section ZPR
variable {X : zC} {w : zV} {Q : State → Prop} {k n : Nat} {N : Nat} {h : zH} {pc pc' : Nat} {lv : List (Nat × Value)} {st st' : List Value} {own : String} {cc : ByteArray} {nL : Nat} {ret : Option FieldType} {rm : Room}
theorem z_callV0 (C : zK X w own cc nL ret rm) {i ci m : Nat} {y : MethodName} {cc' : ByteArray} {nL' : Nat} {ret' : Option FieldType} {rm' : Room} {h' : zH} {v : Value} {As : List Value} {a : Nat} {fs : List Value} {qc : vw_C} (hM : zM w y cc' nL' ret' rm' false N N h (.ref (zo w + a) :: As) (some v) h') (hY : zY y cc' nL' ret' m) (hl : Cond.methodLink own i y ∈ zG) (hi : Cond.instanceMethod y ∈ zG) (hsel : Cond.selects qc.1 y y ∈ zG) (hq : vwCl[ci]? = some qc) (hc : zc N h a (.inr (ci, fs))) (h0 : rm'.cells = 0 ∧ rm'.slots = 0) (hR : zRm rm' rm nL' = true) (hm : As.length = m) (hst : Nat.ble ((st.map fun v => v.category).sum) 16 = true) (stk : As.reverse ++ .ref (zo w + a) :: st = st') (hk : (Nat.ble k rm.cells && Nat.ble n rm.slots) = true) (d : decode cc pc = .ok (.invokevirtual i, 3)) (he : pc + 3 = pc')
    (kk : zZ X w Q k n false N h' pc' lv (v :: st)) : zZ X w Q k n false N h pc lv st' := by
  refine z_callV C hM hY hl hi hsel hq hc hR hm hst stk (zn0 h0 hk) d he ?_
  rw [h0.1, h0.2]
  exact kk
theorem z_aald (C : zK X w own cc nL ret rm) {a m : Nat} {f : Nat → Option Nat} {i : Int32} {y : Nat} (hin : vp_in i m) (hy : f i.toNatClampNeg = some y) (hc : zc N h a (.inl (w.2.2.1 4, m, .inr (.inr (.inr (.inr f)))))) (d : decode cc pc = .ok (.aaload, 1)) (he : pc + 1 = pc') (kk : zZ X w Q k n false N h pc' lv (.ref y :: st)) : zZ X w Q k n false N h pc lv (.int i :: .ref (zo w + a) :: st) := by
  subst he
  intro H locs ls hP hs hS hL
  refine va_aldq (D := zD w) C.1 C.2.2.1 C.2.2.2.2.2.2.2.2.2.1 hP _ 4 (zc_at hc rfl) rfl hin d ?_
  rw [hy]
  exact kk H locs ls hP hs hS hL
end ZPR
set_option maxRecDepth 20000 in
theorem c_X8_project {w : zV} {N a : Nat} {h : zH} (hN : a + 389 ≤ N) {σ : LgT} (g : ¬ (σ.1 < 0 ∨ 9 ≤ σ.1.toNatClampNeg)) : zM w yX8_project cX8_project 1 (some (.object "ConstructionLedger$Project")) (zrx 0 0 0 0) false N N (lgH w a h σ) [.ref (zo w + a)] (some (.ref (zo w + (a + (74 + 35 * σ.1.toNatClampNeg))))) (lgH w a h σ) := by
  refine zM_of (by decide) rfl (fun X C _ => ?_)
  refine z_pick (lv' := [(0, .ref (zo w + a))]) [0] rfl ?_
  refine z_aload_n (pc' := 1) C 0 dX8_project_0 rfl rfl rfl ?_
  refine z_getf (pc' := 4) C zci_8 zw_318 (j := 1) rfl (lg_0 hN) rfl rfl dX8_project_1 rfl ?_
  refine z_aload_n (pc' := 5) C 0 dX8_project_4 rfl rfl rfl ?_
  refine z_getf (pc' := 8) C zci_8 zw_319 (j := 2) rfl (lg_0 hN) rfl rfl dX8_project_5 rfl ?_
  refine z_aald (pc' := 9) (f := fun i => some (zo w + (a + (74 + 35 * i)))) C g rfl (lg_38 hN) dX8_project_8 rfl ?_
  exact z_aret C rfl rfl dX8_project_9

set_option maxRecDepth 20000 in
theorem c_X8_append {w : zV} {N a : Nat} {h : zH} (hN : a + 389 ≤ N) {σ : LgT} {p1 : Int32} {p2 : Int32} {p3 : Int32} {p4 : Int32} {p5 : Int32} {r : Int32 × LgT} (hf : f_X8_append σ p1 p2 p3 p4 p5 = some r) : zM w yX8_append cX8_append 6 (some .int) (zrx 1 30 0 0) false N N (lgH w a h σ) [.ref (zo w + a), .int p1, .int p2, .int p3, .int p4, .int p5] (some (.int r.1)) (lgH w a h r.2) := by
  unfold f_X8_append at hf
  refine zM_of (by decide) rfl (fun X C _ => ?_)
  refine z_pick (lv' := [(0, .ref (zo w + a)), (1, .int p1), (2, .int p2), (3, .int p3), (4, .int p4), (5, .int p5)]) [0, 1, 2, 3, 4, 5] rfl ?_
  refine z_aload_n (pc' := 1) C 0 dX8_append_0 rfl rfl rfl ?_
  refine z_getf (pc' := 4) C zci_8 zw_317 (j := 0) rfl (lg_0 hN) rfl rfl dX8_append_1 rfl ?_
  refine z_getf (pc' := 7) C zci_6 zw_276 (j := 1) rfl (lg_R hN 0 rfl) rfl rfl dX8_append_4 rfl ?_
  refine z_bipush (pc' := 9) C dX8_append_7 zk_bipush_20 rfl ?_
  refine z_iadd (pc' := 10) C dX8_append_9 rfl ?_
  refine z_sipush (pc' := 13) C dX8_append_10 zk_sipush_900 rfl ?_
  refine z_icmp_le (pc' := 16) C 18 hf dX8_append_13 rfl rfl (fun g_13 hf => ?_) (fun g_13 hf => ?_)
  · refine z_aload_n (pc' := 19) C 0 dX8_append_18 rfl rfl rfl ?_
    refine z_getf (pc' := 22) C zci_8 zw_317 (j := 0) rfl (lg_0 hN) rfl rfl dX8_append_19 rfl ?_
    refine z_iload_n (pc' := 23) C 1 dX8_append_22 rfl rfl rfl ?_
    refine z_cV (pc' := 26) C hf (As := [.int p1]) (fun hq => c_X6_addBytes (a := (a + 1)) (lg_R hN 0 rfl) (lg_R hN 1 rfl) hq) (fun q_23 => (lgH w a h (σ.1, σ.2.1, (rs_rd_text (rs_rd_filled σ.2.2.1 q_23.1) q_23.2), σ.2.2.2.1, σ.2.2.2.2.1, σ.2.2.2.2.2))) (fun q_23 => []) (fun _ => lg_uR ⟨rfl, rfl⟩ rfl rfl) (fun _ => rfl) zy_X6_addBytes zw_337 zw_338 zw_339 (ci := 6) rfl (lg_R hN 0 rfl) ⟨rfl, rfl⟩ rfl rfl rfl rfl rfl dX8_append_23 rfl (fun q_23 hf => ?_)
    refine z_aload_n (pc' := 27) C 0 dX8_append_26 rfl rfl rfl ?_
    refine z_getf (pc' := 30) C zci_8 zw_317 (j := 0) rfl (lg_0 hN) rfl rfl dX8_append_27 rfl ?_
    refine z_iload_n (pc' := 31) C 2 dX8_append_30 rfl rfl rfl ?_
    refine z_cV (pc' := 34) C hf (As := [.int p2]) (fun hq => c_X6_addBytes (a := (a + 1)) (lg_R hN 0 rfl) (lg_R hN 1 rfl) hq) (fun q_31 => (lgH w a h (σ.1, σ.2.1, (rs_rd_text (rs_rd_filled σ.2.2.1 q_31.1) q_31.2), σ.2.2.2.1, σ.2.2.2.2.1, σ.2.2.2.2.2))) (fun q_31 => []) (fun _ => lg_uR ⟨rfl, rfl⟩ rfl rfl) (fun _ => rfl) zy_X6_addBytes zw_337 zw_338 zw_339 (ci := 6) rfl (lg_R hN 0 rfl) ⟨rfl, rfl⟩ rfl rfl rfl rfl rfl dX8_append_31 rfl (fun q_31 hf => ?_)
    refine z_aload_n (pc' := 35) C 0 dX8_append_34 rfl rfl rfl ?_
    refine z_getf (pc' := 38) C zci_8 zw_317 (j := 0) rfl (lg_0 hN) rfl rfl dX8_append_35 rfl ?_
    refine z_iload_n (pc' := 39) C 3 dX8_append_38 rfl rfl rfl ?_
    refine z_cV (pc' := 42) C hf (As := [.int p3]) (fun hq => c_X6_addBytes (a := (a + 1)) (lg_R hN 0 rfl) (lg_R hN 1 rfl) hq) (fun q_39 => (lgH w a h (σ.1, σ.2.1, (rs_rd_text (rs_rd_filled σ.2.2.1 q_39.1) q_39.2), σ.2.2.2.1, σ.2.2.2.2.1, σ.2.2.2.2.2))) (fun q_39 => []) (fun _ => lg_uR ⟨rfl, rfl⟩ rfl rfl) (fun _ => rfl) zy_X6_addBytes zw_337 zw_338 zw_339 (ci := 6) rfl (lg_R hN 0 rfl) ⟨rfl, rfl⟩ rfl rfl rfl rfl rfl dX8_append_39 rfl (fun q_39 hf => ?_)
    refine z_aload_n (pc' := 43) C 0 dX8_append_42 rfl rfl rfl ?_
    refine z_getf (pc' := 46) C zci_8 zw_317 (j := 0) rfl (lg_0 hN) rfl rfl dX8_append_43 rfl ?_
    refine z_iload (pc' := 48) C 4 dX8_append_46 rfl rfl ?_
    refine z_cV (pc' := 51) C hf (As := [.int p4]) (fun hq => c_X6_addBytes (a := (a + 1)) (lg_R hN 0 rfl) (lg_R hN 1 rfl) hq) (fun q_48 => (lgH w a h (σ.1, σ.2.1, (rs_rd_text (rs_rd_filled σ.2.2.1 q_48.1) q_48.2), σ.2.2.2.1, σ.2.2.2.2.1, σ.2.2.2.2.2))) (fun q_48 => []) (fun _ => lg_uR ⟨rfl, rfl⟩ rfl rfl) (fun _ => rfl) zy_X6_addBytes zw_337 zw_338 zw_339 (ci := 6) rfl (lg_R hN 0 rfl) ⟨rfl, rfl⟩ rfl rfl rfl rfl rfl dX8_append_48 rfl (fun q_48 hf => ?_)
    refine z_aload_n (pc' := 52) C 0 dX8_append_51 rfl rfl rfl ?_
    refine z_getf (pc' := 55) C zci_8 zw_317 (j := 0) rfl (lg_0 hN) rfl rfl dX8_append_52 rfl ?_
    refine z_iload (pc' := 57) C 5 dX8_append_55 rfl rfl ?_
    refine z_cV (pc' := 60) C hf (As := [.int p5]) (fun hq => c_X6_addBytes (a := (a + 1)) (lg_R hN 0 rfl) (lg_R hN 1 rfl) hq) (fun q_57 => (lgH w a h (σ.1, σ.2.1, (rs_rd_text (rs_rd_filled σ.2.2.1 q_57.1) q_57.2), σ.2.2.2.1, σ.2.2.2.2.1, σ.2.2.2.2.2))) (fun q_57 => []) (fun _ => lg_uR ⟨rfl, rfl⟩ rfl rfl) (fun _ => rfl) zy_X6_addBytes zw_337 zw_338 zw_339 (ci := 6) rfl (lg_R hN 0 rfl) ⟨rfl, rfl⟩ rfl rfl rfl rfl rfl dX8_append_57 rfl (fun q_57 hf => ?_)
    refine z_aload_n (pc' := 61) C 0 dX8_append_60 rfl rfl rfl ?_
    refine z_getf (pc' := 64) C zci_8 zw_317 (j := 0) rfl (lg_0 hN) rfl rfl dX8_append_61 rfl ?_
    refine z_getf (pc' := 67) C zci_6 zw_276 (j := 1) rfl (lg_R hN 0 rfl) rfl rfl dX8_append_64 rfl ?_
    cases hf
    exact (z_iret C rfl rfl dX8_append_67)
  · refine z_iconst (pc' := 17) C dX8_append_16 zk_iconst_m1 rfl ?_
    cases hf
    exact (z_iret C rfl rfl dX8_append_17)
set_option maxRecDepth 20000 in
theorem c_X8_checkRange {w : zV} {N : Nat} {h : zH} {p0 : Int32} {p1 : Int32} {p2 : Int32} {r : (String) ⊕ (Unit)} (hf : f_X8_checkRange p0 p1 p2 = some r) : zMx w yX8_checkRange cX8_checkRange 3 none (zrx 6 90 1 6) N h [.int p0, .int p1, .int p2] (zOm (fun e => (e, h)) (fun q => none) (fun q => h) r) := by
  unfold f_X8_checkRange at hf
  refine zMx_of (by decide) rfl (fun X C htab => ?_)
  refine z_pick (lv' := [(0, .int p0), (1, .int p1), (2, .int p2)]) [0, 1, 2] rfl ?_
  refine z_iload_n (pc' := 1) C 0 dX8_checkRange_0 rfl rfl rfl ?_
  refine z_iload_n (pc' := 2) C 1 dX8_checkRange_1 rfl rfl rfl ?_
  refine z_icmp_lt (pc' := 5) C 10 hf dX8_checkRange_2 rfl rfl (fun g_2 hf => ?_) (fun g_2 hf => ?_)
  · cases hf
    exact z_throw C htab (i := 0) (j := 1) rfl rfl zat_ia zbt_ia zct_ia (by decide) zw_453 zw_15 rfl dX8_checkRange_10 rfl dX8_checkRange_13 rfl dX8_checkRange_14 rfl dX8_checkRange_17 rfl dX8_checkRange_20 rfl rfl
  · refine z_iload_n (pc' := 6) C 0 dX8_checkRange_5 rfl rfl rfl ?_
    refine z_iload_n (pc' := 7) C 2 dX8_checkRange_6 rfl rfl rfl ?_
    refine z_icmp_le (pc' := 10) C 21 hf dX8_checkRange_7 rfl rfl (fun g_7 hf => ?_) (fun g_7 hf => ?_)
    · cases hf
      exact z_xr (z_widen (by decide) (by decide) (z_vret C rfl rfl dX8_checkRange_21))
    · cases hf
      exact z_throw C htab (i := 0) (j := 1) rfl rfl zat_ia zbt_ia zct_ia (by decide) zw_453 zw_15 rfl dX8_checkRange_10 rfl dX8_checkRange_13 rfl dX8_checkRange_14 rfl dX8_checkRange_17 rfl dX8_checkRange_20 rfl rfl
set_option maxRecDepth 20000 in
theorem c_X8_beginChange {w : zV} {N a : Nat} {h : zH} (hN : a + 389 ≤ N) {σ : LgT} {r : LgT} (hf : f_X8_beginChange σ = some r) : zM w yX8_beginChange cX8_beginChange 2 (some (.object "ConstructionLedger$Project")) (zrx 3 99 0 0) false N N (lgH w a h σ) [.ref (zo w + a)] (some (.ref (zo w + (a + (74 + 35 * r.1.toNatClampNeg))))) (lgH w a h r) := by
  unfold f_X8_beginChange at hf
  refine zM_of (by decide) rfl (fun X C _ => ?_)
  refine z_pick (lv' := [(0, .ref (zo w + a))]) [0] rfl ?_
  refine z_aload_n (pc' := 1) C 0 dX8_beginChange_0 rfl rfl rfl ?_
  obtain ⟨g_1, hf⟩ := zG1_s hf
  refine z_callV0 (pc' := 4) (st := []) C (As := []) (c_X8_project hN g_1) zy_X8_project zw_349 zw_351 zv_0 (ci := 8) rfl (lg_0 hN) ⟨rfl, rfl⟩ rfl rfl rfl rfl rfl dX8_beginChange_1 rfl ?_
  refine z_astore_n (pc' := 5) C [(1, .ref (zo w + (a + (74 + 35 * (σ.1.toNatClampNeg))))), (0, .ref (zo w + a))] dX8_beginChange_4 rfl rfl rfl rfl ?_
  refine z_aload_n (pc' := 6) C 1 dX8_beginChange_5 rfl rfl rfl ?_
  refine z_aload_n (pc' := 7) C 1 dX8_beginChange_6 rfl rfl rfl ?_
  refine z_getf (pc' := 10) C zci_8 zw_319 (j := 2) rfl (lg_0 hN) rfl rfl dX8_beginChange_7 rfl ?_
  refine z_iconst (pc' := 11) C dX8_beginChange_10 zk_iconst_1 rfl ?_
  refine z_iadd (pc' := 12) C dX8_beginChange_11 rfl ?_
  refine z_bipush (pc' := 14) C dX8_beginChange_12 zk_bipush_9 rfl ?_
  refine z_icmp_ge (pc' := 17) C 26 hf dX8_beginChange_14 rfl rfl (fun g_14 hf => ?_) (fun g_14 hf => ?_)
  · refine z_iconst (pc' := 27) C dX8_beginChange_26 zk_iconst_0 rfl ?_
    refine z_putf (pc' := 30) C zci_8 zw_319 (j := 2) rfl (lg_0 hN) (fs' := [.ref (zo w + (a + 1)), .ref (zo w + (a + 38)), .int (0 : Int32), .int σ.2.1, .ref (zo w + (a + 39))]) rfl rfl rfl rfl rfl (h' := (lgH w a h ((0 : Int32), σ.2.1, σ.2.2.1, σ.2.2.2.1, σ.2.2.2.2.1, σ.2.2.2.2.2))) lg_u0 dX8_beginChange_27 rfl ?_
    refine z_aload_n (pc' := 31) C 1 dX8_beginChange_30 rfl rfl rfl ?_
    refine z_aload_n (pc' := 32) C 1 dX8_beginChange_31 rfl rfl rfl ?_
    refine z_getf (pc' := 35) C zci_8 zw_320 (j := 3) rfl (lg_0 hN) rfl rfl dX8_beginChange_32 rfl ?_
    refine z_iconst (pc' := 36) C dX8_beginChange_35 zk_iconst_1 rfl ?_
    refine z_iadd (pc' := 37) C dX8_beginChange_36 rfl ?_
    refine z_bipush (pc' := 39) C dX8_beginChange_37 zk_bipush_8 rfl ?_
    refine z_imin (pc' := 42) C zw_666 rfl rfl dX8_beginChange_39 rfl ?_
    refine z_putf (pc' := 45) C zci_8 zw_320 (j := 3) rfl (lg_0 hN) (fs' := [.ref (zo w + (a + 1)), .ref (zo w + (a + 38)), .int (0 : Int32), .int (if (8 : Int32) < (σ.2.1 + (1 : Int32)) then (8 : Int32) else (σ.2.1 + (1 : Int32))), .ref (zo w + (a + 39))]) rfl rfl rfl rfl rfl (h' := (lgH w a h ((0 : Int32), (if (8 : Int32) < (σ.2.1 + (1 : Int32)) then (8 : Int32) else (σ.2.1 + (1 : Int32))), σ.2.2.1, σ.2.2.2.1, σ.2.2.2.2.1, σ.2.2.2.2.2))) lg_u0 dX8_beginChange_42 rfl ?_
    refine z_aload_n (pc' := 46) C 1 dX8_beginChange_45 rfl rfl rfl ?_
    obtain ⟨g_46, hf⟩ := zG1_s hf
    refine z_callV0 (pc' := 49) (st := []) C (As := []) (c_X8_project hN g_46) zy_X8_project zw_349 zw_351 zv_0 (ci := 8) rfl (lg_0 hN) ⟨rfl, rfl⟩ rfl rfl rfl rfl rfl dX8_beginChange_46 rfl ?_
    refine z_aload_n (pc' := 50) C 0 dX8_beginChange_49 rfl rfl rfl ?_
    obtain ⟨gf_50, hf⟩ := zG1_s hf
    refine z_cV (pc' := 53) C hf (As := [.ref (zo w + (a + (74 + 35 * (σ.1.toNatClampNeg))))]) (fun hq => c_X5_copyFrom (a := (a + (74 + 35 * ((0 : Int32).toNatClampNeg)))) (b1 := (a + (74 + 35 * (σ.1.toNatClampNeg)))) (lg_S hN (zlt9 g_46) 0 rfl) (lg_S hN (zlt9 g_46) 1 rfl) (lg_S hN (zlt9 g_46) 2 rfl) (lg_S hN (zlt9 g_46) 3 rfl) (lg_S hN (zlt9 g_46) 4 rfl) (lg_S hN (zlt9 g_46) 5 rfl) (lg_S hN (zlt9 g_46) 6 rfl) (lg_S hN (zlt9 g_46) 7 rfl) (lg_S hN (zlt9 g_46) 8 rfl) (lg_S hN (zlt9 g_46) 9 rfl) (lg_S hN (zlt9 g_46) 13 rfl) (lg_S hN (zlt9 g_46) 14 rfl) (lg_S hN (zlt9 g_46) 15 rfl) (lg_S hN (zlt9 g_46) 16 rfl) (lg_S hN (zlt9 g_46) 17 rfl) (lg_S hN (zlt9 g_46) 18 rfl) (lg_S hN (zlt9 g_46) 19 rfl) (lg_S hN (zlt9 g_46) 20 rfl) (lg_S hN (zlt9 g_46) 21 rfl) (lg_S hN (zlt9 g_46) 22 rfl) (lg_S hN (zlt9 g_46) 23 rfl) (lg_S hN (zlt9 g_46) 24 rfl) (lg_S hN (zlt9 g_46) 25 rfl) (lg_S hN (zlt9 g_46) 26 rfl) (lg_S hN (zlt9 g_46) 27 rfl) (lg_S hN (zlt9 g_46) 28 rfl) (lg_S hN (zlt9 g_46) 29 rfl) (lg_S hN (zlt9 g_46) 30 rfl) (lg_S hN (zlt9 g_46) 31 rfl) (lg_S hN (zlt9 g_46) 32 rfl) (lg_S hN (zlt9 g_46) 33 rfl) (lg_S hN (zlt9 g_1) 0 rfl) (lg_S hN (zlt9 g_1) 1 rfl) (lg_S hN (zlt9 g_1) 2 rfl) (lg_S hN (zlt9 g_1) 3 rfl) (lg_S hN (zlt9 g_1) 4 rfl) (lg_S hN (zlt9 g_1) 5 rfl) (lg_S hN (zlt9 g_1) 6 rfl) (lg_S hN (zlt9 g_1) 7 rfl) (lg_S hN (zlt9 g_1) 8 rfl) (lg_S hN (zlt9 g_1) 9 rfl) (lg_S hN (zlt9 g_1) 13 rfl) (lg_S hN (zlt9 g_1) 14 rfl) (lg_S hN (zlt9 g_1) 15 rfl) (lg_S hN (zlt9 g_1) 16 rfl) (lg_S hN (zlt9 g_1) 17 rfl) (lg_S hN (zlt9 g_1) 18 rfl) (lg_S hN (zlt9 g_1) 19 rfl) (lg_S hN (zlt9 g_1) 20 rfl) (lg_S hN (zlt9 g_1) 21 rfl) (lg_S hN (zlt9 g_1) 22 rfl) (lg_S hN (zlt9 g_1) 23 rfl) (lg_S hN (zlt9 g_1) 24 rfl) (lg_S hN (zlt9 g_1) 25 rfl) (lg_S hN (zlt9 g_1) 26 rfl) (lg_S hN (zlt9 g_1) 27 rfl) (lg_S hN (zlt9 g_1) 28 rfl) (lg_S hN (zlt9 g_1) 29 rfl) (lg_S hN (zlt9 g_1) 30 rfl) (lg_S hN (zlt9 g_1) 31 rfl) (lg_S hN (zlt9 g_1) 32 rfl) (lg_S hN (zlt9 g_1) 33 rfl) (by omega) hq) (fun q_50 => (lgH w a h ((0 : Int32), (if (8 : Int32) < (σ.2.1 + (1 : Int32)) then (8 : Int32) else (σ.2.1 + (1 : Int32))), σ.2.2.1, σ.2.2.2.1, σ.2.2.2.2.1, (va_up σ.2.2.2.2.2 ((0 : Int32).toNatClampNeg) (pm_0 (σ.2.2.2.2.2 ((0 : Int32).toNatClampNeg)) q_50.1 q_50.2.1 q_50.2.2.1 q_50.2.2.2.1 q_50.2.2.2.2.1 q_50.2.2.2.2.2.1 q_50.2.2.2.2.2.2.1 q_50.2.2.2.2.2.2.2.1 q_50.2.2.2.2.2.2.2.2.1 q_50.2.2.2.2.2.2.2.2.2.1 q_50.2.2.2.2.2.2.2.2.2.2.1 q_50.2.2.2.2.2.2.2.2.2.2.2.1 q_50.2.2.2.2.2.2.2.2.2.2.2.2.1 q_50.2.2.2.2.2.2.2.2.2.2.2.2.2.1 q_50.2.2.2.2.2.2.2.2.2.2.2.2.2.2.1 q_50.2.2.2.2.2.2.2.2.2.2.2.2.2.2.2.1 q_50.2.2.2.2.2.2.2.2.2.2.2.2.2.2.2.2.1 q_50.2.2.2.2.2.2.2.2.2.2.2.2.2.2.2.2.2.1 q_50.2.2.2.2.2.2.2.2.2.2.2.2.2.2.2.2.2.2.1 q_50.2.2.2.2.2.2.2.2.2.2.2.2.2.2.2.2.2.2.2.1 q_50.2.2.2.2.2.2.2.2.2.2.2.2.2.2.2.2.2.2.2.2.1 q_50.2.2.2.2.2.2.2.2.2.2.2.2.2.2.2.2.2.2.2.2.2.1 q_50.2.2.2.2.2.2.2.2.2.2.2.2.2.2.2.2.2.2.2.2.2.2.1 q_50.2.2.2.2.2.2.2.2.2.2.2.2.2.2.2.2.2.2.2.2.2.2.2.1 q_50.2.2.2.2.2.2.2.2.2.2.2.2.2.2.2.2.2.2.2.2.2.2.2.2.1 q_50.2.2.2.2.2.2.2.2.2.2.2.2.2.2.2.2.2.2.2.2.2.2.2.2.2.1 q_50.2.2.2.2.2.2.2.2.2.2.2.2.2.2.2.2.2.2.2.2.2.2.2.2.2.2.1 q_50.2.2.2.2.2.2.2.2.2.2.2.2.2.2.2.2.2.2.2.2.2.2.2.2.2.2.2.1 q_50.2.2.2.2.2.2.2.2.2.2.2.2.2.2.2.2.2.2.2.2.2.2.2.2.2.2.2.2.1 q_50.2.2.2.2.2.2.2.2.2.2.2.2.2.2.2.2.2.2.2.2.2.2.2.2.2.2.2.2.2 (pj_pr_pricing (σ.2.2.2.2.2 (σ.1.toNatClampNeg))) (pj_pg_threshold (σ.2.2.2.2.2 (σ.1.toNatClampNeg))) (pj_pg_length (σ.2.2.2.2.2 (σ.1.toNatClampNeg))) (pj_pg_clen (σ.2.2.2.2.2 (σ.1.toNatClampNeg))) (pj_pg_code (σ.2.2.2.2.2 (σ.1.toNatClampNeg)))))))) (fun q_50 => []) (fun _ => lg_uS (zlt9 g_46) rfl pw_0) (fun _ => rfl) zy_X5_copyFrom zw_667 zw_668 zw_669 (ci := 5) rfl (lg_S hN (zlt9 g_46) 0 rfl) ⟨rfl, rfl⟩ rfl rfl rfl rfl rfl dX8_beginChange_50 rfl (fun q_50 hf => ?_)
    refine z_aload_n (pc' := 54) C 1 dX8_beginChange_53 rfl rfl rfl ?_
    refine z_callV0 (pc' := 57) (st := []) C (As := []) (c_X8_project hN g_46) zy_X8_project zw_349 zw_351 zv_0 (ci := 8) rfl (lg_0 hN) ⟨rfl, rfl⟩ rfl rfl rfl rfl rfl dX8_beginChange_54 rfl ?_
    cases hf
    exact (z_aret C rfl rfl dX8_beginChange_57)
  · refine z_aload_n (pc' := 18) C 1 dX8_beginChange_17 rfl rfl rfl ?_
    refine z_getf (pc' := 21) C zci_8 zw_319 (j := 2) rfl (lg_0 hN) rfl rfl dX8_beginChange_18 rfl ?_
    refine z_iconst (pc' := 22) C dX8_beginChange_21 zk_iconst_1 rfl ?_
    refine z_iadd (pc' := 23) C dX8_beginChange_22 rfl ?_
    refine z_goto C 27 dX8_beginChange_23 rfl ?_
    refine z_putf (pc' := 30) C zci_8 zw_319 (j := 2) rfl (lg_0 hN) (fs' := [.ref (zo w + (a + 1)), .ref (zo w + (a + 38)), .int (σ.1 + (1 : Int32)), .int σ.2.1, .ref (zo w + (a + 39))]) rfl rfl rfl rfl rfl (h' := (lgH w a h ((σ.1 + (1 : Int32)), σ.2.1, σ.2.2.1, σ.2.2.2.1, σ.2.2.2.2.1, σ.2.2.2.2.2))) lg_u0 dX8_beginChange_27 rfl ?_
    refine z_aload_n (pc' := 31) C 1 dX8_beginChange_30 rfl rfl rfl ?_
    refine z_aload_n (pc' := 32) C 1 dX8_beginChange_31 rfl rfl rfl ?_
    refine z_getf (pc' := 35) C zci_8 zw_320 (j := 3) rfl (lg_0 hN) rfl rfl dX8_beginChange_32 rfl ?_
    refine z_iconst (pc' := 36) C dX8_beginChange_35 zk_iconst_1 rfl ?_
    refine z_iadd (pc' := 37) C dX8_beginChange_36 rfl ?_
    refine z_bipush (pc' := 39) C dX8_beginChange_37 zk_bipush_8 rfl ?_
    refine z_imin (pc' := 42) C zw_666 rfl rfl dX8_beginChange_39 rfl ?_
    refine z_putf (pc' := 45) C zci_8 zw_320 (j := 3) rfl (lg_0 hN) (fs' := [.ref (zo w + (a + 1)), .ref (zo w + (a + 38)), .int (σ.1 + (1 : Int32)), .int (if (8 : Int32) < (σ.2.1 + (1 : Int32)) then (8 : Int32) else (σ.2.1 + (1 : Int32))), .ref (zo w + (a + 39))]) rfl rfl rfl rfl rfl (h' := (lgH w a h ((σ.1 + (1 : Int32)), (if (8 : Int32) < (σ.2.1 + (1 : Int32)) then (8 : Int32) else (σ.2.1 + (1 : Int32))), σ.2.2.1, σ.2.2.2.1, σ.2.2.2.2.1, σ.2.2.2.2.2))) lg_u0 dX8_beginChange_42 rfl ?_
    refine z_aload_n (pc' := 46) C 1 dX8_beginChange_45 rfl rfl rfl ?_
    obtain ⟨g_46, hf⟩ := zG1_s hf
    refine z_callV0 (pc' := 49) (st := []) C (As := []) (c_X8_project hN g_46) zy_X8_project zw_349 zw_351 zv_0 (ci := 8) rfl (lg_0 hN) ⟨rfl, rfl⟩ rfl rfl rfl rfl rfl dX8_beginChange_46 rfl ?_
    refine z_aload_n (pc' := 50) C 0 dX8_beginChange_49 rfl rfl rfl ?_
    obtain ⟨gf_50, hf⟩ := zG1_s hf
    refine z_cV (pc' := 53) C hf (As := [.ref (zo w + (a + (74 + 35 * (σ.1.toNatClampNeg))))]) (fun hq => c_X5_copyFrom (a := (a + (74 + 35 * ((σ.1 + (1 : Int32)).toNatClampNeg)))) (b1 := (a + (74 + 35 * (σ.1.toNatClampNeg)))) (lg_S hN (zlt9 g_46) 0 rfl) (lg_S hN (zlt9 g_46) 1 rfl) (lg_S hN (zlt9 g_46) 2 rfl) (lg_S hN (zlt9 g_46) 3 rfl) (lg_S hN (zlt9 g_46) 4 rfl) (lg_S hN (zlt9 g_46) 5 rfl) (lg_S hN (zlt9 g_46) 6 rfl) (lg_S hN (zlt9 g_46) 7 rfl) (lg_S hN (zlt9 g_46) 8 rfl) (lg_S hN (zlt9 g_46) 9 rfl) (lg_S hN (zlt9 g_46) 13 rfl) (lg_S hN (zlt9 g_46) 14 rfl) (lg_S hN (zlt9 g_46) 15 rfl) (lg_S hN (zlt9 g_46) 16 rfl) (lg_S hN (zlt9 g_46) 17 rfl) (lg_S hN (zlt9 g_46) 18 rfl) (lg_S hN (zlt9 g_46) 19 rfl) (lg_S hN (zlt9 g_46) 20 rfl) (lg_S hN (zlt9 g_46) 21 rfl) (lg_S hN (zlt9 g_46) 22 rfl) (lg_S hN (zlt9 g_46) 23 rfl) (lg_S hN (zlt9 g_46) 24 rfl) (lg_S hN (zlt9 g_46) 25 rfl) (lg_S hN (zlt9 g_46) 26 rfl) (lg_S hN (zlt9 g_46) 27 rfl) (lg_S hN (zlt9 g_46) 28 rfl) (lg_S hN (zlt9 g_46) 29 rfl) (lg_S hN (zlt9 g_46) 30 rfl) (lg_S hN (zlt9 g_46) 31 rfl) (lg_S hN (zlt9 g_46) 32 rfl) (lg_S hN (zlt9 g_46) 33 rfl) (lg_S hN (zlt9 g_1) 0 rfl) (lg_S hN (zlt9 g_1) 1 rfl) (lg_S hN (zlt9 g_1) 2 rfl) (lg_S hN (zlt9 g_1) 3 rfl) (lg_S hN (zlt9 g_1) 4 rfl) (lg_S hN (zlt9 g_1) 5 rfl) (lg_S hN (zlt9 g_1) 6 rfl) (lg_S hN (zlt9 g_1) 7 rfl) (lg_S hN (zlt9 g_1) 8 rfl) (lg_S hN (zlt9 g_1) 9 rfl) (lg_S hN (zlt9 g_1) 13 rfl) (lg_S hN (zlt9 g_1) 14 rfl) (lg_S hN (zlt9 g_1) 15 rfl) (lg_S hN (zlt9 g_1) 16 rfl) (lg_S hN (zlt9 g_1) 17 rfl) (lg_S hN (zlt9 g_1) 18 rfl) (lg_S hN (zlt9 g_1) 19 rfl) (lg_S hN (zlt9 g_1) 20 rfl) (lg_S hN (zlt9 g_1) 21 rfl) (lg_S hN (zlt9 g_1) 22 rfl) (lg_S hN (zlt9 g_1) 23 rfl) (lg_S hN (zlt9 g_1) 24 rfl) (lg_S hN (zlt9 g_1) 25 rfl) (lg_S hN (zlt9 g_1) 26 rfl) (lg_S hN (zlt9 g_1) 27 rfl) (lg_S hN (zlt9 g_1) 28 rfl) (lg_S hN (zlt9 g_1) 29 rfl) (lg_S hN (zlt9 g_1) 30 rfl) (lg_S hN (zlt9 g_1) 31 rfl) (lg_S hN (zlt9 g_1) 32 rfl) (lg_S hN (zlt9 g_1) 33 rfl) (by omega) hq) (fun q_50 => (lgH w a h ((σ.1 + (1 : Int32)), (if (8 : Int32) < (σ.2.1 + (1 : Int32)) then (8 : Int32) else (σ.2.1 + (1 : Int32))), σ.2.2.1, σ.2.2.2.1, σ.2.2.2.2.1, (va_up σ.2.2.2.2.2 ((σ.1 + (1 : Int32)).toNatClampNeg) (pm_0 (σ.2.2.2.2.2 ((σ.1 + (1 : Int32)).toNatClampNeg)) q_50.1 q_50.2.1 q_50.2.2.1 q_50.2.2.2.1 q_50.2.2.2.2.1 q_50.2.2.2.2.2.1 q_50.2.2.2.2.2.2.1 q_50.2.2.2.2.2.2.2.1 q_50.2.2.2.2.2.2.2.2.1 q_50.2.2.2.2.2.2.2.2.2.1 q_50.2.2.2.2.2.2.2.2.2.2.1 q_50.2.2.2.2.2.2.2.2.2.2.2.1 q_50.2.2.2.2.2.2.2.2.2.2.2.2.1 q_50.2.2.2.2.2.2.2.2.2.2.2.2.2.1 q_50.2.2.2.2.2.2.2.2.2.2.2.2.2.2.1 q_50.2.2.2.2.2.2.2.2.2.2.2.2.2.2.2.1 q_50.2.2.2.2.2.2.2.2.2.2.2.2.2.2.2.2.1 q_50.2.2.2.2.2.2.2.2.2.2.2.2.2.2.2.2.2.1 q_50.2.2.2.2.2.2.2.2.2.2.2.2.2.2.2.2.2.2.1 q_50.2.2.2.2.2.2.2.2.2.2.2.2.2.2.2.2.2.2.2.1 q_50.2.2.2.2.2.2.2.2.2.2.2.2.2.2.2.2.2.2.2.2.1 q_50.2.2.2.2.2.2.2.2.2.2.2.2.2.2.2.2.2.2.2.2.2.1 q_50.2.2.2.2.2.2.2.2.2.2.2.2.2.2.2.2.2.2.2.2.2.2.1 q_50.2.2.2.2.2.2.2.2.2.2.2.2.2.2.2.2.2.2.2.2.2.2.2.1 q_50.2.2.2.2.2.2.2.2.2.2.2.2.2.2.2.2.2.2.2.2.2.2.2.2.1 q_50.2.2.2.2.2.2.2.2.2.2.2.2.2.2.2.2.2.2.2.2.2.2.2.2.2.1 q_50.2.2.2.2.2.2.2.2.2.2.2.2.2.2.2.2.2.2.2.2.2.2.2.2.2.2.1 q_50.2.2.2.2.2.2.2.2.2.2.2.2.2.2.2.2.2.2.2.2.2.2.2.2.2.2.2.1 q_50.2.2.2.2.2.2.2.2.2.2.2.2.2.2.2.2.2.2.2.2.2.2.2.2.2.2.2.2.1 q_50.2.2.2.2.2.2.2.2.2.2.2.2.2.2.2.2.2.2.2.2.2.2.2.2.2.2.2.2.2 (pj_pr_pricing (σ.2.2.2.2.2 (σ.1.toNatClampNeg))) (pj_pg_threshold (σ.2.2.2.2.2 (σ.1.toNatClampNeg))) (pj_pg_length (σ.2.2.2.2.2 (σ.1.toNatClampNeg))) (pj_pg_clen (σ.2.2.2.2.2 (σ.1.toNatClampNeg))) (pj_pg_code (σ.2.2.2.2.2 (σ.1.toNatClampNeg)))))))) (fun q_50 => []) (fun _ => lg_uS (zlt9 g_46) rfl pw_0) (fun _ => rfl) zy_X5_copyFrom zw_667 zw_668 zw_669 (ci := 5) rfl (lg_S hN (zlt9 g_46) 0 rfl) ⟨rfl, rfl⟩ rfl rfl rfl rfl rfl dX8_beginChange_50 rfl (fun q_50 hf => ?_)
    refine z_aload_n (pc' := 54) C 1 dX8_beginChange_53 rfl rfl rfl ?_
    refine z_callV0 (pc' := 57) (st := []) C (As := []) (c_X8_project hN g_46) zy_X8_project zw_349 zw_351 zv_0 (ci := 8) rfl (lg_0 hN) ⟨rfl, rfl⟩ rfl rfl rfl rfl rfl dX8_beginChange_54 rfl ?_
    cases hf
    exact (z_aret C rfl rfl dX8_beginChange_57)
set_option maxRecDepth 20000 in
theorem w_X8_load_20 {X : zC} {w : zV} {N a : Nat} {h : zH} (C : zK X w RX8 cX8_load 4 (some .int) (zrx 35 1789 4 926)) (hN : a + 389 ≤ N) {σ : LgT} {p1 e : Int32} {r : Int32 × LgT} (hf : f_X8_load_20 σ e = some r) : zZ X w (zQ X w (zrx 35 1789 4 926) (some (.int r.1)) false N (lgH w a h r.2)) 4 926 false N (lgH w a h σ) 20 [(0, .ref (zo w + a)), (1, .int p1)] [.int e] := by
  unfold f_X8_load_20 at hf
  refine z_istore_n (pc' := 21) C [(2, .int e), (0, .ref (zo w + a)), (1, .int p1)] dX8_load_20 rfl rfl rfl rfl ?_
  refine z_iload_n (pc' := 22) C 0 dX8_load_21 rfl rfl rfl ?_
  refine z_if_eq (pc' := 25) C 27 hf dX8_load_22 rfl rfl (fun g_22 hf => ?_) (fun g_22 hf => ?_)
  · refine z_aload_n (pc' := 28) C 1 dX8_load_27 rfl rfl rfl ?_
    refine z_cV (pc' := 31) C hf (As := []) (fun hq => c_X8_beginChange hN hq) (fun q_28 => (lgH w a h q_28)) (fun q_28 => [.ref (zo w + (a + (74 + 35 * (q_28.1.toNatClampNeg))))]) (fun _ => rfl) (fun _ => rfl) zy_X8_beginChange zw_662 zw_664 zv_16 (ci := 8) rfl (lg_0 hN) ⟨rfl, rfl⟩ rfl rfl rfl rfl rfl dX8_load_28 rfl (fun q_28 hf => ?_)
    obtain ⟨g_28, hf⟩ := zG1_s hf
    refine z_astore_n (pc' := 32) C [(3, .ref (zo w + (a + (74 + 35 * (q_28.1.toNatClampNeg))))), (2, .int e), (0, .ref (zo w + a)), (1, .int p1)] dX8_load_31 rfl rfl rfl rfl ?_
    refine z_aload_n (pc' := 33) C 0 dX8_load_32 rfl rfl rfl ?_
    refine z_aload_n (pc' := 34) C 2 dX8_load_33 rfl rfl rfl ?_
    refine z_getf (pc' := 37) C zci_8 zw_317 (j := 0) rfl (lg_0 hN) rfl rfl dX8_load_34 rfl ?_
    refine z_getf (pc' := 40) C zci_6 zw_278 (j := 2) rfl (lg_R hN 0 rfl) rfl rfl dX8_load_37 rfl ?_
    refine z_cV (pc' := 43) C hf (As := [.ref (zo w + (a + 1 + 2))]) (fun hq => c_X5_copyFrom (a := (a + (74 + 35 * (q_28.1.toNatClampNeg)))) (b1 := (a + 1 + 2)) (lg_S hN (zlt9 g_28) 0 rfl) (lg_S hN (zlt9 g_28) 1 rfl) (lg_S hN (zlt9 g_28) 2 rfl) (lg_S hN (zlt9 g_28) 3 rfl) (lg_S hN (zlt9 g_28) 4 rfl) (lg_S hN (zlt9 g_28) 5 rfl) (lg_S hN (zlt9 g_28) 6 rfl) (lg_S hN (zlt9 g_28) 7 rfl) (lg_S hN (zlt9 g_28) 8 rfl) (lg_S hN (zlt9 g_28) 9 rfl) (lg_S hN (zlt9 g_28) 13 rfl) (lg_S hN (zlt9 g_28) 14 rfl) (lg_S hN (zlt9 g_28) 15 rfl) (lg_S hN (zlt9 g_28) 16 rfl) (lg_S hN (zlt9 g_28) 17 rfl) (lg_S hN (zlt9 g_28) 18 rfl) (lg_S hN (zlt9 g_28) 19 rfl) (lg_S hN (zlt9 g_28) 20 rfl) (lg_S hN (zlt9 g_28) 21 rfl) (lg_S hN (zlt9 g_28) 22 rfl) (lg_S hN (zlt9 g_28) 23 rfl) (lg_S hN (zlt9 g_28) 24 rfl) (lg_S hN (zlt9 g_28) 25 rfl) (lg_S hN (zlt9 g_28) 26 rfl) (lg_S hN (zlt9 g_28) 27 rfl) (lg_S hN (zlt9 g_28) 28 rfl) (lg_S hN (zlt9 g_28) 29 rfl) (lg_S hN (zlt9 g_28) 30 rfl) (lg_S hN (zlt9 g_28) 31 rfl) (lg_S hN (zlt9 g_28) 32 rfl) (lg_S hN (zlt9 g_28) 33 rfl) (lg_R hN 2 rfl) (lg_R hN 3 rfl) (lg_R hN 4 rfl) (lg_R hN 5 rfl) (lg_R hN 6 rfl) (lg_R hN 7 rfl) (lg_R hN 8 rfl) (lg_R hN 9 rfl) (lg_R hN 10 rfl) (lg_R hN 11 rfl) (lg_R hN 15 rfl) (lg_R hN 16 rfl) (lg_R hN 17 rfl) (lg_R hN 18 rfl) (lg_R hN 19 rfl) (lg_R hN 20 rfl) (lg_R hN 21 rfl) (lg_R hN 22 rfl) (lg_R hN 23 rfl) (lg_R hN 24 rfl) (lg_R hN 25 rfl) (lg_R hN 26 rfl) (lg_R hN 27 rfl) (lg_R hN 28 rfl) (lg_R hN 29 rfl) (lg_R hN 30 rfl) (lg_R hN 31 rfl) (lg_R hN 32 rfl) (lg_R hN 33 rfl) (lg_R hN 34 rfl) (lg_R hN 35 rfl) (by omega) hq) (fun q_40 => (lgH w a h (q_28.1, q_28.2.1, q_28.2.2.1, q_28.2.2.2.1, q_28.2.2.2.2.1, (va_up q_28.2.2.2.2.2 (q_28.1.toNatClampNeg) (pm_0 (q_28.2.2.2.2.2 (q_28.1.toNatClampNeg)) q_40.1 q_40.2.1 q_40.2.2.1 q_40.2.2.2.1 q_40.2.2.2.2.1 q_40.2.2.2.2.2.1 q_40.2.2.2.2.2.2.1 q_40.2.2.2.2.2.2.2.1 q_40.2.2.2.2.2.2.2.2.1 q_40.2.2.2.2.2.2.2.2.2.1 q_40.2.2.2.2.2.2.2.2.2.2.1 q_40.2.2.2.2.2.2.2.2.2.2.2.1 q_40.2.2.2.2.2.2.2.2.2.2.2.2.1 q_40.2.2.2.2.2.2.2.2.2.2.2.2.2.1 q_40.2.2.2.2.2.2.2.2.2.2.2.2.2.2.1 q_40.2.2.2.2.2.2.2.2.2.2.2.2.2.2.2.1 q_40.2.2.2.2.2.2.2.2.2.2.2.2.2.2.2.2.1 q_40.2.2.2.2.2.2.2.2.2.2.2.2.2.2.2.2.2.1 q_40.2.2.2.2.2.2.2.2.2.2.2.2.2.2.2.2.2.2.1 q_40.2.2.2.2.2.2.2.2.2.2.2.2.2.2.2.2.2.2.2.1 q_40.2.2.2.2.2.2.2.2.2.2.2.2.2.2.2.2.2.2.2.2.1 q_40.2.2.2.2.2.2.2.2.2.2.2.2.2.2.2.2.2.2.2.2.2.1 q_40.2.2.2.2.2.2.2.2.2.2.2.2.2.2.2.2.2.2.2.2.2.2.1 q_40.2.2.2.2.2.2.2.2.2.2.2.2.2.2.2.2.2.2.2.2.2.2.2.1 q_40.2.2.2.2.2.2.2.2.2.2.2.2.2.2.2.2.2.2.2.2.2.2.2.2.1 q_40.2.2.2.2.2.2.2.2.2.2.2.2.2.2.2.2.2.2.2.2.2.2.2.2.2.1 q_40.2.2.2.2.2.2.2.2.2.2.2.2.2.2.2.2.2.2.2.2.2.2.2.2.2.2.1 q_40.2.2.2.2.2.2.2.2.2.2.2.2.2.2.2.2.2.2.2.2.2.2.2.2.2.2.2.1 q_40.2.2.2.2.2.2.2.2.2.2.2.2.2.2.2.2.2.2.2.2.2.2.2.2.2.2.2.2.1 q_40.2.2.2.2.2.2.2.2.2.2.2.2.2.2.2.2.2.2.2.2.2.2.2.2.2.2.2.2.2 (pj_pr_pricing q_28.2.2.2.1) (pj_pg_threshold q_28.2.2.2.1) (pj_pg_length q_28.2.2.2.1) (pj_pg_clen q_28.2.2.2.1) (pj_pg_code q_28.2.2.2.1)))))) (fun q_40 => []) (fun _ => lg_uS (zlt9 g_28) rfl pw_0) (fun _ => rfl) zy_X5_copyFrom zw_667 zw_668 zw_669 (ci := 5) rfl (lg_S hN (zlt9 g_28) 0 rfl) ⟨rfl, rfl⟩ rfl rfl rfl rfl rfl dX8_load_40 rfl (fun q_40 hf => ?_)
    refine z_aload_n (pc' := 44) C 0 dX8_load_43 rfl rfl rfl ?_
    refine z_getf (pc' := 47) C zci_5 zw_240 (j := 2) rfl (lg_Su hN (zlt9 g_28) 0 rfl) rfl rfl dX8_load_44 rfl ?_
    refine z_getf (pc' := 50) C zci_1 zw_51 (j := 0) rfl (lg_Su hN (zlt9 g_28) 2 rfl) rfl rfl dX8_load_47 rfl ?_
    cases hf
    exact (z_iret C rfl rfl dX8_load_50)
  · refine z_iload_n (pc' := 26) C 0 dX8_load_25 rfl rfl rfl ?_
    cases hf
    exact (z_iret C rfl rfl dX8_load_26)
set_option maxRecDepth 20000 in
theorem c_X8_load_x {w : zV} {N a : Nat} {h : zH} (hN : a + 389 ≤ N) {σ : LgT} {p1 : Int32} {E : String} (h0 : f_X8_checkRange p1 (0 : Int32) (rj_rd_filled σ.2.2.1) = some (.inl E)) : zMx w yX8_load cX8_load 4 (some .int) (zrx 35 1789 4 926) N (lgH w a h σ) [.ref (zo w + a), .int p1] (zOm (fun e => (e, lgH w a h σ)) (fun q => some (.int q)) (fun _ => lgH w a h σ) (.inl E : String ⊕ Int32)) := by
  have hf : zX1 (f_X8_checkRange p1 (0 : Int32) (rj_rd_filled σ.2.2.1)) (fun e => e) (fun _ => (none : Option (String ⊕ Int32))) = some (.inl E) := by rw [h0]; rfl
  refine zMx_of (by decide) rfl (fun X C htab => ?_)
  refine z_pick (lv' := [(0, .ref (zo w + a)), (1, .int p1)]) [0, 1] rfl ?_
  refine z_iload_n (pc' := 1) C 1 dX8_load_0 rfl rfl rfl ?_
  refine z_iconst (pc' := 2) C dX8_load_1 zk_iconst_0 rfl ?_
  refine z_aload_n (pc' := 3) C 0 dX8_load_2 rfl rfl rfl ?_
  refine z_getf (pc' := 6) C zci_8 zw_317 (j := 0) rfl (lg_0 hN) rfl rfl dX8_load_3 rfl ?_
  refine z_getf (pc' := 9) C zci_6 zw_276 (j := 1) rfl (lg_R hN 0 rfl) rfl rfl dX8_load_6 rfl ?_
  refine z_cxS (pc' := 12) C htab hf (As := [.int p1, .int (0 : Int32), .int (rj_rd_filled σ.2.2.1)]) (fun hq => c_X8_checkRange hq) (fun _ => []) (fun _ => rfl) (fun _ => rfl) zy_X8_checkRange zw_450 zw_451 rfl rfl rfl rfl rfl dX8_load_9 rfl (fun q hf => ?_)
  cases hf
set_option maxRecDepth 20000 in
theorem c_X8_load {w : zV} {N a : Nat} {h : zH} (hN : a + 389 ≤ N) {σ : LgT} {p1 : Int32} {tb : Nat} {te : va_E} (hTa : a + 389 ≤ tb) (hTb : N ≤ tb + 1) (hTc : zc N (lgH w a h σ) tb te) (hTj : zj te = true) (hga : rj_rd_ga σ.2.2.1 + 1 < N) {v : Int32} {s : Nat → LgT} {q_17 : Int32 × Int32 × Int32 × Int32 × Int32 × Int32 × Int32 × Int32 × Int32 × Int32 × Int32 × Int32 × (Nat → Int64) × Int32 × (Nat → Int32) × (Nat → Int32) × (Nat → Int32) × (Nat → Int32) × (Nat → Int32) × (Nat → Int32) × (Nat → Int32) × Int32 × Int32 × (Nat → Int32) × (Nat → Int32) × (Nat → Int32) × (Nat → Int32) × (Nat → Int32) × (Nat → Int32) × Int32 × Int32 × Int32} (h0 : f_X8_checkRange p1 (0 : Int32) (rj_rd_filled σ.2.2.1) = some (.inr ())) (hq : f_X6_read (rj_rd_filled σ.2.2.1) (rj_rd_length σ.2.2.1) (rj_rd_at σ.2.2.1) (rj_rd_kind σ.2.2.1) (rj_rd_start σ.2.2.1) (rj_rd_value σ.2.2.1) (rj_rd_error σ.2.2.1) (rj_rd_errorAt σ.2.2.1) (rj_rd_hasThreshold σ.2.2.1) (rj_rd_hasRate σ.2.2.1) (rj_rd_text σ.2.2.1) (pj_pr_day σ.2.2.2.1) (pj_pr_accounts σ.2.2.2.1) (pj_co_count σ.2.2.2.1) (pj_co_parent σ.2.2.2.1) (pj_co_retentionPercent σ.2.2.2.1) (pj_co_limitPercent σ.2.2.2.1) (pj_co_paymentDays σ.2.2.2.1) (pj_co_rank σ.2.2.2.1) (pj_co_linked σ.2.2.2.1) (pj_co_stage σ.2.2.2.1) (pj_it_count σ.2.2.2.1) (pj_it_first σ.2.2.2.1) (pj_it_price σ.2.2.2.1) (pj_it_quantity σ.2.2.2.1) (pj_it_progress σ.2.2.2.1) (pj_va_count σ.2.2.2.1) (pj_ce_count σ.2.2.2.1) (pj_li_count σ.2.2.2.1) p1 = some q_17) (hf : ∀ g, f_X8_load_20 (σ.1, σ.2.1, ld_R σ q_17, ld_D σ p1 q_17 g, σ.2.2.2.2.1, σ.2.2.2.2.2) q_17.1 = some (v, s g)) : zMP w yX8_load cX8_load 4 (some .int) (zrx 35 1789 4 926) N (lgH w a h σ) [.ref (zo w + a), .int p1] (some (.int v)) (fun N' h' => ∃ g, N ≤ g ∧ N' = g + 3 ∧ h' = lgH w a (ld_H w N h σ p1 q_17 g) (s g)) := by
  refine zMP_of (by decide) rfl (fun X C => ?_)
  refine z_pick (lv' := [(0, .ref (zo w + a)), (1, .int p1)]) [0, 1] rfl ?_
  refine z_iload_n (pc' := 1) C 1 dX8_load_0 rfl rfl rfl ?_
  refine z_iconst (pc' := 2) C dX8_load_1 zk_iconst_0 rfl ?_
  refine z_aload_n (pc' := 3) C 0 dX8_load_2 rfl rfl rfl ?_
  refine z_getf (pc' := 6) C zci_8 zw_317 (j := 0) rfl (lg_0 hN) rfl rfl dX8_load_3 rfl ?_
  refine z_getf (pc' := 9) C zci_6 zw_276 (j := 1) rfl (lg_R hN 0 rfl) rfl rfl dX8_load_6 rfl ?_
  refine z_cSr (pc' := 12) (st := []) C (c_X8_checkRange h0) zy_X8_checkRange zw_450 zw_451 rfl rfl rfl rfl rfl dX8_load_9 rfl ?_
  refine z_aload_n (pc' := 13) C 0 dX8_load_12 rfl rfl rfl ?_
  refine z_getf (pc' := 16) C zci_8 zw_317 (j := 0) rfl (lg_0 hN) rfl rfl dX8_load_13 rfl ?_
  refine z_iload_n (pc' := 17) C 1 dX8_load_16 rfl rfl rfl ?_
  refine z_callVP (pc' := 20) (st := []) C (c_X6_read (a := a + 1) (lg_R hN 0 rfl) (lg_R hN 1 rfl) (lg_R hN 2 rfl) (lg_R hN 3 rfl) (lg_R hN 4 rfl) (lg_R hN 5 rfl) (lg_R hN 6 rfl) (lg_R hN 7 rfl) (lg_R hN 8 rfl) (lg_R hN 9 rfl) (lg_R hN 10 rfl) (lg_R hN 11 rfl) (lg_R hN 15 rfl) (lg_R hN 16 rfl) (lg_R hN 17 rfl) (lg_R hN 18 rfl) (lg_R hN 19 rfl) (lg_R hN 20 rfl) (lg_R hN 21 rfl) (lg_R hN 25 rfl) (lg_R hN 31 rfl) (by omega) hTb hTc hTj hq) zy_X6_read zw_520 zw_521 zw_522 (ci := 6) rfl (lg_R hN 0 rfl) rfl rfl rfl rfl rfl dX8_load_17 rfl (fun N1 h1 hP1 => ?_)
  obtain ⟨g, hg, rfl, rfl⟩ := hP1
  refine z_eq (lg_alloc (R' := ld_R σ q_17) (D' := ld_D σ p1 q_17 g) hN hga hg ⟨rfl, rfl⟩ rfl rfl) ?_
  exact z_toP ⟨g, hg, rfl, rfl⟩ (w_X8_load_20 C (Nat.le_trans hN (by omega)) (hf g))
set_option maxRecDepth 20000 in
theorem c_X8_errorOffset {w : zV} {N a : Nat} {h : zH} (hN : a + 389 ≤ N) {σ : LgT} {r : Int32} (hf : f_X8_errorOffset σ = some r) : zM w yX8_errorOffset cX8_errorOffset 1 (some .int) (zrx 0 0 0 0) false N N (lgH w a h σ) [.ref (zo w + a)] (some (.int r)) ((lgH w a h σ)) := by
  unfold f_X8_errorOffset at hf
  refine zM_of (by decide) rfl (fun X C _ => ?_)
  refine z_pick (lv' := [(0, .ref (zo w + a))]) [0] rfl ?_
  refine z_aload_n (pc' := 1) C 0 dX8_errorOffset_0 rfl rfl rfl ?_
  refine z_getf (pc' := 4) C zci_8 zw_317 (j := 0) rfl (lg_0 hN) rfl rfl dX8_errorOffset_1 rfl ?_
  refine z_getf (pc' := 7) C zci_6 zw_286 (j := 9) rfl (lg_R hN 0 rfl) rfl rfl dX8_errorOffset_4 rfl ?_
  cases hf
  exact (z_iret C rfl rfl dX8_errorOffset_7)
set_option maxRecDepth 20000 in
theorem c_X8_day {w : zV} {N a : Nat} {h : zH} (hN : a + 389 ≤ N) {σ : LgT} {r : Int32} (hf : f_X8_day σ = some r) : zM w yX8_day cX8_day 1 (some .int) (zrx 1 28 0 0) false N N (lgH w a h σ) [.ref (zo w + a)] (some (.int r)) ((lgH w a h σ)) := by
  unfold f_X8_day at hf
  refine zM_of (by decide) rfl (fun X C _ => ?_)
  refine z_pick (lv' := [(0, .ref (zo w + a))]) [0] rfl ?_
  refine z_aload_n (pc' := 1) C 0 dX8_day_0 rfl rfl rfl ?_
  obtain ⟨g_1, hf⟩ := zG1_s hf
  refine z_callV0 (pc' := 4) (st := []) C (As := []) (c_X8_project hN g_1) zy_X8_project zw_349 zw_351 zv_0 (ci := 8) rfl (lg_0 hN) ⟨rfl, rfl⟩ rfl rfl rfl rfl rfl dX8_day_1 rfl ?_
  refine z_getf (pc' := 7) C zci_5 zw_235 (j := 0) rfl (lg_S hN (zlt9 g_1) 0 rfl) rfl rfl dX8_day_4 rfl ?_
  cases hf
  exact (z_iret C rfl rfl dX8_day_7)
set_option maxRecDepth 20000 in
theorem c_X8_contractCount {w : zV} {N a : Nat} {h : zH} (hN : a + 389 ≤ N) {σ : LgT} {r : Int32} (hf : f_X8_contractCount σ = some r) : zM w yX8_contractCount cX8_contractCount 1 (some .int) (zrx 1 28 0 0) false N N (lgH w a h σ) [.ref (zo w + a)] (some (.int r)) ((lgH w a h σ)) := by
  unfold f_X8_contractCount at hf
  refine zM_of (by decide) rfl (fun X C _ => ?_)
  refine z_pick (lv' := [(0, .ref (zo w + a))]) [0] rfl ?_
  refine z_aload_n (pc' := 1) C 0 dX8_contractCount_0 rfl rfl rfl ?_
  obtain ⟨g_1, hf⟩ := zG1_s hf
  refine z_callV0 (pc' := 4) (st := []) C (As := []) (c_X8_project hN g_1) zy_X8_project zw_349 zw_351 zv_0 (ci := 8) rfl (lg_0 hN) ⟨rfl, rfl⟩ rfl rfl rfl rfl rfl dX8_contractCount_1 rfl ?_
  refine z_getf (pc' := 7) C zci_5 zw_240 (j := 2) rfl (lg_S hN (zlt9 g_1) 0 rfl) rfl rfl dX8_contractCount_4 rfl ?_
  refine z_getf (pc' := 10) C zci_1 zw_51 (j := 0) rfl (lg_S hN (zlt9 g_1) 2 rfl) rfl rfl dX8_contractCount_7 rfl ?_
  cases hf
  exact (z_iret C rfl rfl dX8_contractCount_10)
set_option maxRecDepth 20000 in
theorem c_X8_checkIndex {w : zV} {N : Nat} {h : zH} {p0 : Int32} {p1 : Int32} {r : (String) ⊕ (Unit)} (hf : f_X8_checkIndex p0 p1 = some r) : zMx w yX8_checkIndex cX8_checkIndex 2 none (zrx 6 90 1 6) N h [.int p0, .int p1] (zOm (fun e => (e, h)) (fun q => none) (fun q => h) r) := by
  unfold f_X8_checkIndex at hf
  refine zMx_of (by decide) rfl (fun X C htab => ?_)
  refine z_pick (lv' := [(0, .int p0), (1, .int p1)]) [0, 1] rfl ?_
  refine z_iload_n (pc' := 1) C 0 dX8_checkIndex_0 rfl rfl rfl ?_
  refine z_if_lt (pc' := 4) C 9 hf dX8_checkIndex_1 rfl rfl (fun g_1 hf => ?_) (fun g_1 hf => ?_)
  · cases hf
    exact z_throw C htab (i := 11) (j := 0) rfl rfl zat_io zbt_io zct_io (by decide) zw_714 zw_21 rfl dX8_checkIndex_9 rfl dX8_checkIndex_12 rfl dX8_checkIndex_13 rfl dX8_checkIndex_16 rfl dX8_checkIndex_19 rfl rfl
  · refine z_iload_n (pc' := 5) C 0 dX8_checkIndex_4 rfl rfl rfl ?_
    refine z_iload_n (pc' := 6) C 1 dX8_checkIndex_5 rfl rfl rfl ?_
    refine z_icmp_lt (pc' := 9) C 20 hf dX8_checkIndex_6 rfl rfl (fun g_6 hf => ?_) (fun g_6 hf => ?_)
    · cases hf
      exact z_xr (z_widen (by decide) (by decide) (z_vret C rfl rfl dX8_checkIndex_20))
    · cases hf
      exact z_throw C htab (i := 11) (j := 0) rfl rfl zat_io zbt_io zct_io (by decide) zw_714 zw_21 rfl dX8_checkIndex_9 rfl dX8_checkIndex_12 rfl dX8_checkIndex_13 rfl dX8_checkIndex_16 rfl dX8_checkIndex_19 rfl rfl
set_option maxRecDepth 20000 in
theorem c_X8_checkContract {w : zV} {N a : Nat} {h : zH} (hN : a + 389 ≤ N) {σ : LgT} {p1 : Int32} {r : (String) ⊕ (Unit)} (hf : f_X8_checkContract σ p1 = some r) : zMx w yX8_checkContract cX8_checkContract 2 none (zrx 7 119 1 6) N (lgH w a h σ) [.ref (zo w + a), .int p1] (zOm (fun e => (e, (lgH w a h σ))) (fun q => none) (fun q => (lgH w a h σ)) r) := by
  unfold f_X8_checkContract at hf
  refine zMx_of (by decide) rfl (fun X C htab => ?_)
  refine z_pick (lv' := [(0, .ref (zo w + a)), (1, .int p1)]) [0, 1] rfl ?_
  refine z_iload_n (pc' := 1) C 1 dX8_checkContract_0 rfl rfl rfl ?_
  refine z_aload_n (pc' := 2) C 0 dX8_checkContract_1 rfl rfl rfl ?_
  obtain ⟨g_2, hf⟩ := zG1_s hf
  refine z_callV0 (pc' := 5) (st := [.int p1]) C (As := []) (c_X8_project hN g_2) zy_X8_project zw_349 zw_351 zv_0 (ci := 8) rfl (lg_0 hN) ⟨rfl, rfl⟩ rfl rfl rfl rfl rfl dX8_checkContract_2 rfl ?_
  refine z_getf (pc' := 8) C zci_5 zw_240 (j := 2) rfl (lg_S hN (zlt9 g_2) 0 rfl) rfl rfl dX8_checkContract_5 rfl ?_
  refine z_getf (pc' := 11) C zci_1 zw_51 (j := 0) rfl (lg_S hN (zlt9 g_2) 2 rfl) rfl rfl dX8_checkContract_8 rfl ?_
  refine z_cxS (pc' := 14) C htab hf (As := [.int p1, .int (pj_co_count (σ.2.2.2.2.2 (σ.1.toNatClampNeg)))]) (fun hq => c_X8_checkIndex hq) (fun q_11 => []) (fun _ => rfl) (fun _ => rfl) zy_X8_checkIndex zw_711 zw_712 rfl rfl rfl rfl rfl dX8_checkContract_11 rfl (fun q_11 hf => ?_)
  cases hf
  exact z_xr (z_widen (by decide) (by decide) (z_vret C rfl rfl dX8_checkContract_14))
set_option maxRecDepth 20000 in
theorem c_X8_parent {w : zV} {N a : Nat} {h : zH} (hN : a + 389 ≤ N) {σ : LgT} {p1 : Int32} {r : (String) ⊕ (Int32)} (hf : f_X8_parent σ p1 = some r) : zMx w yX8_parent cX8_parent 2 (some .int) (zrx 8 148 1 6) N (lgH w a h σ) [.ref (zo w + a), .int p1] (zOm (fun e => (e, (lgH w a h σ))) (fun q => some (.int q)) (fun q => (lgH w a h σ)) r) := by
  unfold f_X8_parent at hf
  refine zMx_of (by decide) rfl (fun X C htab => ?_)
  refine z_pick (lv' := [(0, .ref (zo w + a)), (1, .int p1)]) [0, 1] rfl ?_
  refine z_aload_n (pc' := 1) C 0 dX8_parent_0 rfl rfl rfl ?_
  refine z_iload_n (pc' := 2) C 1 dX8_parent_1 rfl rfl rfl ?_
  refine z_cxV (pc' := 5) C htab hf (As := [.int p1]) (fun hq => c_X8_checkContract hN hq) (fun q_2 => []) (fun _ => rfl) (fun _ => rfl) zy_X8_checkContract zw_707 zw_709 zv_17 (ci := 8) rfl (lg_0 hN) rfl rfl rfl rfl rfl dX8_parent_2 rfl (fun q_2 hf => ?_)
  refine z_aload_n (pc' := 6) C 0 dX8_parent_5 rfl rfl rfl ?_
  obtain ⟨g_6, hf⟩ := zG1_s hf
  refine z_callV0 (pc' := 9) (st := []) C (As := []) (c_X8_project hN g_6) zy_X8_project zw_349 zw_351 zv_0 (ci := 8) rfl (lg_0 hN) ⟨rfl, rfl⟩ rfl rfl rfl rfl rfl dX8_parent_6 rfl ?_
  refine z_getf (pc' := 12) C zci_5 zw_240 (j := 2) rfl (lg_S hN (zlt9 g_6) 0 rfl) rfl rfl dX8_parent_9 rfl ?_
  refine z_getf (pc' := 15) C zci_1 zw_54 (j := 1) rfl (lg_S hN (zlt9 g_6) 2 rfl) rfl rfl dX8_parent_12 rfl ?_
  refine z_iload_n (pc' := 16) C 1 dX8_parent_15 rfl rfl rfl ?_
  refine z_iald (pc' := 17) C hf (lg_S hN (zlt9 g_6) 3 rfl) dX8_parent_16 rfl (fun v_16 hf => ?_)
  cases hf
  exact z_xr (z_widen (by decide) (by decide) (z_iret C rfl rfl dX8_parent_17))
set_option maxRecDepth 20000 in
theorem c_X8_itemCount {w : zV} {N a : Nat} {h : zH} (hN : a + 389 ≤ N) {σ : LgT} {p1 : Int32} {r : (String) ⊕ (Int32)} (hf : f_X8_itemCount σ p1 = some r) : zMx w yX8_itemCount cX8_itemCount 2 (some .int) (zrx 8 148 1 6) N (lgH w a h σ) [.ref (zo w + a), .int p1] (zOm (fun e => (e, (lgH w a h σ))) (fun q => some (.int q)) (fun q => (lgH w a h σ)) r) := by
  unfold f_X8_itemCount at hf
  refine zMx_of (by decide) rfl (fun X C htab => ?_)
  refine z_pick (lv' := [(0, .ref (zo w + a)), (1, .int p1)]) [0, 1] rfl ?_
  refine z_aload_n (pc' := 1) C 0 dX8_itemCount_0 rfl rfl rfl ?_
  refine z_iload_n (pc' := 2) C 1 dX8_itemCount_1 rfl rfl rfl ?_
  refine z_cxV (pc' := 5) C htab hf (As := [.int p1]) (fun hq => c_X8_checkContract hN hq) (fun q_2 => []) (fun _ => rfl) (fun _ => rfl) zy_X8_checkContract zw_707 zw_709 zv_17 (ci := 8) rfl (lg_0 hN) rfl rfl rfl rfl rfl dX8_itemCount_2 rfl (fun q_2 hf => ?_)
  refine z_aload_n (pc' := 6) C 0 dX8_itemCount_5 rfl rfl rfl ?_
  obtain ⟨g_6, hf⟩ := zG1_s hf
  refine z_callV0 (pc' := 9) (st := []) C (As := []) (c_X8_project hN g_6) zy_X8_project zw_349 zw_351 zv_0 (ci := 8) rfl (lg_0 hN) ⟨rfl, rfl⟩ rfl rfl rfl rfl rfl dX8_itemCount_6 rfl ?_
  refine z_getf (pc' := 12) C zci_5 zw_247 (j := 4) rfl (lg_S hN (zlt9 g_6) 0 rfl) rfl rfl dX8_itemCount_9 rfl ?_
  refine z_getf (pc' := 15) C zci_2 zw_125 (j := 0) rfl (lg_S hN (zlt9 g_6) 13 rfl) rfl rfl dX8_itemCount_12 rfl ?_
  refine z_iload_n (pc' := 16) C 1 dX8_itemCount_15 rfl rfl rfl ?_
  refine z_iald (pc' := 17) C hf (lg_S hN (zlt9 g_6) 14 rfl) dX8_itemCount_16 rfl (fun v_16 hf => ?_)
  cases hf
  exact z_xr (z_widen (by decide) (by decide) (z_iret C rfl rfl dX8_itemCount_17))
set_option maxRecDepth 20000 in
theorem c_X8_checkItem {w : zV} {N a : Nat} {h : zH} (hN : a + 389 ≤ N) {σ : LgT} {p1 : Int32} {p2 : Int32} {r : (String) ⊕ (Unit)} (hf : f_X8_checkItem σ p1 p2 = some r) : zMx w yX8_checkItem cX8_checkItem 3 none (zrx 8 148 2 12) N (lgH w a h σ) [.ref (zo w + a), .int p1, .int p2] (zOm (fun e => (e, (lgH w a h σ))) (fun q => none) (fun q => (lgH w a h σ)) r) := by
  unfold f_X8_checkItem at hf
  refine zMx_of (by decide) rfl (fun X C htab => ?_)
  refine z_pick (lv' := [(0, .ref (zo w + a)), (1, .int p1), (2, .int p2)]) [0, 1, 2] rfl ?_
  refine z_aload_n (pc' := 1) C 0 dX8_checkItem_0 rfl rfl rfl ?_
  refine z_iload_n (pc' := 2) C 1 dX8_checkItem_1 rfl rfl rfl ?_
  refine z_cxV (pc' := 5) C htab hf (As := [.int p1]) (fun hq => c_X8_checkContract hN hq) (fun q_2 => []) (fun _ => rfl) (fun _ => rfl) zy_X8_checkContract zw_707 zw_709 zv_17 (ci := 8) rfl (lg_0 hN) rfl rfl rfl rfl rfl dX8_checkItem_2 rfl (fun q_2 hf => ?_)
  refine z_iload_n (pc' := 6) C 2 dX8_checkItem_5 rfl rfl rfl ?_
  refine z_aload_n (pc' := 7) C 0 dX8_checkItem_6 rfl rfl rfl ?_
  obtain ⟨g_7, hf⟩ := zG1_s hf
  refine z_callV0 (pc' := 10) (st := [.int p2]) C (As := []) (c_X8_project hN g_7) zy_X8_project zw_349 zw_351 zv_0 (ci := 8) rfl (lg_0 hN) ⟨rfl, rfl⟩ rfl rfl rfl rfl rfl dX8_checkItem_7 rfl ?_
  refine z_getf (pc' := 13) C zci_5 zw_247 (j := 4) rfl (lg_S hN (zlt9 g_7) 0 rfl) rfl rfl dX8_checkItem_10 rfl ?_
  refine z_getf (pc' := 16) C zci_2 zw_125 (j := 0) rfl (lg_S hN (zlt9 g_7) 13 rfl) rfl rfl dX8_checkItem_13 rfl ?_
  refine z_iload_n (pc' := 17) C 1 dX8_checkItem_16 rfl rfl rfl ?_
  refine z_iald (pc' := 18) C hf (lg_S hN (zlt9 g_7) 14 rfl) dX8_checkItem_17 rfl (fun v_17 hf => ?_)
  refine z_cxS (pc' := 21) C htab hf (As := [.int p2, .int v_17]) (fun hq => c_X8_checkIndex hq) (fun q_18 => []) (fun _ => rfl) (fun _ => rfl) zy_X8_checkIndex zw_711 zw_712 rfl rfl rfl rfl rfl dX8_checkItem_18 rfl (fun q_18 hf => ?_)
  cases hf
  exact z_xr (z_widen (by decide) (by decide) (z_vret C rfl rfl dX8_checkItem_21))
set_option maxRecDepth 20000 in
theorem c_X8_quantity {w : zV} {N a : Nat} {h : zH} (hN : a + 389 ≤ N) {σ : LgT} {p1 : Int32} {p2 : Int32} {r : (String) ⊕ (Int32)} (hf : f_X8_quantity σ p1 p2 = some r) : zMx w yX8_quantity cX8_quantity 3 (some .int) (zrx 9 178 2 12) N (lgH w a h σ) [.ref (zo w + a), .int p1, .int p2] (zOm (fun e => (e, (lgH w a h σ))) (fun q => some (.int q)) (fun q => (lgH w a h σ)) r) := by
  unfold f_X8_quantity at hf
  refine zMx_of (by decide) rfl (fun X C htab => ?_)
  refine z_pick (lv' := [(0, .ref (zo w + a)), (1, .int p1), (2, .int p2)]) [0, 1, 2] rfl ?_
  refine z_aload_n (pc' := 1) C 0 dX8_quantity_0 rfl rfl rfl ?_
  refine z_iload_n (pc' := 2) C 1 dX8_quantity_1 rfl rfl rfl ?_
  refine z_iload_n (pc' := 3) C 2 dX8_quantity_2 rfl rfl rfl ?_
  refine z_cxV (pc' := 6) C htab hf (As := [.int p1, .int p2]) (fun hq => c_X8_checkItem hN hq) (fun q_3 => []) (fun _ => rfl) (fun _ => rfl) zy_X8_checkItem zw_744 zw_746 zv_18 (ci := 8) rfl (lg_0 hN) rfl rfl rfl rfl rfl dX8_quantity_3 rfl (fun q_3 hf => ?_)
  refine z_aload_n (pc' := 7) C 0 dX8_quantity_6 rfl rfl rfl ?_
  obtain ⟨g_7, hf⟩ := zG1_s hf
  refine z_callV0 (pc' := 10) (st := []) C (As := []) (c_X8_project hN g_7) zy_X8_project zw_349 zw_351 zv_0 (ci := 8) rfl (lg_0 hN) ⟨rfl, rfl⟩ rfl rfl rfl rfl rfl dX8_quantity_7 rfl ?_
  refine z_getf (pc' := 13) C zci_5 zw_247 (j := 4) rfl (lg_S hN (zlt9 g_7) 0 rfl) rfl rfl dX8_quantity_10 rfl ?_
  refine z_getf (pc' := 16) C zci_2 zw_130 (j := 3) rfl (lg_S hN (zlt9 g_7) 13 rfl) rfl rfl dX8_quantity_13 rfl ?_
  refine z_iload_n (pc' := 17) C 1 dX8_quantity_16 rfl rfl rfl ?_
  refine z_iload_n (pc' := 18) C 2 dX8_quantity_17 rfl rfl rfl ?_
  refine z_cS (pc' := 21) C hf (As := [.int p1, .int p2]) (fun hq => c_X2_slotOf  hq) (fun _ => (lgH w a h σ)) (fun q_18 => [.int q_18, .ref (zo w + ((a + (74 + 35 * (σ.1.toNatClampNeg))) + 17))]) (fun _ => rfl) (fun _ => rfl) zy_X2_slotOf zw_748 zw_395 ⟨rfl, rfl⟩ rfl rfl rfl rfl rfl dX8_quantity_18 rfl (fun q_18 hf => ?_)
  refine z_iald (pc' := 22) C hf (lg_S hN (zlt9 g_7) 17 rfl) dX8_quantity_21 rfl (fun v_21 hf => ?_)
  cases hf
  exact z_xr (z_widen (by decide) (by decide) (z_iret C rfl rfl dX8_quantity_22))
set_option maxRecDepth 20000 in
theorem c_X8_specialRate {w : zV} {N a : Nat} {h : zH} (hN : a + 389 ≤ N) {σ : LgT} (hG : PgW w N a h σ) {p1 : Int32} {p2 : Int32} {r : (String × LgT) ⊕ (Int32 × LgT)} (hf : f_X8_specialRate σ p1 p2 = some r) : zMx w yX8_specialRate cX8_specialRate 4 (some .int) (zrx 9 178 2 12) N (lgH w a h σ) [.ref (zo w + a), .int p1, .int p2] (zOm (fun e => (e.1, lgH w a h e.2)) (fun q => some (.int q.1)) (fun q => lgH w a h q.2) r) := by
  unfold f_X8_specialRate at hf
  obtain ⟨hG1, hG2, ⟨_, hG3⟩, hG4, hG5, hG6, hG7⟩ := hG
  refine zMx_of (by decide) rfl (fun X C htab => ?_)
  refine z_pick (lv' := [(0, .ref (zo w + a)), (1, .int p1), (2, .int p2)]) [0, 1, 2] rfl ?_
  refine z_aload_n (pc' := 1) C 0 dX8_specialRate_0 rfl rfl rfl ?_
  refine z_iload_n (pc' := 2) C 1 dX8_specialRate_1 rfl rfl rfl ?_
  refine z_iload_n (pc' := 3) C 2 dX8_specialRate_2 rfl rfl rfl ?_
  refine z_cxV (pc' := 6) C htab hf (As := [.int p1, .int p2]) (fun hq => c_X8_checkItem hN hq) (fun q_3 => []) (fun _ => rfl) (fun _ => rfl) zy_X8_checkItem zw_744 zw_746 zv_18 (ci := 8) rfl (lg_0 hN) rfl rfl rfl rfl rfl dX8_specialRate_3 rfl (fun q_3 hf => ?_)
  refine z_aload_n (pc' := 7) C 0 dX8_specialRate_6 rfl rfl rfl ?_
  obtain ⟨g_7, hf⟩ := zG1_s hf
  refine z_callV0 (pc' := 10) (st := []) C (As := []) (c_X8_project hN g_7) zy_X8_project zw_349 zw_351 zv_0 (ci := 8) rfl (lg_0 hN) ⟨rfl, rfl⟩ rfl rfl rfl rfl rfl dX8_specialRate_7 rfl ?_
  refine z_astore_n (pc' := 11) C [(3, .ref (zo w + (a + (74 + 35 * (σ.1.toNatClampNeg))))), (0, .ref (zo w + a)), (1, .int p1), (2, .int p2)] dX8_specialRate_10 rfl rfl rfl rfl ?_
  refine z_aload_n (pc' := 12) C 0 dX8_specialRate_11 rfl rfl rfl ?_
  refine z_getf (pc' := 15) C zci_5 zw_247 (j := 4) rfl (lg_S hN (zlt9 g_7) 0 rfl) rfl rfl dX8_specialRate_12 rfl ?_
  refine z_iload_n (pc' := 16) C 2 dX8_specialRate_15 rfl rfl rfl ?_
  refine z_iload_n (pc' := 17) C 3 dX8_specialRate_16 rfl rfl rfl ?_
  refine z_cS (pc' := 20) C hf (As := [.int p1, .int p2]) (fun hq => c_X2_slotOf  hq) (fun _ => (lgH w a h σ)) (fun q_17 => [.int q_17, .ref (zo w + ((a + (74 + 35 * (σ.1.toNatClampNeg))) + 13))]) (fun _ => rfl) (fun _ => rfl) zy_X2_slotOf zw_748 zw_395 ⟨rfl, rfl⟩ rfl rfl rfl rfl rfl dX8_specialRate_17 rfl (fun q_17 hf => ?_)
  refine z_aload_n (pc' := 21) C 0 dX8_specialRate_20 rfl rfl rfl ?_
  refine z_getf (pc' := 24) C zci_5 zw_244 (j := 3) rfl (lg_S hN (zlt9 g_7) 0 rfl) rfl rfl dX8_specialRate_21 rfl ?_
  have hfr_24 := lg_far hG5 hG6 hG7 (zlt9 g_7)
  refine z_cV (pc' := 27) C hf (As := [.int q_17, .ref (zo w + (pj_pr_pricing (σ.2.2.2.2.2 σ.1.toNatClampNeg)))]) (fun hq => c_X2_specialRateOf (a := ((a + (74 + 35 * (σ.1.toNatClampNeg))) + 13)) (b2 := (pj_pr_pricing (σ.2.2.2.2.2 σ.1.toNatClampNeg))) (lg_S hN (zlt9 g_7) 13 rfl) (lg_S hN (zlt9 g_7) 15 rfl) (lg_S hN (zlt9 g_7) 16 rfl) (lg_S hN (zlt9 g_7) 17 rfl) (lg_g0 hG1 hG2 hG5) (lg_g1 hG1 hG3 hG6) (lg_g2 hG1 hG4 hG7) (by omega) hq) (fun q_24 => (lgH w a h (σ.1, σ.2.1, (rs_rd_stk σ.2.2.1 q_24.2), σ.2.2.2.1, σ.2.2.2.2.1, σ.2.2.2.2.2))) (fun q_24 => [.int q_24.1]) (fun _ => lg_uG hG1 hG3 hG6) (fun _ => rfl) zy_X2_specialRateOf zw_756 zw_757 zw_758 (ci := 2) rfl (lg_S hN (zlt9 g_7) 13 rfl) ⟨rfl, rfl⟩ rfl rfl rfl rfl rfl dX8_specialRate_24 rfl (fun q_24 hf => ?_)
  cases hf
  exact z_xr (z_widen (by decide) (by decide) (z_iret C rfl rfl dX8_specialRate_27))
set_option maxRecDepth 20000 in
theorem c_X8_itemValue {w : zV} {N a : Nat} {h : zH} (hN : a + 389 ≤ N) {σ : LgT} (hG : PgW w N a h σ) {p1 : Int32} {p2 : Int32} {r : (String × LgT) ⊕ (Int64 × LgT)} (hf : f_X8_itemValue σ p1 p2 = some r) : zMx w yX8_itemValue cX8_itemValue 4 (some .long) (zrx 9 178 2 12) N (lgH w a h σ) [.ref (zo w + a), .int p1, .int p2] (zOm (fun e => (e.1, lgH w a h e.2)) (fun q => some (.long q.1)) (fun q => lgH w a h q.2) r) := by
  unfold f_X8_itemValue at hf
  obtain ⟨hG1, hG2, ⟨_, hG3⟩, hG4, hG5, hG6, hG7⟩ := hG
  refine zMx_of (by decide) rfl (fun X C htab => ?_)
  refine z_pick (lv' := [(0, .ref (zo w + a)), (1, .int p1), (2, .int p2)]) [0, 1, 2] rfl ?_
  refine z_aload_n (pc' := 1) C 0 dX8_itemValue_0 rfl rfl rfl ?_
  refine z_iload_n (pc' := 2) C 1 dX8_itemValue_1 rfl rfl rfl ?_
  refine z_iload_n (pc' := 3) C 2 dX8_itemValue_2 rfl rfl rfl ?_
  refine z_cxV (pc' := 6) C htab hf (As := [.int p1, .int p2]) (fun hq => c_X8_checkItem hN hq) (fun q_3 => []) (fun _ => rfl) (fun _ => rfl) zy_X8_checkItem zw_744 zw_746 zv_18 (ci := 8) rfl (lg_0 hN) rfl rfl rfl rfl rfl dX8_itemValue_3 rfl (fun q_3 hf => ?_)
  refine z_aload_n (pc' := 7) C 0 dX8_itemValue_6 rfl rfl rfl ?_
  obtain ⟨g_7, hf⟩ := zG1_s hf
  refine z_callV0 (pc' := 10) (st := []) C (As := []) (c_X8_project hN g_7) zy_X8_project zw_349 zw_351 zv_0 (ci := 8) rfl (lg_0 hN) ⟨rfl, rfl⟩ rfl rfl rfl rfl rfl dX8_itemValue_7 rfl ?_
  refine z_astore_n (pc' := 11) C [(3, .ref (zo w + (a + (74 + 35 * (σ.1.toNatClampNeg))))), (0, .ref (zo w + a)), (1, .int p1), (2, .int p2)] dX8_itemValue_10 rfl rfl rfl rfl ?_
  refine z_aload_n (pc' := 12) C 0 dX8_itemValue_11 rfl rfl rfl ?_
  refine z_getf (pc' := 15) C zci_5 zw_247 (j := 4) rfl (lg_S hN (zlt9 g_7) 0 rfl) rfl rfl dX8_itemValue_12 rfl ?_
  refine z_iload_n (pc' := 16) C 2 dX8_itemValue_15 rfl rfl rfl ?_
  refine z_iload_n (pc' := 17) C 3 dX8_itemValue_16 rfl rfl rfl ?_
  refine z_cS (pc' := 20) C hf (As := [.int p1, .int p2]) (fun hq => c_X2_slotOf  hq) (fun _ => (lgH w a h σ)) (fun q_17 => [.int q_17, .ref (zo w + ((a + (74 + 35 * (σ.1.toNatClampNeg))) + 13))]) (fun _ => rfl) (fun _ => rfl) zy_X2_slotOf zw_748 zw_395 ⟨rfl, rfl⟩ rfl rfl rfl rfl rfl dX8_itemValue_17 rfl (fun q_17 hf => ?_)
  refine z_aload_n (pc' := 21) C 0 dX8_itemValue_20 rfl rfl rfl ?_
  refine z_getf (pc' := 24) C zci_5 zw_244 (j := 3) rfl (lg_S hN (zlt9 g_7) 0 rfl) rfl rfl dX8_itemValue_21 rfl ?_
  have hfr_24 := lg_far hG5 hG6 hG7 (zlt9 g_7)
  refine z_cV (pc' := 27) C hf (As := [.int q_17, .ref (zo w + (pj_pr_pricing (σ.2.2.2.2.2 σ.1.toNatClampNeg)))]) (fun hq => c_X2_valueOf (a := ((a + (74 + 35 * (σ.1.toNatClampNeg))) + 13)) (b2 := (pj_pr_pricing (σ.2.2.2.2.2 σ.1.toNatClampNeg))) (lg_S hN (zlt9 g_7) 13 rfl) (lg_S hN (zlt9 g_7) 15 rfl) (lg_S hN (zlt9 g_7) 16 rfl) (lg_S hN (zlt9 g_7) 17 rfl) (lg_S hN (zlt9 g_7) 18 rfl) (lg_g0 hG1 hG2 hG5) (lg_g1 hG1 hG3 hG6) (lg_g2 hG1 hG4 hG7) (by omega) hq) (fun q_24 => (lgH w a h (σ.1, σ.2.1, (rs_rd_stk σ.2.2.1 q_24.2), σ.2.2.2.1, σ.2.2.2.2.1, σ.2.2.2.2.2))) (fun q_24 => [.long q_24.1]) (fun _ => lg_uG hG1 hG3 hG6) (fun _ => rfl) zy_X2_valueOf zw_772 zw_398 zw_399 (ci := 2) rfl (lg_S hN (zlt9 g_7) 13 rfl) ⟨rfl, rfl⟩ rfl rfl rfl rfl rfl dX8_itemValue_24 rfl (fun q_24 hf => ?_)
  cases hf
  exact z_xr (z_widen (by decide) (by decide) (z_lret C rfl rfl dX8_itemValue_27))
set_option maxRecDepth 20000 in
theorem c_X8_firstSum {w : zV} {N a : Nat} {h : zH} (hN : a + 389 ≤ N) {σ : LgT} {p1 : Int32} {r : (String) ⊕ (Int64)} (hf : f_X8_firstSum σ p1 = some r) : zMx w yX8_firstSum cX8_firstSum 2 (some .long) (zrx 8 148 1 6) N (lgH w a h σ) [.ref (zo w + a), .int p1] (zOm (fun e => (e, (lgH w a h σ))) (fun q => some (.long q)) (fun q => (lgH w a h σ)) r) := by
  unfold f_X8_firstSum at hf
  refine zMx_of (by decide) rfl (fun X C htab => ?_)
  refine z_pick (lv' := [(0, .ref (zo w + a)), (1, .int p1)]) [0, 1] rfl ?_
  refine z_aload_n (pc' := 1) C 0 dX8_firstSum_0 rfl rfl rfl ?_
  refine z_iload_n (pc' := 2) C 1 dX8_firstSum_1 rfl rfl rfl ?_
  refine z_cxV (pc' := 5) C htab hf (As := [.int p1]) (fun hq => c_X8_checkContract hN hq) (fun q_2 => []) (fun _ => rfl) (fun _ => rfl) zy_X8_checkContract zw_707 zw_709 zv_17 (ci := 8) rfl (lg_0 hN) rfl rfl rfl rfl rfl dX8_firstSum_2 rfl (fun q_2 hf => ?_)
  refine z_aload_n (pc' := 6) C 0 dX8_firstSum_5 rfl rfl rfl ?_
  obtain ⟨g_6, hf⟩ := zG1_s hf
  refine z_callV0 (pc' := 9) (st := []) C (As := []) (c_X8_project hN g_6) zy_X8_project zw_349 zw_351 zv_0 (ci := 8) rfl (lg_0 hN) ⟨rfl, rfl⟩ rfl rfl rfl rfl rfl dX8_firstSum_6 rfl ?_
  refine z_getf (pc' := 12) C zci_5 zw_247 (j := 4) rfl (lg_S hN (zlt9 g_6) 0 rfl) rfl rfl dX8_firstSum_9 rfl ?_
  refine z_iload_n (pc' := 13) C 1 dX8_firstSum_12 rfl rfl rfl ?_
  refine z_cV (pc' := 16) C hf (As := [.int p1]) (fun hq => c_X2_firstSumOf (a := ((a + (74 + 35 * (σ.1.toNatClampNeg))) + 13)) (lg_S hN (zlt9 g_6) 13 rfl) (lg_S hN (zlt9 g_6) 14 rfl) (lg_S hN (zlt9 g_6) 15 rfl) (lg_S hN (zlt9 g_6) 16 rfl) hq) (fun _ => (lgH w a h σ)) (fun q_13 => [.long q_13]) (fun _ => rfl) (fun _ => rfl) zy_X2_firstSumOf zw_780 zw_781 zw_782 (ci := 2) rfl (lg_S hN (zlt9 g_6) 13 rfl) ⟨rfl, rfl⟩ rfl rfl rfl rfl rfl dX8_firstSum_13 rfl (fun q_13 hf => ?_)
  cases hf
  exact z_xr (z_widen (by decide) (by decide) (z_lret C rfl rfl dX8_firstSum_16))
set_option maxRecDepth 20000 in
theorem c_X8_presentSum {w : zV} {N a : Nat} {h : zH} (hN : a + 389 ≤ N) {σ : LgT} (hG : PgW w N a h σ) {p1 : Int32} {r : (String × LgT) ⊕ (Int64 × LgT)} (hf : f_X8_presentSum σ p1 = some r) : zMx w yX8_presentSum cX8_presentSum 2 (some .long) (zrx 8 205 1 6) N (lgH w a h σ) [.ref (zo w + a), .int p1] (zOm (fun e => (e.1, lgH w a h e.2)) (fun q => some (.long q.1)) (fun q => lgH w a h q.2) r) := by
  unfold f_X8_presentSum at hf
  obtain ⟨hG1, hG2, ⟨_, hG3⟩, hG4, hG5, hG6, hG7⟩ := hG
  refine zMx_of (by decide) rfl (fun X C htab => ?_)
  refine z_pick (lv' := [(0, .ref (zo w + a)), (1, .int p1)]) [0, 1] rfl ?_
  refine z_aload_n (pc' := 1) C 0 dX8_presentSum_0 rfl rfl rfl ?_
  refine z_iload_n (pc' := 2) C 1 dX8_presentSum_1 rfl rfl rfl ?_
  refine z_cxV (pc' := 5) C htab hf (As := [.int p1]) (fun hq => c_X8_checkContract hN hq) (fun q_2 => []) (fun _ => rfl) (fun _ => rfl) zy_X8_checkContract zw_707 zw_709 zv_17 (ci := 8) rfl (lg_0 hN) rfl rfl rfl rfl rfl dX8_presentSum_2 rfl (fun q_2 hf => ?_)
  refine z_aload_n (pc' := 6) C 0 dX8_presentSum_5 rfl rfl rfl ?_
  obtain ⟨g_6, hf⟩ := zG1_s hf
  refine z_callV0 (pc' := 9) (st := []) C (As := []) (c_X8_project hN g_6) zy_X8_project zw_349 zw_351 zv_0 (ci := 8) rfl (lg_0 hN) ⟨rfl, rfl⟩ rfl rfl rfl rfl rfl dX8_presentSum_6 rfl ?_
  refine z_iload_n (pc' := 10) C 1 dX8_presentSum_9 rfl rfl rfl ?_
  have hfr_10 := lg_far hG5 hG6 hG7 (zlt9 g_6)
  refine z_cV (pc' := 13) C hf (As := [.int p1]) (fun hq => c_X5_presentSumOf (a := (a + (74 + 35 * (σ.1.toNatClampNeg)))) (pr_pricing := (pj_pr_pricing (σ.2.2.2.2.2 σ.1.toNatClampNeg))) (lg_S hN (zlt9 g_6) 0 rfl) (lg_S hN (zlt9 g_6) 13 rfl) (lg_S hN (zlt9 g_6) 14 rfl) (lg_S hN (zlt9 g_6) 15 rfl) (lg_S hN (zlt9 g_6) 16 rfl) (lg_S hN (zlt9 g_6) 17 rfl) (lg_g0 hG1 hG2 hG5) (lg_g1 hG1 hG3 hG6) (lg_g2 hG1 hG4 hG7) (by omega) hq) (fun q_10 => (lgH w a h (σ.1, σ.2.1, (rs_rd_stk σ.2.2.1 q_10.2), σ.2.2.2.1, σ.2.2.2.2.1, σ.2.2.2.2.2))) (fun q_10 => [.long q_10.1]) (fun _ => lg_uG hG1 hG3 hG6) (fun _ => rfl) zy_X5_presentSumOf zw_791 zw_792 zw_793 (ci := 5) rfl (lg_S hN (zlt9 g_6) 0 rfl) ⟨rfl, rfl⟩ rfl rfl rfl rfl rfl dX8_presentSum_10 rfl (fun q_10 hf => ?_)
  cases hf
  exact z_xr (z_widen (by decide) (by decide) (z_lret C rfl rfl dX8_presentSum_13))
set_option maxRecDepth 20000 in
theorem c_X8_grossValue {w : zV} {N a : Nat} {h : zH} (hN : a + 389 ≤ N) {σ : LgT} (hG : PgW w N a h σ) {p1 : Int32} {r : (String × LgT) ⊕ (Int64 × LgT)} (hf : f_X8_grossValue σ p1 = some r) : zMx w yX8_grossValue cX8_grossValue 2 (some .long) (zrx 8 205 1 6) N (lgH w a h σ) [.ref (zo w + a), .int p1] (zOm (fun e => (e.1, lgH w a h e.2)) (fun q => some (.long q.1)) (fun q => lgH w a h q.2) r) := by
  unfold f_X8_grossValue at hf
  obtain ⟨hG1, hG2, ⟨_, hG3⟩, hG4, hG5, hG6, hG7⟩ := hG
  refine zMx_of (by decide) rfl (fun X C htab => ?_)
  refine z_pick (lv' := [(0, .ref (zo w + a)), (1, .int p1)]) [0, 1] rfl ?_
  refine z_aload_n (pc' := 1) C 0 dX8_grossValue_0 rfl rfl rfl ?_
  refine z_iload_n (pc' := 2) C 1 dX8_grossValue_1 rfl rfl rfl ?_
  refine z_cxV (pc' := 5) C htab hf (As := [.int p1]) (fun hq => c_X8_checkContract hN hq) (fun q_2 => []) (fun _ => rfl) (fun _ => rfl) zy_X8_checkContract zw_707 zw_709 zv_17 (ci := 8) rfl (lg_0 hN) rfl rfl rfl rfl rfl dX8_grossValue_2 rfl (fun q_2 hf => ?_)
  refine z_aload_n (pc' := 6) C 0 dX8_grossValue_5 rfl rfl rfl ?_
  obtain ⟨g_6, hf⟩ := zG1_s hf
  refine z_callV0 (pc' := 9) (st := []) C (As := []) (c_X8_project hN g_6) zy_X8_project zw_349 zw_351 zv_0 (ci := 8) rfl (lg_0 hN) ⟨rfl, rfl⟩ rfl rfl rfl rfl rfl dX8_grossValue_6 rfl ?_
  refine z_iload_n (pc' := 10) C 1 dX8_grossValue_9 rfl rfl rfl ?_
  have hfr_10 := lg_far hG5 hG6 hG7 (zlt9 g_6)
  refine z_cV (pc' := 13) C hf (As := [.int p1]) (fun hq => c_X5_grossOf (a := (a + (74 + 35 * (σ.1.toNatClampNeg)))) (pr_pricing := (pj_pr_pricing (σ.2.2.2.2.2 σ.1.toNatClampNeg))) (lg_S hN (zlt9 g_6) 0 rfl) (lg_S hN (zlt9 g_6) 13 rfl) (lg_S hN (zlt9 g_6) 14 rfl) (lg_S hN (zlt9 g_6) 15 rfl) (lg_S hN (zlt9 g_6) 16 rfl) (lg_S hN (zlt9 g_6) 17 rfl) (lg_S hN (zlt9 g_6) 18 rfl) (lg_g0 hG1 hG2 hG5) (lg_g1 hG1 hG3 hG6) (lg_g2 hG1 hG4 hG7) (by omega) hq) (fun q_10 => (lgH w a h (σ.1, σ.2.1, (rs_rd_stk σ.2.2.1 q_10.2), σ.2.2.2.1, σ.2.2.2.2.1, σ.2.2.2.2.2))) (fun q_10 => [.long q_10.1]) (fun _ => lg_uG hG1 hG3 hG6) (fun _ => rfl) zy_X5_grossOf zw_806 zw_391 zw_392 (ci := 5) rfl (lg_S hN (zlt9 g_6) 0 rfl) ⟨rfl, rfl⟩ rfl rfl rfl rfl rfl dX8_grossValue_10 rfl (fun q_10 hf => ?_)
  cases hf
  exact z_xr (z_widen (by decide) (by decide) (z_lret C rfl rfl dX8_grossValue_13))
set_option maxRecDepth 20000 in
theorem c_X8_retention {w : zV} {N a : Nat} {h : zH} (hN : a + 389 ≤ N) {σ : LgT} (hG : PgW w N a h σ) {p1 : Int32} {r : (String × LgT) ⊕ (Int64 × LgT)} (hf : f_X8_retention σ p1 = some r) : zMx w yX8_retention cX8_retention 2 (some .long) (zrx 8 205 1 6) N (lgH w a h σ) [.ref (zo w + a), .int p1] (zOm (fun e => (e.1, lgH w a h e.2)) (fun q => some (.long q.1)) (fun q => lgH w a h q.2) r) := by
  unfold f_X8_retention at hf
  obtain ⟨hG1, hG2, ⟨_, hG3⟩, hG4, hG5, hG6, hG7⟩ := hG
  refine zMx_of (by decide) rfl (fun X C htab => ?_)
  refine z_pick (lv' := [(0, .ref (zo w + a)), (1, .int p1)]) [0, 1] rfl ?_
  refine z_aload_n (pc' := 1) C 0 dX8_retention_0 rfl rfl rfl ?_
  refine z_iload_n (pc' := 2) C 1 dX8_retention_1 rfl rfl rfl ?_
  refine z_cxV (pc' := 5) C htab hf (As := [.int p1]) (fun hq => c_X8_checkContract hN hq) (fun q_2 => []) (fun _ => rfl) (fun _ => rfl) zy_X8_checkContract zw_707 zw_709 zv_17 (ci := 8) rfl (lg_0 hN) rfl rfl rfl rfl rfl dX8_retention_2 rfl (fun q_2 hf => ?_)
  refine z_aload_n (pc' := 6) C 0 dX8_retention_5 rfl rfl rfl ?_
  obtain ⟨g_6, hf⟩ := zG1_s hf
  refine z_callV0 (pc' := 9) (st := []) C (As := []) (c_X8_project hN g_6) zy_X8_project zw_349 zw_351 zv_0 (ci := 8) rfl (lg_0 hN) ⟨rfl, rfl⟩ rfl rfl rfl rfl rfl dX8_retention_6 rfl ?_
  refine z_iload_n (pc' := 10) C 1 dX8_retention_9 rfl rfl rfl ?_
  refine z_aload_n (pc' := 11) C 0 dX8_retention_10 rfl rfl rfl ?_
  refine z_callV0 (pc' := 14) (st := [.int p1, .ref (zo w + (a + (74 + 35 * (σ.1.toNatClampNeg))))]) C (As := []) (c_X8_project hN g_6) zy_X8_project zw_349 zw_351 zv_0 (ci := 8) rfl (lg_0 hN) ⟨rfl, rfl⟩ rfl rfl rfl rfl rfl dX8_retention_11 rfl ?_
  refine z_iload_n (pc' := 15) C 1 dX8_retention_14 rfl rfl rfl ?_
  have hfr_15 := lg_far hG5 hG6 hG7 (zlt9 g_6)
  refine z_cV (pc' := 18) C hf (As := [.int p1]) (fun hq => c_X5_grossOf (a := (a + (74 + 35 * (σ.1.toNatClampNeg)))) (pr_pricing := (pj_pr_pricing (σ.2.2.2.2.2 σ.1.toNatClampNeg))) (lg_S hN (zlt9 g_6) 0 rfl) (lg_S hN (zlt9 g_6) 13 rfl) (lg_S hN (zlt9 g_6) 14 rfl) (lg_S hN (zlt9 g_6) 15 rfl) (lg_S hN (zlt9 g_6) 16 rfl) (lg_S hN (zlt9 g_6) 17 rfl) (lg_S hN (zlt9 g_6) 18 rfl) (lg_g0 hG1 hG2 hG5) (lg_g1 hG1 hG3 hG6) (lg_g2 hG1 hG4 hG7) (by omega) hq) (fun q_15 => (lgH w a h (σ.1, σ.2.1, (rs_rd_stk σ.2.2.1 q_15.2), σ.2.2.2.1, σ.2.2.2.2.1, σ.2.2.2.2.2))) (fun q_15 => [.long q_15.1, .int p1, .ref (zo w + (a + (74 + 35 * (σ.1.toNatClampNeg))))]) (fun _ => lg_uG hG1 hG3 hG6) (fun _ => rfl) zy_X5_grossOf zw_806 zw_391 zw_392 (ci := 5) rfl (lg_S hN (zlt9 g_6) 0 rfl) ⟨rfl, rfl⟩ rfl rfl rfl rfl rfl dX8_retention_15 rfl (fun q_15 hf => ?_)
  refine z_cV (pc' := 21) C hf (As := [.int p1, .long q_15.1]) (fun hq => c_X5_retentionOf (a := (a + (74 + 35 * (σ.1.toNatClampNeg)))) (lg_S hN (zlt9 g_6) 0 rfl) (lg_S hN (zlt9 g_6) 2 rfl) (lg_S hN (zlt9 g_6) 4 rfl) (lg_S hN (zlt9 g_6) 5 rfl) (lg_S hN (zlt9 g_6) 9 rfl) (lg_S hN (zlt9 g_6) 13 rfl) (lg_S hN (zlt9 g_6) 14 rfl) (lg_S hN (zlt9 g_6) 15 rfl) (lg_S hN (zlt9 g_6) 16 rfl) hq) (fun _ => (lgH w a h (σ.1, σ.2.1, (rs_rd_stk σ.2.2.1 q_15.2), σ.2.2.2.1, σ.2.2.2.2.1, σ.2.2.2.2.2))) (fun q_18 => [.long q_18]) (fun _ => rfl) (fun _ => rfl) zy_X5_retentionOf zw_814 zw_815 zw_816 (ci := 5) rfl (lg_S hN (zlt9 g_6) 0 rfl) ⟨rfl, rfl⟩ rfl rfl rfl rfl rfl dX8_retention_18 rfl (fun q_18 hf => ?_)
  cases hf
  exact z_xr (z_widen (by decide) (by decide) (z_lret C rfl rfl dX8_retention_21))
set_option maxRecDepth 20000 in
theorem c_X8_certified {w : zV} {N a : Nat} {h : zH} (hN : a + 389 ≤ N) {σ : LgT} {p1 : Int32} {r : (String) ⊕ (Int64)} (hf : f_X8_certified σ p1 = some r) : zMx w yX8_certified cX8_certified 2 (some .long) (zrx 8 148 1 6) N (lgH w a h σ) [.ref (zo w + a), .int p1] (zOm (fun e => (e, (lgH w a h σ))) (fun q => some (.long q)) (fun q => (lgH w a h σ)) r) := by
  unfold f_X8_certified at hf
  refine zMx_of (by decide) rfl (fun X C htab => ?_)
  refine z_pick (lv' := [(0, .ref (zo w + a)), (1, .int p1)]) [0, 1] rfl ?_
  refine z_aload_n (pc' := 1) C 0 dX8_certified_0 rfl rfl rfl ?_
  refine z_iload_n (pc' := 2) C 1 dX8_certified_1 rfl rfl rfl ?_
  refine z_cxV (pc' := 5) C htab hf (As := [.int p1]) (fun hq => c_X8_checkContract hN hq) (fun q_2 => []) (fun _ => rfl) (fun _ => rfl) zy_X8_checkContract zw_707 zw_709 zv_17 (ci := 8) rfl (lg_0 hN) rfl rfl rfl rfl rfl dX8_certified_2 rfl (fun q_2 hf => ?_)
  refine z_aload_n (pc' := 6) C 0 dX8_certified_5 rfl rfl rfl ?_
  obtain ⟨g_6, hf⟩ := zG1_s hf
  refine z_callV0 (pc' := 9) (st := []) C (As := []) (c_X8_project hN g_6) zy_X8_project zw_349 zw_351 zv_0 (ci := 8) rfl (lg_0 hN) ⟨rfl, rfl⟩ rfl rfl rfl rfl rfl dX8_certified_6 rfl ?_
  refine z_getf (pc' := 12) C zci_5 zw_251 (j := 6) rfl (lg_S hN (zlt9 g_6) 0 rfl) rfl rfl dX8_certified_9 rfl ?_
  refine z_iload_n (pc' := 13) C 1 dX8_certified_12 rfl rfl rfl ?_
  refine z_cV (pc' := 16) C hf (As := [.int p1]) (fun hq => c_X0_certifiedOf (a := ((a + (74 + 35 * (σ.1.toNatClampNeg))) + 23)) (lg_S hN (zlt9 g_6) 23 rfl) (lg_S hN (zlt9 g_6) 24 rfl) (lg_S hN (zlt9 g_6) 25 rfl) hq) (fun _ => (lgH w a h σ)) (fun q_13 => [.long q_13]) (fun _ => rfl) (fun _ => rfl) zy_X0_certifiedOf zw_828 zw_430 zw_431 (ci := 0) rfl (lg_S hN (zlt9 g_6) 23 rfl) ⟨rfl, rfl⟩ rfl rfl rfl rfl rfl dX8_certified_13 rfl (fun q_13 hf => ?_)
  cases hf
  exact z_xr (z_widen (by decide) (by decide) (z_lret C rfl rfl dX8_certified_16))
set_option maxRecDepth 20000 in
theorem c_X8_unpaid {w : zV} {N a : Nat} {h : zH} (hN : a + 389 ≤ N) {σ : LgT} {p1 : Int32} {r : (String) ⊕ (Int64)} (hf : f_X8_unpaid σ p1 = some r) : zMx w yX8_unpaid cX8_unpaid 2 (some .long) (zrx 8 148 1 6) N (lgH w a h σ) [.ref (zo w + a), .int p1] (zOm (fun e => (e, (lgH w a h σ))) (fun q => some (.long q)) (fun q => (lgH w a h σ)) r) := by
  unfold f_X8_unpaid at hf
  refine zMx_of (by decide) rfl (fun X C htab => ?_)
  refine z_pick (lv' := [(0, .ref (zo w + a)), (1, .int p1)]) [0, 1] rfl ?_
  refine z_aload_n (pc' := 1) C 0 dX8_unpaid_0 rfl rfl rfl ?_
  refine z_iload_n (pc' := 2) C 1 dX8_unpaid_1 rfl rfl rfl ?_
  refine z_cxV (pc' := 5) C htab hf (As := [.int p1]) (fun hq => c_X8_checkContract hN hq) (fun q_2 => []) (fun _ => rfl) (fun _ => rfl) zy_X8_checkContract zw_707 zw_709 zv_17 (ci := 8) rfl (lg_0 hN) rfl rfl rfl rfl rfl dX8_unpaid_2 rfl (fun q_2 hf => ?_)
  refine z_aload_n (pc' := 6) C 0 dX8_unpaid_5 rfl rfl rfl ?_
  obtain ⟨g_6, hf⟩ := zG1_s hf
  refine z_callV0 (pc' := 9) (st := []) C (As := []) (c_X8_project hN g_6) zy_X8_project zw_349 zw_351 zv_0 (ci := 8) rfl (lg_0 hN) ⟨rfl, rfl⟩ rfl rfl rfl rfl rfl dX8_unpaid_6 rfl ?_
  refine z_getf (pc' := 12) C zci_5 zw_251 (j := 6) rfl (lg_S hN (zlt9 g_6) 0 rfl) rfl rfl dX8_unpaid_9 rfl ?_
  refine z_iload_n (pc' := 13) C 1 dX8_unpaid_12 rfl rfl rfl ?_
  refine z_cV (pc' := 16) C hf (As := [.int p1]) (fun hq => c_X0_unpaidOf (a := ((a + (74 + 35 * (σ.1.toNatClampNeg))) + 23)) (lg_S hN (zlt9 g_6) 23 rfl) (lg_S hN (zlt9 g_6) 24 rfl) (lg_S hN (zlt9 g_6) 26 rfl) hq) (fun _ => (lgH w a h σ)) (fun q_13 => [.long q_13]) (fun _ => rfl) (fun _ => rfl) zy_X0_unpaidOf zw_836 zw_438 zw_439 (ci := 0) rfl (lg_S hN (zlt9 g_6) 23 rfl) ⟨rfl, rfl⟩ rfl rfl rfl rfl rfl dX8_unpaid_13 rfl (fun q_13 hf => ?_)
  cases hf
  exact z_xr (z_widen (by decide) (by decide) (z_lret C rfl rfl dX8_unpaid_16))
set_option maxRecDepth 20000 in
theorem c_X8_overdue {w : zV} {N a : Nat} {h : zH} (hN : a + 389 ≤ N) {σ : LgT} {p1 : Int32} {r : (String) ⊕ (Int64)} (hf : f_X8_overdue σ p1 = some r) : zMx w yX8_overdue cX8_overdue 2 (some .long) (zrx 8 148 1 6) N (lgH w a h σ) [.ref (zo w + a), .int p1] (zOm (fun e => (e, (lgH w a h σ))) (fun q => some (.long q)) (fun q => (lgH w a h σ)) r) := by
  unfold f_X8_overdue at hf
  refine zMx_of (by decide) rfl (fun X C htab => ?_)
  refine z_pick (lv' := [(0, .ref (zo w + a)), (1, .int p1)]) [0, 1] rfl ?_
  refine z_aload_n (pc' := 1) C 0 dX8_overdue_0 rfl rfl rfl ?_
  refine z_iload_n (pc' := 2) C 1 dX8_overdue_1 rfl rfl rfl ?_
  refine z_cxV (pc' := 5) C htab hf (As := [.int p1]) (fun hq => c_X8_checkContract hN hq) (fun q_2 => []) (fun _ => rfl) (fun _ => rfl) zy_X8_checkContract zw_707 zw_709 zv_17 (ci := 8) rfl (lg_0 hN) rfl rfl rfl rfl rfl dX8_overdue_2 rfl (fun q_2 hf => ?_)
  refine z_aload_n (pc' := 6) C 0 dX8_overdue_5 rfl rfl rfl ?_
  obtain ⟨g_6, hf⟩ := zG1_s hf
  refine z_callV0 (pc' := 9) (st := []) C (As := []) (c_X8_project hN g_6) zy_X8_project zw_349 zw_351 zv_0 (ci := 8) rfl (lg_0 hN) ⟨rfl, rfl⟩ rfl rfl rfl rfl rfl dX8_overdue_6 rfl ?_
  refine z_iload_n (pc' := 10) C 1 dX8_overdue_9 rfl rfl rfl ?_
  refine z_cV (pc' := 13) C hf (As := [.int p1]) (fun hq => c_X5_overdueOf (a := (a + (74 + 35 * (σ.1.toNatClampNeg)))) (lg_S hN (zlt9 g_6) 0 rfl) (lg_S hN (zlt9 g_6) 23 rfl) (lg_S hN (zlt9 g_6) 24 rfl) (lg_S hN (zlt9 g_6) 26 rfl) (lg_S hN (zlt9 g_6) 28 rfl) hq) (fun _ => (lgH w a h σ)) (fun q_10 => [.long q_10]) (fun _ => rfl) (fun _ => rfl) zy_X5_overdueOf zw_844 zw_845 zw_846 (ci := 5) rfl (lg_S hN (zlt9 g_6) 0 rfl) ⟨rfl, rfl⟩ rfl rfl rfl rfl rfl dX8_overdue_10 rfl (fun q_10 hf => ?_)
  cases hf
  exact z_xr (z_widen (by decide) (by decide) (z_lret C rfl rfl dX8_overdue_13))
set_option maxRecDepth 20000 in
theorem c_X8_stage {w : zV} {N a : Nat} {h : zH} (hN : a + 389 ≤ N) {σ : LgT} {p1 : Int32} {r : (String) ⊕ (Int32)} (hf : f_X8_stage σ p1 = some r) : zMx w yX8_stage cX8_stage 2 (some .int) (zrx 8 148 1 6) N (lgH w a h σ) [.ref (zo w + a), .int p1] (zOm (fun e => (e, (lgH w a h σ))) (fun q => some (.int q)) (fun q => (lgH w a h σ)) r) := by
  unfold f_X8_stage at hf
  refine zMx_of (by decide) rfl (fun X C htab => ?_)
  refine z_pick (lv' := [(0, .ref (zo w + a)), (1, .int p1)]) [0, 1] rfl ?_
  refine z_aload_n (pc' := 1) C 0 dX8_stage_0 rfl rfl rfl ?_
  refine z_iload_n (pc' := 2) C 1 dX8_stage_1 rfl rfl rfl ?_
  refine z_cxV (pc' := 5) C htab hf (As := [.int p1]) (fun hq => c_X8_checkContract hN hq) (fun q_2 => []) (fun _ => rfl) (fun _ => rfl) zy_X8_checkContract zw_707 zw_709 zv_17 (ci := 8) rfl (lg_0 hN) rfl rfl rfl rfl rfl dX8_stage_2 rfl (fun q_2 hf => ?_)
  refine z_aload_n (pc' := 6) C 0 dX8_stage_5 rfl rfl rfl ?_
  obtain ⟨g_6, hf⟩ := zG1_s hf
  refine z_callV0 (pc' := 9) (st := []) C (As := []) (c_X8_project hN g_6) zy_X8_project zw_349 zw_351 zv_0 (ci := 8) rfl (lg_0 hN) ⟨rfl, rfl⟩ rfl rfl rfl rfl rfl dX8_stage_6 rfl ?_
  refine z_getf (pc' := 12) C zci_5 zw_240 (j := 2) rfl (lg_S hN (zlt9 g_6) 0 rfl) rfl rfl dX8_stage_9 rfl ?_
  refine z_getf (pc' := 15) C zci_1 zw_68 (j := 7) rfl (lg_S hN (zlt9 g_6) 2 rfl) rfl rfl dX8_stage_12 rfl ?_
  refine z_iload_n (pc' := 16) C 1 dX8_stage_15 rfl rfl rfl ?_
  refine z_iald (pc' := 17) C hf (lg_S hN (zlt9 g_6) 9 rfl) dX8_stage_16 rfl (fun v_16 hf => ?_)
  cases hf
  exact z_xr (z_widen (by decide) (by decide) (z_iret C rfl rfl dX8_stage_17))
set_option maxRecDepth 20000 in
theorem c_X8_margin {w : zV} {N a : Nat} {h : zH} (hN : a + 389 ≤ N) {σ : LgT} (hG : PgW w N a h σ) {p1 : Int32} {r : (String × LgT) ⊕ (Int64 × LgT)} (hf : f_X8_margin σ p1 = some r) : zMx w yX8_margin cX8_margin 2 (some .long) (zrx 8 237 1 6) N (lgH w a h σ) [.ref (zo w + a), .int p1] (zOm (fun e => (e.1, lgH w a h e.2)) (fun q => some (.long q.1)) (fun q => lgH w a h q.2) r) := by
  unfold f_X8_margin at hf
  obtain ⟨hG1, hG2, ⟨_, hG3⟩, hG4, hG5, hG6, hG7⟩ := hG
  refine zMx_of (by decide) rfl (fun X C htab => ?_)
  refine z_pick (lv' := [(0, .ref (zo w + a)), (1, .int p1)]) [0, 1] rfl ?_
  refine z_aload_n (pc' := 1) C 0 dX8_margin_0 rfl rfl rfl ?_
  refine z_iload_n (pc' := 2) C 1 dX8_margin_1 rfl rfl rfl ?_
  refine z_cxV (pc' := 5) C htab hf (As := [.int p1]) (fun hq => c_X8_checkContract hN hq) (fun q_2 => []) (fun _ => rfl) (fun _ => rfl) zy_X8_checkContract zw_707 zw_709 zv_17 (ci := 8) rfl (lg_0 hN) rfl rfl rfl rfl rfl dX8_margin_2 rfl (fun q_2 hf => ?_)
  refine z_aload_n (pc' := 6) C 0 dX8_margin_5 rfl rfl rfl ?_
  obtain ⟨g_6, hf⟩ := zG1_s hf
  refine z_callV0 (pc' := 9) (st := []) C (As := []) (c_X8_project hN g_6) zy_X8_project zw_349 zw_351 zv_0 (ci := 8) rfl (lg_0 hN) ⟨rfl, rfl⟩ rfl rfl rfl rfl rfl dX8_margin_6 rfl ?_
  refine z_iload_n (pc' := 10) C 1 dX8_margin_9 rfl rfl rfl ?_
  have hfr_10 := lg_far hG5 hG6 hG7 (zlt9 g_6)
  refine z_cV (pc' := 13) C hf (As := [.int p1]) (fun hq => c_X5_marginOf (a := (a + (74 + 35 * (σ.1.toNatClampNeg)))) (pr_pricing := (pj_pr_pricing (σ.2.2.2.2.2 σ.1.toNatClampNeg))) (lg_S hN (zlt9 g_6) 0 rfl) (lg_S hN (zlt9 g_6) 2 rfl) (lg_S hN (zlt9 g_6) 3 rfl) (lg_S hN (zlt9 g_6) 13 rfl) (lg_S hN (zlt9 g_6) 14 rfl) (lg_S hN (zlt9 g_6) 15 rfl) (lg_S hN (zlt9 g_6) 16 rfl) (lg_S hN (zlt9 g_6) 17 rfl) (lg_g0 hG1 hG2 hG5) (lg_g1 hG1 hG3 hG6) (lg_g2 hG1 hG4 hG7) (by omega) hq) (fun q_10 => (lgH w a h (σ.1, σ.2.1, (rs_rd_stk σ.2.2.1 q_10.2), σ.2.2.2.1, σ.2.2.2.2.1, σ.2.2.2.2.2))) (fun q_10 => [.long q_10.1]) (fun _ => lg_uG hG1 hG3 hG6) (fun _ => rfl) zy_X5_marginOf zw_866 zw_867 zw_868 (ci := 5) rfl (lg_S hN (zlt9 g_6) 0 rfl) ⟨rfl, rfl⟩ rfl rfl rfl rfl rfl dX8_margin_10 rfl (fun q_10 hf => ?_)
  cases hf
  exact z_xr (z_widen (by decide) (by decide) (z_lret C rfl rfl dX8_margin_13))
set_option maxRecDepth 20000 in
theorem c_X8_account {w : zV} {N a : Nat} {h : zH} (hN : a + 389 ≤ N) {σ : LgT} {p1 : Int32} {r : (String) ⊕ (Int64)} (hf : f_X8_account σ p1 = some r) : zMx w yX8_account cX8_account 2 (some .long) (zrx 7 119 1 6) N (lgH w a h σ) [.ref (zo w + a), .int p1] (zOm (fun e => (e, (lgH w a h σ))) (fun q => some (.long q)) (fun q => (lgH w a h σ)) r) := by
  unfold f_X8_account at hf
  refine zMx_of (by decide) rfl (fun X C htab => ?_)
  refine z_pick (lv' := [(0, .ref (zo w + a)), (1, .int p1)]) [0, 1] rfl ?_
  refine z_iload_n (pc' := 1) C 1 dX8_account_0 rfl rfl rfl ?_
  refine z_aload_n (pc' := 2) C 0 dX8_account_1 rfl rfl rfl ?_
  obtain ⟨g_2, hf⟩ := zG1_s hf
  refine z_callV0 (pc' := 5) (st := [.int p1]) C (As := []) (c_X8_project hN g_2) zy_X8_project zw_349 zw_351 zv_0 (ci := 8) rfl (lg_0 hN) ⟨rfl, rfl⟩ rfl rfl rfl rfl rfl dX8_account_2 rfl ?_
  refine z_getf (pc' := 8) C zci_5 zw_240 (j := 2) rfl (lg_S hN (zlt9 g_2) 0 rfl) rfl rfl dX8_account_5 rfl ?_
  refine z_getf (pc' := 11) C zci_1 zw_51 (j := 0) rfl (lg_S hN (zlt9 g_2) 2 rfl) rfl rfl dX8_account_8 rfl ?_
  refine z_iconst (pc' := 12) C dX8_account_11 zk_iconst_1 rfl ?_
  refine z_iadd (pc' := 13) C dX8_account_12 rfl ?_
  refine z_cxS (pc' := 16) C htab hf (As := [.int p1, .int ((pj_co_count (σ.2.2.2.2.2 (σ.1.toNatClampNeg))) + (1 : Int32))]) (fun hq => c_X8_checkIndex hq) (fun q_13 => []) (fun _ => rfl) (fun _ => rfl) zy_X8_checkIndex zw_711 zw_712 rfl rfl rfl rfl rfl dX8_account_13 rfl (fun q_13 hf => ?_)
  refine z_aload_n (pc' := 17) C 0 dX8_account_16 rfl rfl rfl ?_
  refine z_callV0 (pc' := 20) (st := []) C (As := []) (c_X8_project hN g_2) zy_X8_project zw_349 zw_351 zv_0 (ci := 8) rfl (lg_0 hN) ⟨rfl, rfl⟩ rfl rfl rfl rfl rfl dX8_account_17 rfl ?_
  refine z_getf (pc' := 23) C zci_5 zw_238 (j := 1) rfl (lg_S hN (zlt9 g_2) 0 rfl) rfl rfl dX8_account_20 rfl ?_
  refine z_iload_n (pc' := 24) C 1 dX8_account_23 rfl rfl rfl ?_
  refine z_lald (pc' := 25) C hf (lg_S hN (zlt9 g_2) 1 rfl) dX8_account_24 rfl (fun v_24 hf => ?_)
  cases hf
  exact z_xr (z_widen (by decide) (by decide) (z_lret C rfl rfl dX8_account_25))
set_option maxRecDepth 20000 in
theorem c_X8_certificateCount {w : zV} {N a : Nat} {h : zH} (hN : a + 389 ≤ N) {σ : LgT} {r : Int32} (hf : f_X8_certificateCount σ = some r) : zM w yX8_certificateCount cX8_certificateCount 1 (some .int) (zrx 1 28 0 0) false N N (lgH w a h σ) [.ref (zo w + a)] (some (.int r)) ((lgH w a h σ)) := by
  unfold f_X8_certificateCount at hf
  refine zM_of (by decide) rfl (fun X C _ => ?_)
  refine z_pick (lv' := [(0, .ref (zo w + a))]) [0] rfl ?_
  refine z_aload_n (pc' := 1) C 0 dX8_certificateCount_0 rfl rfl rfl ?_
  obtain ⟨g_1, hf⟩ := zG1_s hf
  refine z_callV0 (pc' := 4) (st := []) C (As := []) (c_X8_project hN g_1) zy_X8_project zw_349 zw_351 zv_0 (ci := 8) rfl (lg_0 hN) ⟨rfl, rfl⟩ rfl rfl rfl rfl rfl dX8_certificateCount_1 rfl ?_
  refine z_getf (pc' := 7) C zci_5 zw_251 (j := 6) rfl (lg_S hN (zlt9 g_1) 0 rfl) rfl rfl dX8_certificateCount_4 rfl ?_
  refine z_getf (pc' := 10) C zci_0 zw_178 (j := 0) rfl (lg_S hN (zlt9 g_1) 23 rfl) rfl rfl dX8_certificateCount_7 rfl ?_
  cases hf
  exact (z_iret C rfl rfl dX8_certificateCount_10)
set_option maxRecDepth 20000 in
theorem c_X8_checkCertificate {w : zV} {N a : Nat} {h : zH} (hN : a + 389 ≤ N) {σ : LgT} {p1 : Int32} {r : (String) ⊕ (Unit)} (hf : f_X8_checkCertificate σ p1 = some r) : zMx w yX8_checkCertificate cX8_checkCertificate 2 none (zrx 7 119 1 6) N (lgH w a h σ) [.ref (zo w + a), .int p1] (zOm (fun e => (e, (lgH w a h σ))) (fun q => none) (fun q => (lgH w a h σ)) r) := by
  unfold f_X8_checkCertificate at hf
  refine zMx_of (by decide) rfl (fun X C htab => ?_)
  refine z_pick (lv' := [(0, .ref (zo w + a)), (1, .int p1)]) [0, 1] rfl ?_
  refine z_iload_n (pc' := 1) C 1 dX8_checkCertificate_0 rfl rfl rfl ?_
  refine z_aload_n (pc' := 2) C 0 dX8_checkCertificate_1 rfl rfl rfl ?_
  obtain ⟨g_2, hf⟩ := zG1_s hf
  refine z_callV0 (pc' := 5) (st := [.int p1]) C (As := []) (c_X8_project hN g_2) zy_X8_project zw_349 zw_351 zv_0 (ci := 8) rfl (lg_0 hN) ⟨rfl, rfl⟩ rfl rfl rfl rfl rfl dX8_checkCertificate_2 rfl ?_
  refine z_getf (pc' := 8) C zci_5 zw_251 (j := 6) rfl (lg_S hN (zlt9 g_2) 0 rfl) rfl rfl dX8_checkCertificate_5 rfl ?_
  refine z_getf (pc' := 11) C zci_0 zw_178 (j := 0) rfl (lg_S hN (zlt9 g_2) 23 rfl) rfl rfl dX8_checkCertificate_8 rfl ?_
  refine z_cxS (pc' := 14) C htab hf (As := [.int p1, .int (pj_ce_count (σ.2.2.2.2.2 (σ.1.toNatClampNeg)))]) (fun hq => c_X8_checkIndex hq) (fun q_11 => []) (fun _ => rfl) (fun _ => rfl) zy_X8_checkIndex zw_711 zw_712 rfl rfl rfl rfl rfl dX8_checkCertificate_11 rfl (fun q_11 hf => ?_)
  cases hf
  exact z_xr (z_widen (by decide) (by decide) (z_vret C rfl rfl dX8_checkCertificate_14))
set_option maxRecDepth 20000 in
theorem c_X8_certificateContract {w : zV} {N a : Nat} {h : zH} (hN : a + 389 ≤ N) {σ : LgT} {p1 : Int32} {r : (String) ⊕ (Int32)} (hf : f_X8_certificateContract σ p1 = some r) : zMx w yX8_certificateContract cX8_certificateContract 2 (some .int) (zrx 8 148 1 6) N (lgH w a h σ) [.ref (zo w + a), .int p1] (zOm (fun e => (e, (lgH w a h σ))) (fun q => some (.int q)) (fun q => (lgH w a h σ)) r) := by
  unfold f_X8_certificateContract at hf
  refine zMx_of (by decide) rfl (fun X C htab => ?_)
  refine z_pick (lv' := [(0, .ref (zo w + a)), (1, .int p1)]) [0, 1] rfl ?_
  refine z_aload_n (pc' := 1) C 0 dX8_certificateContract_0 rfl rfl rfl ?_
  refine z_iload_n (pc' := 2) C 1 dX8_certificateContract_1 rfl rfl rfl ?_
  refine z_cxV (pc' := 5) C htab hf (As := [.int p1]) (fun hq => c_X8_checkCertificate hN hq) (fun q_2 => []) (fun _ => rfl) (fun _ => rfl) zy_X8_checkCertificate zw_885 zw_887 zv_19 (ci := 8) rfl (lg_0 hN) rfl rfl rfl rfl rfl dX8_certificateContract_2 rfl (fun q_2 hf => ?_)
  refine z_aload_n (pc' := 6) C 0 dX8_certificateContract_5 rfl rfl rfl ?_
  obtain ⟨g_6, hf⟩ := zG1_s hf
  refine z_callV0 (pc' := 9) (st := []) C (As := []) (c_X8_project hN g_6) zy_X8_project zw_349 zw_351 zv_0 (ci := 8) rfl (lg_0 hN) ⟨rfl, rfl⟩ rfl rfl rfl rfl rfl dX8_certificateContract_6 rfl ?_
  refine z_getf (pc' := 12) C zci_5 zw_251 (j := 6) rfl (lg_S hN (zlt9 g_6) 0 rfl) rfl rfl dX8_certificateContract_9 rfl ?_
  refine z_getf (pc' := 15) C zci_0 zw_181 (j := 1) rfl (lg_S hN (zlt9 g_6) 23 rfl) rfl rfl dX8_certificateContract_12 rfl ?_
  refine z_iload_n (pc' := 16) C 1 dX8_certificateContract_15 rfl rfl rfl ?_
  refine z_iald (pc' := 17) C hf (lg_S hN (zlt9 g_6) 24 rfl) dX8_certificateContract_16 rfl (fun v_16 hf => ?_)
  cases hf
  exact z_xr (z_widen (by decide) (by decide) (z_iret C rfl rfl dX8_certificateContract_17))
set_option maxRecDepth 20000 in
theorem c_X8_amount {w : zV} {N a : Nat} {h : zH} (hN : a + 389 ≤ N) {σ : LgT} {p1 : Int32} {r : (String) ⊕ (Int64)} (hf : f_X8_amount σ p1 = some r) : zMx w yX8_amount cX8_amount 2 (some .long) (zrx 8 148 1 6) N (lgH w a h σ) [.ref (zo w + a), .int p1] (zOm (fun e => (e, (lgH w a h σ))) (fun q => some (.long q)) (fun q => (lgH w a h σ)) r) := by
  unfold f_X8_amount at hf
  refine zMx_of (by decide) rfl (fun X C htab => ?_)
  refine z_pick (lv' := [(0, .ref (zo w + a)), (1, .int p1)]) [0, 1] rfl ?_
  refine z_aload_n (pc' := 1) C 0 dX8_amount_0 rfl rfl rfl ?_
  refine z_iload_n (pc' := 2) C 1 dX8_amount_1 rfl rfl rfl ?_
  refine z_cxV (pc' := 5) C htab hf (As := [.int p1]) (fun hq => c_X8_checkCertificate hN hq) (fun q_2 => []) (fun _ => rfl) (fun _ => rfl) zy_X8_checkCertificate zw_885 zw_887 zv_19 (ci := 8) rfl (lg_0 hN) rfl rfl rfl rfl rfl dX8_amount_2 rfl (fun q_2 hf => ?_)
  refine z_aload_n (pc' := 6) C 0 dX8_amount_5 rfl rfl rfl ?_
  obtain ⟨g_6, hf⟩ := zG1_s hf
  refine z_callV0 (pc' := 9) (st := []) C (As := []) (c_X8_project hN g_6) zy_X8_project zw_349 zw_351 zv_0 (ci := 8) rfl (lg_0 hN) ⟨rfl, rfl⟩ rfl rfl rfl rfl rfl dX8_amount_6 rfl ?_
  refine z_getf (pc' := 12) C zci_5 zw_251 (j := 6) rfl (lg_S hN (zlt9 g_6) 0 rfl) rfl rfl dX8_amount_9 rfl ?_
  refine z_getf (pc' := 15) C zci_0 zw_183 (j := 2) rfl (lg_S hN (zlt9 g_6) 23 rfl) rfl rfl dX8_amount_12 rfl ?_
  refine z_iload_n (pc' := 16) C 1 dX8_amount_15 rfl rfl rfl ?_
  refine z_lald (pc' := 17) C hf (lg_S hN (zlt9 g_6) 25 rfl) dX8_amount_16 rfl (fun v_16 hf => ?_)
  cases hf
  exact z_xr (z_widen (by decide) (by decide) (z_lret C rfl rfl dX8_amount_17))
set_option maxRecDepth 20000 in
theorem c_X8_openAmount {w : zV} {N a : Nat} {h : zH} (hN : a + 389 ≤ N) {σ : LgT} {p1 : Int32} {r : (String) ⊕ (Int64)} (hf : f_X8_openAmount σ p1 = some r) : zMx w yX8_openAmount cX8_openAmount 2 (some .long) (zrx 8 148 1 6) N (lgH w a h σ) [.ref (zo w + a), .int p1] (zOm (fun e => (e, (lgH w a h σ))) (fun q => some (.long q)) (fun q => (lgH w a h σ)) r) := by
  unfold f_X8_openAmount at hf
  refine zMx_of (by decide) rfl (fun X C htab => ?_)
  refine z_pick (lv' := [(0, .ref (zo w + a)), (1, .int p1)]) [0, 1] rfl ?_
  refine z_aload_n (pc' := 1) C 0 dX8_openAmount_0 rfl rfl rfl ?_
  refine z_iload_n (pc' := 2) C 1 dX8_openAmount_1 rfl rfl rfl ?_
  refine z_cxV (pc' := 5) C htab hf (As := [.int p1]) (fun hq => c_X8_checkCertificate hN hq) (fun q_2 => []) (fun _ => rfl) (fun _ => rfl) zy_X8_checkCertificate zw_885 zw_887 zv_19 (ci := 8) rfl (lg_0 hN) rfl rfl rfl rfl rfl dX8_openAmount_2 rfl (fun q_2 hf => ?_)
  refine z_aload_n (pc' := 6) C 0 dX8_openAmount_5 rfl rfl rfl ?_
  obtain ⟨g_6, hf⟩ := zG1_s hf
  refine z_callV0 (pc' := 9) (st := []) C (As := []) (c_X8_project hN g_6) zy_X8_project zw_349 zw_351 zv_0 (ci := 8) rfl (lg_0 hN) ⟨rfl, rfl⟩ rfl rfl rfl rfl rfl dX8_openAmount_6 rfl ?_
  refine z_getf (pc' := 12) C zci_5 zw_251 (j := 6) rfl (lg_S hN (zlt9 g_6) 0 rfl) rfl rfl dX8_openAmount_9 rfl ?_
  refine z_getf (pc' := 15) C zci_0 zw_186 (j := 3) rfl (lg_S hN (zlt9 g_6) 23 rfl) rfl rfl dX8_openAmount_12 rfl ?_
  refine z_iload_n (pc' := 16) C 1 dX8_openAmount_15 rfl rfl rfl ?_
  refine z_lald (pc' := 17) C hf (lg_S hN (zlt9 g_6) 26 rfl) dX8_openAmount_16 rfl (fun v_16 hf => ?_)
  cases hf
  exact z_xr (z_widen (by decide) (by decide) (z_lret C rfl rfl dX8_openAmount_17))
set_option maxRecDepth 20000 in
theorem c_X8_dueDay {w : zV} {N a : Nat} {h : zH} (hN : a + 389 ≤ N) {σ : LgT} {p1 : Int32} {r : (String) ⊕ (Int32)} (hf : f_X8_dueDay σ p1 = some r) : zMx w yX8_dueDay cX8_dueDay 2 (some .int) (zrx 8 148 1 6) N (lgH w a h σ) [.ref (zo w + a), .int p1] (zOm (fun e => (e, (lgH w a h σ))) (fun q => some (.int q)) (fun q => (lgH w a h σ)) r) := by
  unfold f_X8_dueDay at hf
  refine zMx_of (by decide) rfl (fun X C htab => ?_)
  refine z_pick (lv' := [(0, .ref (zo w + a)), (1, .int p1)]) [0, 1] rfl ?_
  refine z_aload_n (pc' := 1) C 0 dX8_dueDay_0 rfl rfl rfl ?_
  refine z_iload_n (pc' := 2) C 1 dX8_dueDay_1 rfl rfl rfl ?_
  refine z_cxV (pc' := 5) C htab hf (As := [.int p1]) (fun hq => c_X8_checkCertificate hN hq) (fun q_2 => []) (fun _ => rfl) (fun _ => rfl) zy_X8_checkCertificate zw_885 zw_887 zv_19 (ci := 8) rfl (lg_0 hN) rfl rfl rfl rfl rfl dX8_dueDay_2 rfl (fun q_2 hf => ?_)
  refine z_aload_n (pc' := 6) C 0 dX8_dueDay_5 rfl rfl rfl ?_
  obtain ⟨g_6, hf⟩ := zG1_s hf
  refine z_callV0 (pc' := 9) (st := []) C (As := []) (c_X8_project hN g_6) zy_X8_project zw_349 zw_351 zv_0 (ci := 8) rfl (lg_0 hN) ⟨rfl, rfl⟩ rfl rfl rfl rfl rfl dX8_dueDay_6 rfl ?_
  refine z_getf (pc' := 12) C zci_5 zw_251 (j := 6) rfl (lg_S hN (zlt9 g_6) 0 rfl) rfl rfl dX8_dueDay_9 rfl ?_
  refine z_getf (pc' := 15) C zci_0 zw_191 (j := 5) rfl (lg_S hN (zlt9 g_6) 23 rfl) rfl rfl dX8_dueDay_12 rfl ?_
  refine z_iload_n (pc' := 16) C 1 dX8_dueDay_15 rfl rfl rfl ?_
  refine z_iald (pc' := 17) C hf (lg_S hN (zlt9 g_6) 28 rfl) dX8_dueDay_16 rfl (fun v_16 hf => ?_)
  cases hf
  exact z_xr (z_widen (by decide) (by decide) (z_iret C rfl rfl dX8_dueDay_17))
set_option maxRecDepth 20000 in
theorem c_X8_isBlocked {w : zV} {N a : Nat} {h : zH} (hN : a + 389 ≤ N) {σ : LgT} {p1 : Int32} {r : (String) ⊕ (Int32)} (hf : f_X8_isBlocked σ p1 = some r) : zMx w yX8_isBlocked cX8_isBlocked 2 (some .boolean) (zrx 8 148 1 6) N (lgH w a h σ) [.ref (zo w + a), .int p1] (zOm (fun e => (e, (lgH w a h σ))) (fun q => some (.int q)) (fun q => (lgH w a h σ)) r) := by
  unfold f_X8_isBlocked at hf
  refine zMx_of (by decide) rfl (fun X C htab => ?_)
  refine z_pick (lv' := [(0, .ref (zo w + a)), (1, .int p1)]) [0, 1] rfl ?_
  refine z_aload_n (pc' := 1) C 0 dX8_isBlocked_0 rfl rfl rfl ?_
  refine z_iload_n (pc' := 2) C 1 dX8_isBlocked_1 rfl rfl rfl ?_
  refine z_cxV (pc' := 5) C htab hf (As := [.int p1]) (fun hq => c_X8_checkCertificate hN hq) (fun q_2 => []) (fun _ => rfl) (fun _ => rfl) zy_X8_checkCertificate zw_885 zw_887 zv_19 (ci := 8) rfl (lg_0 hN) rfl rfl rfl rfl rfl dX8_isBlocked_2 rfl (fun q_2 hf => ?_)
  refine z_aload_n (pc' := 6) C 0 dX8_isBlocked_5 rfl rfl rfl ?_
  obtain ⟨g_6, hf⟩ := zG1_s hf
  refine z_callV0 (pc' := 9) (st := []) C (As := []) (c_X8_project hN g_6) zy_X8_project zw_349 zw_351 zv_0 (ci := 8) rfl (lg_0 hN) ⟨rfl, rfl⟩ rfl rfl rfl rfl rfl dX8_isBlocked_6 rfl ?_
  refine z_iload_n (pc' := 10) C 1 dX8_isBlocked_9 rfl rfl rfl ?_
  refine z_cV (pc' := 13) C hf (As := [.int p1]) (fun hq => c_X5_isHeldBack (a := (a + (74 + 35 * (σ.1.toNatClampNeg)))) (lg_S hN (zlt9 g_6) 0 rfl) (lg_S hN (zlt9 g_6) 2 rfl) (lg_S hN (zlt9 g_6) 3 rfl) (lg_S hN (zlt9 g_6) 8 rfl) (lg_S hN (zlt9 g_6) 23 rfl) (lg_S hN (zlt9 g_6) 24 rfl) (lg_S hN (zlt9 g_6) 26 rfl) (lg_S hN (zlt9 g_6) 27 rfl) hq) (fun _ => (lgH w a h σ)) (fun q_10 => [.int q_10]) (fun _ => rfl) (fun _ => rfl) zy_X5_isHeldBack zw_917 zw_918 zw_919 (ci := 5) rfl (lg_S hN (zlt9 g_6) 0 rfl) ⟨rfl, rfl⟩ rfl rfl rfl rfl rfl dX8_isBlocked_10 rfl (fun q_10 hf => ?_)
  obtain ⟨g_13, hf⟩ := zG1_s hf
  cases hf
  exact z_xr (z_widen (by decide) (by decide) (z_zret C g_13 rfl rfl dX8_isBlocked_13))
set_option maxRecDepth 20000 in
theorem c_X8_dueBetween {w : zV} {N a : Nat} {h : zH} (hN : a + 389 ≤ N) {σ : LgT} {p1 : Int32} {p2 : Int32} {r : Int64} (hf : f_X8_dueBetween σ p1 p2 = some r) : zM w yX8_dueBetween cX8_dueBetween 3 (some .long) (zrx 1 33 0 0) false N N (lgH w a h σ) [.ref (zo w + a), .int p1, .int p2] (some (.long r)) ((lgH w a h σ)) := by
  unfold f_X8_dueBetween at hf
  refine zM_of (by decide) rfl (fun X C _ => ?_)
  refine z_pick (lv' := [(0, .ref (zo w + a)), (1, .int p1), (2, .int p2)]) [0, 1, 2] rfl ?_
  refine z_aload_n (pc' := 1) C 0 dX8_dueBetween_0 rfl rfl rfl ?_
  obtain ⟨g_1, hf⟩ := zG1_s hf
  refine z_callV0 (pc' := 4) (st := []) C (As := []) (c_X8_project hN g_1) zy_X8_project zw_349 zw_351 zv_0 (ci := 8) rfl (lg_0 hN) ⟨rfl, rfl⟩ rfl rfl rfl rfl rfl dX8_dueBetween_1 rfl ?_
  refine z_getf (pc' := 7) C zci_5 zw_251 (j := 6) rfl (lg_S hN (zlt9 g_1) 0 rfl) rfl rfl dX8_dueBetween_4 rfl ?_
  refine z_iload_n (pc' := 8) C 1 dX8_dueBetween_7 rfl rfl rfl ?_
  refine z_iload_n (pc' := 9) C 2 dX8_dueBetween_8 rfl rfl rfl ?_
  refine z_cV (pc' := 12) C hf (As := [.int p1, .int p2]) (fun hq => c_X0_openDueBetween (a := ((a + (74 + 35 * (σ.1.toNatClampNeg))) + 23)) (lg_S hN (zlt9 g_1) 23 rfl) (lg_S hN (zlt9 g_1) 26 rfl) (lg_S hN (zlt9 g_1) 28 rfl) hq) (fun _ => (lgH w a h σ)) (fun q_9 => [.long q_9]) (fun _ => rfl) (fun _ => rfl) zy_X0_openDueBetween zw_365 zw_366 zw_367 (ci := 0) rfl (lg_S hN (zlt9 g_1) 23 rfl) ⟨rfl, rfl⟩ rfl rfl rfl rfl rfl dX8_dueBetween_9 rfl (fun q_9 hf => ?_)
  cases hf
  exact (z_lret C rfl rfl dX8_dueBetween_12)
set_option maxRecDepth 20000 in
theorem c_X8_variationCount {w : zV} {N a : Nat} {h : zH} (hN : a + 389 ≤ N) {σ : LgT} {r : Int32} (hf : f_X8_variationCount σ = some r) : zM w yX8_variationCount cX8_variationCount 1 (some .int) (zrx 1 28 0 0) false N N (lgH w a h σ) [.ref (zo w + a)] (some (.int r)) ((lgH w a h σ)) := by
  unfold f_X8_variationCount at hf
  refine zM_of (by decide) rfl (fun X C _ => ?_)
  refine z_pick (lv' := [(0, .ref (zo w + a))]) [0] rfl ?_
  refine z_aload_n (pc' := 1) C 0 dX8_variationCount_0 rfl rfl rfl ?_
  obtain ⟨g_1, hf⟩ := zG1_s hf
  refine z_callV0 (pc' := 4) (st := []) C (As := []) (c_X8_project hN g_1) zy_X8_project zw_349 zw_351 zv_0 (ci := 8) rfl (lg_0 hN) ⟨rfl, rfl⟩ rfl rfl rfl rfl rfl dX8_variationCount_1 rfl ?_
  refine z_getf (pc' := 7) C zci_5 zw_249 (j := 5) rfl (lg_S hN (zlt9 g_1) 0 rfl) rfl rfl dX8_variationCount_4 rfl ?_
  refine z_getf (pc' := 10) C zci_7 zw_152 (j := 0) rfl (lg_S hN (zlt9 g_1) 19 rfl) rfl rfl dX8_variationCount_7 rfl ?_
  cases hf
  exact (z_iret C rfl rfl dX8_variationCount_10)
set_option maxRecDepth 20000 in
theorem c_X8_checkVariation {w : zV} {N a : Nat} {h : zH} (hN : a + 389 ≤ N) {σ : LgT} {p1 : Int32} {r : (String) ⊕ (Unit)} (hf : f_X8_checkVariation σ p1 = some r) : zMx w yX8_checkVariation cX8_checkVariation 2 none (zrx 7 119 1 6) N (lgH w a h σ) [.ref (zo w + a), .int p1] (zOm (fun e => (e, (lgH w a h σ))) (fun q => none) (fun q => (lgH w a h σ)) r) := by
  unfold f_X8_checkVariation at hf
  refine zMx_of (by decide) rfl (fun X C htab => ?_)
  refine z_pick (lv' := [(0, .ref (zo w + a)), (1, .int p1)]) [0, 1] rfl ?_
  refine z_iload_n (pc' := 1) C 1 dX8_checkVariation_0 rfl rfl rfl ?_
  refine z_aload_n (pc' := 2) C 0 dX8_checkVariation_1 rfl rfl rfl ?_
  obtain ⟨g_2, hf⟩ := zG1_s hf
  refine z_callV0 (pc' := 5) (st := [.int p1]) C (As := []) (c_X8_project hN g_2) zy_X8_project zw_349 zw_351 zv_0 (ci := 8) rfl (lg_0 hN) ⟨rfl, rfl⟩ rfl rfl rfl rfl rfl dX8_checkVariation_2 rfl ?_
  refine z_getf (pc' := 8) C zci_5 zw_249 (j := 5) rfl (lg_S hN (zlt9 g_2) 0 rfl) rfl rfl dX8_checkVariation_5 rfl ?_
  refine z_getf (pc' := 11) C zci_7 zw_152 (j := 0) rfl (lg_S hN (zlt9 g_2) 19 rfl) rfl rfl dX8_checkVariation_8 rfl ?_
  refine z_cxS (pc' := 14) C htab hf (As := [.int p1, .int (pj_va_count (σ.2.2.2.2.2 (σ.1.toNatClampNeg)))]) (fun hq => c_X8_checkIndex hq) (fun q_11 => []) (fun _ => rfl) (fun _ => rfl) zy_X8_checkIndex zw_711 zw_712 rfl rfl rfl rfl rfl dX8_checkVariation_11 rfl (fun q_11 hf => ?_)
  cases hf
  exact z_xr (z_widen (by decide) (by decide) (z_vret C rfl rfl dX8_checkVariation_14))
set_option maxRecDepth 20000 in
theorem c_X8_isApproved {w : zV} {N a : Nat} {h : zH} (hN : a + 389 ≤ N) {σ : LgT} {p1 : Int32} {r : (String) ⊕ (Int32)} (hf : f_X8_isApproved σ p1 = some r) : zMx w yX8_isApproved cX8_isApproved 2 (some .boolean) (zrx 8 148 1 6) N (lgH w a h σ) [.ref (zo w + a), .int p1] (zOm (fun e => (e, (lgH w a h σ))) (fun q => some (.int q)) (fun q => (lgH w a h σ)) r) := by
  unfold f_X8_isApproved at hf
  refine zMx_of (by decide) rfl (fun X C htab => ?_)
  refine z_pick (lv' := [(0, .ref (zo w + a)), (1, .int p1)]) [0, 1] rfl ?_
  refine z_aload_n (pc' := 1) C 0 dX8_isApproved_0 rfl rfl rfl ?_
  refine z_iload_n (pc' := 2) C 1 dX8_isApproved_1 rfl rfl rfl ?_
  refine z_cxV (pc' := 5) C htab hf (As := [.int p1]) (fun hq => c_X8_checkVariation hN hq) (fun q_2 => []) (fun _ => rfl) (fun _ => rfl) zy_X8_checkVariation zw_973 zw_975 zv_20 (ci := 8) rfl (lg_0 hN) rfl rfl rfl rfl rfl dX8_isApproved_2 rfl (fun q_2 hf => ?_)
  refine z_aload_n (pc' := 6) C 0 dX8_isApproved_5 rfl rfl rfl ?_
  obtain ⟨g_6, hf⟩ := zG1_s hf
  refine z_callV0 (pc' := 9) (st := []) C (As := []) (c_X8_project hN g_6) zy_X8_project zw_349 zw_351 zv_0 (ci := 8) rfl (lg_0 hN) ⟨rfl, rfl⟩ rfl rfl rfl rfl rfl dX8_isApproved_6 rfl ?_
  refine z_getf (pc' := 12) C zci_5 zw_249 (j := 5) rfl (lg_S hN (zlt9 g_6) 0 rfl) rfl rfl dX8_isApproved_9 rfl ?_
  refine z_getf (pc' := 15) C zci_7 zw_160 (j := 3) rfl (lg_S hN (zlt9 g_6) 19 rfl) rfl rfl dX8_isApproved_12 rfl ?_
  refine z_iload_n (pc' := 16) C 1 dX8_isApproved_15 rfl rfl rfl ?_
  refine z_zald (pc' := 17) C hf (lg_S hN (zlt9 g_6) 22 rfl) dX8_isApproved_16 rfl (fun v_16 hf => ?_)
  obtain ⟨g_17, hf⟩ := zG1_s hf
  cases hf
  exact z_xr (z_widen (by decide) (by decide) (z_zret C g_17 rfl rfl dX8_isApproved_17))
set_option maxRecDepth 20000 in
theorem c_X8_variationWorth {w : zV} {N a : Nat} {h : zH} (hN : a + 389 ≤ N) {σ : LgT} (hG : PgW w N a h σ) {p1 : Int32} {r : (String × LgT) ⊕ (Int64 × LgT)} (hf : f_X8_variationWorth σ p1 = some r) : zMx w yX8_variationWorth cX8_variationWorth 2 (some .long) (zrx 8 203 1 6) N (lgH w a h σ) [.ref (zo w + a), .int p1] (zOm (fun e => (e.1, lgH w a h e.2)) (fun q => some (.long q.1)) (fun q => lgH w a h q.2) r) := by
  unfold f_X8_variationWorth at hf
  obtain ⟨hG1, hG2, ⟨_, hG3⟩, hG4, hG5, hG6, hG7⟩ := hG
  refine zMx_of (by decide) rfl (fun X C htab => ?_)
  refine z_pick (lv' := [(0, .ref (zo w + a)), (1, .int p1)]) [0, 1] rfl ?_
  refine z_aload_n (pc' := 1) C 0 dX8_variationWorth_0 rfl rfl rfl ?_
  refine z_iload_n (pc' := 2) C 1 dX8_variationWorth_1 rfl rfl rfl ?_
  refine z_cxV (pc' := 5) C htab hf (As := [.int p1]) (fun hq => c_X8_checkVariation hN hq) (fun q_2 => []) (fun _ => rfl) (fun _ => rfl) zy_X8_checkVariation zw_973 zw_975 zv_20 (ci := 8) rfl (lg_0 hN) rfl rfl rfl rfl rfl dX8_variationWorth_2 rfl (fun q_2 hf => ?_)
  refine z_aload_n (pc' := 6) C 0 dX8_variationWorth_5 rfl rfl rfl ?_
  obtain ⟨g_6, hf⟩ := zG1_s hf
  refine z_callV0 (pc' := 9) (st := []) C (As := []) (c_X8_project hN g_6) zy_X8_project zw_349 zw_351 zv_0 (ci := 8) rfl (lg_0 hN) ⟨rfl, rfl⟩ rfl rfl rfl rfl rfl dX8_variationWorth_6 rfl ?_
  refine z_iload_n (pc' := 10) C 1 dX8_variationWorth_9 rfl rfl rfl ?_
  have hfr_10 := lg_far hG5 hG6 hG7 (zlt9 g_6)
  refine z_cV (pc' := 13) C hf (As := [.int p1]) (fun hq => c_X5_worthOf (a := (a + (74 + 35 * (σ.1.toNatClampNeg)))) (pr_pricing := (pj_pr_pricing (σ.2.2.2.2.2 σ.1.toNatClampNeg))) (lg_S hN (zlt9 g_6) 0 rfl) (lg_S hN (zlt9 g_6) 13 rfl) (lg_S hN (zlt9 g_6) 15 rfl) (lg_S hN (zlt9 g_6) 16 rfl) (lg_S hN (zlt9 g_6) 17 rfl) (lg_S hN (zlt9 g_6) 19 rfl) (lg_S hN (zlt9 g_6) 20 rfl) (lg_S hN (zlt9 g_6) 21 rfl) (lg_S hN (zlt9 g_6) 22 rfl) (lg_g0 hG1 hG2 hG5) (lg_g1 hG1 hG3 hG6) (lg_g2 hG1 hG4 hG7) (by omega) hq) (fun q_10 => (lgH w a h (σ.1, σ.2.1, (rs_rd_stk σ.2.2.1 q_10.2), σ.2.2.2.1, σ.2.2.2.2.1, σ.2.2.2.2.2))) (fun q_10 => [.long q_10.1]) (fun _ => lg_uG hG1 hG3 hG6) (fun _ => rfl) zy_X5_worthOf zw_984 zw_985 zw_986 (ci := 5) rfl (lg_S hN (zlt9 g_6) 0 rfl) ⟨rfl, rfl⟩ rfl rfl rfl rfl rfl dX8_variationWorth_10 rfl (fun q_10 hf => ?_)
  cases hf
  exact z_xr (z_widen (by decide) (by decide) (z_lret C rfl rfl dX8_variationWorth_13))
set_option maxRecDepth 20000 in
theorem c_X8_lienCount {w : zV} {N a : Nat} {h : zH} (hN : a + 389 ≤ N) {σ : LgT} {r : Int32} (hf : f_X8_lienCount σ = some r) : zM w yX8_lienCount cX8_lienCount 1 (some .int) (zrx 1 28 0 0) false N N (lgH w a h σ) [.ref (zo w + a)] (some (.int r)) ((lgH w a h σ)) := by
  unfold f_X8_lienCount at hf
  refine zM_of (by decide) rfl (fun X C _ => ?_)
  refine z_pick (lv' := [(0, .ref (zo w + a))]) [0] rfl ?_
  refine z_aload_n (pc' := 1) C 0 dX8_lienCount_0 rfl rfl rfl ?_
  obtain ⟨g_1, hf⟩ := zG1_s hf
  refine z_callV0 (pc' := 4) (st := []) C (As := []) (c_X8_project hN g_1) zy_X8_project zw_349 zw_351 zv_0 (ci := 8) rfl (lg_0 hN) ⟨rfl, rfl⟩ rfl rfl rfl rfl rfl dX8_lienCount_1 rfl ?_
  refine z_getf (pc' := 7) C zci_5 zw_253 (j := 7) rfl (lg_S hN (zlt9 g_1) 0 rfl) rfl rfl dX8_lienCount_4 rfl ?_
  refine z_getf (pc' := 10) C zci_3 zw_213 (j := 0) rfl (lg_S hN (zlt9 g_1) 29 rfl) rfl rfl dX8_lienCount_7 rfl ?_
  cases hf
  exact (z_iret C rfl rfl dX8_lienCount_10)
set_option maxRecDepth 20000 in
theorem c_X8_checkLien {w : zV} {N a : Nat} {h : zH} (hN : a + 389 ≤ N) {σ : LgT} {p1 : Int32} {r : (String) ⊕ (Unit)} (hf : f_X8_checkLien σ p1 = some r) : zMx w yX8_checkLien cX8_checkLien 2 none (zrx 7 119 1 6) N (lgH w a h σ) [.ref (zo w + a), .int p1] (zOm (fun e => (e, (lgH w a h σ))) (fun q => none) (fun q => (lgH w a h σ)) r) := by
  unfold f_X8_checkLien at hf
  refine zMx_of (by decide) rfl (fun X C htab => ?_)
  refine z_pick (lv' := [(0, .ref (zo w + a)), (1, .int p1)]) [0, 1] rfl ?_
  refine z_iload_n (pc' := 1) C 1 dX8_checkLien_0 rfl rfl rfl ?_
  refine z_aload_n (pc' := 2) C 0 dX8_checkLien_1 rfl rfl rfl ?_
  obtain ⟨g_2, hf⟩ := zG1_s hf
  refine z_callV0 (pc' := 5) (st := [.int p1]) C (As := []) (c_X8_project hN g_2) zy_X8_project zw_349 zw_351 zv_0 (ci := 8) rfl (lg_0 hN) ⟨rfl, rfl⟩ rfl rfl rfl rfl rfl dX8_checkLien_2 rfl ?_
  refine z_getf (pc' := 8) C zci_5 zw_253 (j := 7) rfl (lg_S hN (zlt9 g_2) 0 rfl) rfl rfl dX8_checkLien_5 rfl ?_
  refine z_getf (pc' := 11) C zci_3 zw_213 (j := 0) rfl (lg_S hN (zlt9 g_2) 29 rfl) rfl rfl dX8_checkLien_8 rfl ?_
  refine z_cxS (pc' := 14) C htab hf (As := [.int p1, .int (pj_li_count (σ.2.2.2.2.2 (σ.1.toNatClampNeg)))]) (fun hq => c_X8_checkIndex hq) (fun q_11 => []) (fun _ => rfl) (fun _ => rfl) zy_X8_checkIndex zw_711 zw_712 rfl rfl rfl rfl rfl dX8_checkLien_11 rfl (fun q_11 hf => ?_)
  cases hf
  exact z_xr (z_widen (by decide) (by decide) (z_vret C rfl rfl dX8_checkLien_14))
set_option maxRecDepth 20000 in
theorem c_X8_claim {w : zV} {N a : Nat} {h : zH} (hN : a + 389 ≤ N) {σ : LgT} {p1 : Int32} {r : (String) ⊕ (Int64)} (hf : f_X8_claim σ p1 = some r) : zMx w yX8_claim cX8_claim 2 (some .long) (zrx 8 148 1 6) N (lgH w a h σ) [.ref (zo w + a), .int p1] (zOm (fun e => (e, (lgH w a h σ))) (fun q => some (.long q)) (fun q => (lgH w a h σ)) r) := by
  unfold f_X8_claim at hf
  refine zMx_of (by decide) rfl (fun X C htab => ?_)
  refine z_pick (lv' := [(0, .ref (zo w + a)), (1, .int p1)]) [0, 1] rfl ?_
  refine z_aload_n (pc' := 1) C 0 dX8_claim_0 rfl rfl rfl ?_
  refine z_iload_n (pc' := 2) C 1 dX8_claim_1 rfl rfl rfl ?_
  refine z_cxV (pc' := 5) C htab hf (As := [.int p1]) (fun hq => c_X8_checkLien hN hq) (fun q_2 => []) (fun _ => rfl) (fun _ => rfl) zy_X8_checkLien zw_999 zw_1001 zv_21 (ci := 8) rfl (lg_0 hN) rfl rfl rfl rfl rfl dX8_claim_2 rfl (fun q_2 hf => ?_)
  refine z_aload_n (pc' := 6) C 0 dX8_claim_5 rfl rfl rfl ?_
  obtain ⟨g_6, hf⟩ := zG1_s hf
  refine z_callV0 (pc' := 9) (st := []) C (As := []) (c_X8_project hN g_6) zy_X8_project zw_349 zw_351 zv_0 (ci := 8) rfl (lg_0 hN) ⟨rfl, rfl⟩ rfl rfl rfl rfl rfl dX8_claim_6 rfl ?_
  refine z_iload_n (pc' := 10) C 1 dX8_claim_9 rfl rfl rfl ?_
  refine z_cV (pc' := 13) C hf (As := [.int p1]) (fun hq => c_X5_claimOf (a := (a + (74 + 35 * (σ.1.toNatClampNeg)))) (lg_S hN (zlt9 g_6) 0 rfl) (lg_S hN (zlt9 g_6) 23 rfl) (lg_S hN (zlt9 g_6) 24 rfl) (lg_S hN (zlt9 g_6) 26 rfl) (lg_S hN (zlt9 g_6) 29 rfl) (lg_S hN (zlt9 g_6) 30 rfl) (lg_S hN (zlt9 g_6) 31 rfl) (lg_S hN (zlt9 g_6) 33 rfl) hq) (fun _ => (lgH w a h σ)) (fun q_10 => [.long q_10]) (fun _ => rfl) (fun _ => rfl) zy_X5_claimOf zw_1003 zw_434 zw_435 (ci := 5) rfl (lg_S hN (zlt9 g_6) 0 rfl) ⟨rfl, rfl⟩ rfl rfl rfl rfl rfl dX8_claim_10 rfl (fun q_10 hf => ?_)
  cases hf
  exact z_xr (z_widen (by decide) (by decide) (z_lret C rfl rfl dX8_claim_13))
set_option maxRecDepth 20000 in
theorem c_X8_priority {w : zV} {N a : Nat} {h : zH} (hN : a + 389 ≤ N) {σ : LgT} {p1 : Int32} {r : (String) ⊕ (Int32)} (hf : f_X8_priority σ p1 = some r) : zMx w yX8_priority cX8_priority 2 (some .int) (zrx 8 148 1 6) N (lgH w a h σ) [.ref (zo w + a), .int p1] (zOm (fun e => (e, (lgH w a h σ))) (fun q => some (.int q)) (fun q => (lgH w a h σ)) r) := by
  unfold f_X8_priority at hf
  refine zMx_of (by decide) rfl (fun X C htab => ?_)
  refine z_pick (lv' := [(0, .ref (zo w + a)), (1, .int p1)]) [0, 1] rfl ?_
  refine z_aload_n (pc' := 1) C 0 dX8_priority_0 rfl rfl rfl ?_
  refine z_iload_n (pc' := 2) C 1 dX8_priority_1 rfl rfl rfl ?_
  refine z_cxV (pc' := 5) C htab hf (As := [.int p1]) (fun hq => c_X8_checkLien hN hq) (fun q_2 => []) (fun _ => rfl) (fun _ => rfl) zy_X8_checkLien zw_999 zw_1001 zv_21 (ci := 8) rfl (lg_0 hN) rfl rfl rfl rfl rfl dX8_priority_2 rfl (fun q_2 hf => ?_)
  refine z_aload_n (pc' := 6) C 0 dX8_priority_5 rfl rfl rfl ?_
  obtain ⟨g_6, hf⟩ := zG1_s hf
  refine z_callV0 (pc' := 9) (st := []) C (As := []) (c_X8_project hN g_6) zy_X8_project zw_349 zw_351 zv_0 (ci := 8) rfl (lg_0 hN) ⟨rfl, rfl⟩ rfl rfl rfl rfl rfl dX8_priority_6 rfl ?_
  refine z_iload_n (pc' := 10) C 1 dX8_priority_9 rfl rfl rfl ?_
  refine z_cV (pc' := 13) C hf (As := [.int p1]) (fun hq => c_X5_lienAt (a := (a + (74 + 35 * (σ.1.toNatClampNeg)))) (lg_S hN (zlt9 g_6) 0 rfl) (lg_S hN (zlt9 g_6) 2 rfl) (lg_S hN (zlt9 g_6) 7 rfl) (lg_S hN (zlt9 g_6) 29 rfl) (lg_S hN (zlt9 g_6) 30 rfl) (lg_S hN (zlt9 g_6) 32 rfl) hq) (fun _ => (lgH w a h σ)) (fun q_10 => [.int q_10]) (fun _ => rfl) (fun _ => rfl) zy_X5_lienAt zw_1011 zw_1012 zw_1013 (ci := 5) rfl (lg_S hN (zlt9 g_6) 0 rfl) ⟨rfl, rfl⟩ rfl rfl rfl rfl rfl dX8_priority_10 rfl (fun q_10 hf => ?_)
  cases hf
  exact z_xr (z_widen (by decide) (by decide) (z_iret C rfl rfl dX8_priority_13))
set_option maxRecDepth 20000 in
theorem c_X8_share {w : zV} {N a : Nat} {h : zH} (hN : a + 389 ≤ N) {σ : LgT} {p1 : Int32} {p2 : Int32} {r : (String) ⊕ (Int64)} (hf : f_X8_share σ p1 p2 = some r) : zMx w yX8_share cX8_share 3 (some .long) (zrx 8 148 2 12) N (lgH w a h σ) [.ref (zo w + a), .int p1, .int p2] (zOm (fun e => (e, (lgH w a h σ))) (fun q => some (.long q)) (fun q => (lgH w a h σ)) r) := by
  unfold f_X8_share at hf
  refine zMx_of (by decide) rfl (fun X C htab => ?_)
  refine z_pick (lv' := [(0, .ref (zo w + a)), (1, .int p1), (2, .int p2)]) [0, 1, 2] rfl ?_
  refine z_aload_n (pc' := 1) C 0 dX8_share_0 rfl rfl rfl ?_
  refine z_iload_n (pc' := 2) C 1 dX8_share_1 rfl rfl rfl ?_
  refine z_cxV (pc' := 5) C htab hf (As := [.int p1]) (fun hq => c_X8_checkLien hN hq) (fun q_2 => []) (fun _ => rfl) (fun _ => rfl) zy_X8_checkLien zw_999 zw_1001 zv_21 (ci := 8) rfl (lg_0 hN) rfl rfl rfl rfl rfl dX8_share_2 rfl (fun q_2 hf => ?_)
  refine z_iload_n (pc' := 6) C 2 dX8_share_5 rfl rfl rfl ?_
  refine z_iconst (pc' := 7) C dX8_share_6 zk_iconst_0 rfl ?_
  refine z_ldc (pc' := 9) C zw_1030 dX8_share_7 rfl ?_
  refine z_cxS (pc' := 12) C htab hf (As := [.int p2, .int (0 : Int32), .int (99999999 : Int32)]) (fun hq => c_X8_checkRange hq) (fun q_9 => []) (fun _ => rfl) (fun _ => rfl) zy_X8_checkRange zw_450 zw_451 rfl rfl rfl rfl rfl dX8_share_9 rfl (fun q_9 hf => ?_)
  refine z_aload_n (pc' := 13) C 0 dX8_share_12 rfl rfl rfl ?_
  obtain ⟨g_13, hf⟩ := zG1_s hf
  refine z_callV0 (pc' := 16) (st := []) C (As := []) (c_X8_project hN g_13) zy_X8_project zw_349 zw_351 zv_0 (ci := 8) rfl (lg_0 hN) ⟨rfl, rfl⟩ rfl rfl rfl rfl rfl dX8_share_13 rfl ?_
  refine z_iload_n (pc' := 17) C 1 dX8_share_16 rfl rfl rfl ?_
  refine z_iload_n (pc' := 18) C 2 dX8_share_17 rfl rfl rfl ?_
  refine z_i2l (pc' := 19) C dX8_share_18 rfl ?_
  refine z_cV (pc' := 22) C hf (As := [.int p1, .long (p2).toInt64]) (fun hq => c_X5_shareOf (a := (a + (74 + 35 * (σ.1.toNatClampNeg)))) (lg_S hN (zlt9 g_13) 0 rfl) (lg_S hN (zlt9 g_13) 2 rfl) (lg_S hN (zlt9 g_13) 7 rfl) (lg_S hN (zlt9 g_13) 23 rfl) (lg_S hN (zlt9 g_13) 24 rfl) (lg_S hN (zlt9 g_13) 26 rfl) (lg_S hN (zlt9 g_13) 29 rfl) (lg_S hN (zlt9 g_13) 30 rfl) (lg_S hN (zlt9 g_13) 31 rfl) (lg_S hN (zlt9 g_13) 32 rfl) (lg_S hN (zlt9 g_13) 33 rfl) hq) (fun _ => (lgH w a h σ)) (fun q_19 => [.long q_19]) (fun _ => rfl) (fun _ => rfl) zy_X5_shareOf zw_1031 zw_1032 zw_1033 (ci := 5) rfl (lg_S hN (zlt9 g_13) 0 rfl) ⟨rfl, rfl⟩ rfl rfl rfl rfl rfl dX8_share_19 rfl (fun q_19 hf => ?_)
  cases hf
  exact z_xr (z_widen (by decide) (by decide) (z_lret C rfl rfl dX8_share_22))
set_option maxRecDepth 20000 in
theorem c_X8_measure {w : zV} {N a : Nat} {h : zH} (hN : a + 389 ≤ N) {σ : LgT} {p1 : Int32} {p2 : Int32} {p3 : Int32} {r : (String × LgT) ⊕ (Int32 × LgT)} (hf : f_X8_measure σ p1 p2 p3 = some r) : zMx w yX8_measure cX8_measure 7 (some .int) (zrx 9 178 3 18) N (lgH w a h σ) [.ref (zo w + a), .int p1, .int p2, .int p3] (zOm (fun e => (e.1, lgH w a h e.2)) (fun q => some (.int q.1)) (fun q => lgH w a h q.2) r) := by
  unfold f_X8_measure at hf
  refine zMx_of (by decide) rfl (fun X C htab => ?_)
  refine z_pick (lv' := [(0, .ref (zo w + a)), (1, .int p1), (2, .int p2), (3, .int p3)]) [0, 1, 2, 3] rfl ?_
  refine z_aload_n (pc' := 1) C 0 dX8_measure_0 rfl rfl rfl ?_
  refine z_iload_n (pc' := 2) C 1 dX8_measure_1 rfl rfl rfl ?_
  refine z_iload_n (pc' := 3) C 2 dX8_measure_2 rfl rfl rfl ?_
  refine z_cxV (pc' := 6) C htab hf (As := [.int p1, .int p2]) (fun hq => c_X8_checkItem hN hq) (fun q_3 => []) (fun _ => rfl) (fun _ => rfl) zy_X8_checkItem zw_744 zw_746 zv_18 (ci := 8) rfl (lg_0 hN) rfl rfl rfl rfl rfl dX8_measure_3 rfl (fun q_3 hf => ?_)
  refine z_iload_n (pc' := 7) C 3 dX8_measure_6 rfl rfl rfl ?_
  refine z_iconst (pc' := 8) C dX8_measure_7 zk_iconst_0 rfl ?_
  refine z_bipush (pc' := 10) C dX8_measure_8 zk_bipush_100 rfl ?_
  refine z_cxS (pc' := 13) C htab hf (As := [.int p3, .int (0 : Int32), .int (100 : Int32)]) (fun hq => c_X8_checkRange hq) (fun q_10 => []) (fun _ => rfl) (fun _ => rfl) zy_X8_checkRange zw_450 zw_451 rfl rfl rfl rfl rfl dX8_measure_10 rfl (fun q_10 hf => ?_)
  refine z_iload_n (pc' := 14) C 1 dX8_measure_13 rfl rfl rfl ?_
  refine z_iload_n (pc' := 15) C 2 dX8_measure_14 rfl rfl rfl ?_
  refine z_cS (pc' := 18) C hf (As := [.int p1, .int p2]) (fun hq => c_X2_slotOf  hq) (fun _ => (lgH w a h σ)) (fun q_15 => [.int q_15]) (fun _ => rfl) (fun _ => rfl) zy_X2_slotOf zw_748 zw_395 ⟨rfl, rfl⟩ rfl rfl rfl rfl rfl dX8_measure_15 rfl (fun q_15 hf => ?_)
  refine z_istore (pc' := 20) C [(4, .int q_15), (0, .ref (zo w + a)), (1, .int p1), (2, .int p2), (3, .int p3)] dX8_measure_18 rfl rfl rfl ?_
  refine z_aload_n (pc' := 21) C 1 dX8_measure_20 rfl rfl rfl ?_
  refine z_cV (pc' := 24) C hf (As := []) (fun hq => c_X8_beginChange hN hq) (fun q_21 => (lgH w a h q_21)) (fun q_21 => [.ref (zo w + (a + (74 + 35 * (q_21.1.toNatClampNeg))))]) (fun _ => rfl) (fun _ => rfl) zy_X8_beginChange zw_662 zw_664 zv_16 (ci := 8) rfl (lg_0 hN) ⟨rfl, rfl⟩ rfl rfl rfl rfl rfl dX8_measure_21 rfl (fun q_21 hf => ?_)
  obtain ⟨g_21, hf⟩ := zG1_s hf
  refine z_getf (pc' := 27) C zci_5 zw_247 (j := 4) rfl (lg_S hN (zlt9 g_21) 0 rfl) rfl rfl dX8_measure_24 rfl ?_
  refine z_astore (pc' := 29) C [(5, .ref (zo w + ((a + (74 + 35 * (q_21.1.toNatClampNeg))) + 13))), (4, .int q_15), (0, .ref (zo w + a)), (1, .int p1), (2, .int p2), (3, .int p3)] dX8_measure_27 rfl rfl rfl ?_
  refine z_aload (pc' := 31) C 0 dX8_measure_29 rfl rfl ?_
  refine z_getf (pc' := 34) C zci_2 zw_132 (j := 4) rfl (lg_S hN (zlt9 g_21) 13 rfl) rfl rfl dX8_measure_31 rfl ?_
  refine z_iload (pc' := 36) C 1 dX8_measure_34 rfl rfl ?_
  refine z_iald (pc' := 37) C hf (lg_S hN (zlt9 g_21) 18 rfl) dX8_measure_36 rfl (fun v_36 hf => ?_)
  refine z_istore (pc' := 39) C [(6, .int v_36), (5, .ref (zo w + ((a + (74 + 35 * (q_21.1.toNatClampNeg))) + 13))), (4, .int q_15), (0, .ref (zo w + a)), (1, .int p1), (2, .int p2), (3, .int p3)] dX8_measure_37 rfl rfl rfl ?_
  refine z_aload (pc' := 41) C 1 dX8_measure_39 rfl rfl ?_
  refine z_getf (pc' := 44) C zci_2 zw_132 (j := 4) rfl (lg_S hN (zlt9 g_21) 13 rfl) rfl rfl dX8_measure_41 rfl ?_
  refine z_iload (pc' := 46) C 2 dX8_measure_44 rfl rfl ?_
  refine z_iload_n (pc' := 47) C 6 dX8_measure_46 rfl rfl rfl ?_
  refine z_iast (pc' := 48) C hf (lg_S hN (zlt9 g_21) 18 rfl) (h' := fun v_47 => (lgH w a h (q_21.1, q_21.2.1, q_21.2.2.1, q_21.2.2.2.1, q_21.2.2.2.2.1, (va_up q_21.2.2.2.2.2 (q_21.1.toNatClampNeg) (ps_it_progress (q_21.2.2.2.2.2 (q_21.1.toNatClampNeg)) v_47))))) (fun _ => zu_1.trans (lg_uS (zlt9 g_21) rfl pw_2)) dX8_measure_47 rfl (fun v_47 hf => ?_)
  refine z_iload (pc' := 50) C 0 dX8_measure_48 rfl rfl ?_
  cases hf
  exact z_xr (z_widen (by decide) (by decide) (z_iret C rfl rfl dX8_measure_50))
set_option maxRecDepth 20000 in
theorem c_X8_checkState {w : zV} {N : Nat} {h : zH} {p0 : Int32} {r : (String) ⊕ (Unit)} (hf : f_X8_checkState p0 = some r) : zMx w yX8_checkState cX8_checkState 1 none (zrx 6 90 1 6) N h [.int p0] (zOm (fun e => (e, h)) (fun q => none) (fun q => h) r) := by
  unfold f_X8_checkState at hf
  refine zMx_of (by decide) rfl (fun X C htab => ?_)
  refine z_pick (lv' := [(0, .int p0)]) [0] rfl ?_
  refine z_iload_n (pc' := 1) C 0 dX8_checkState_0 rfl rfl rfl ?_
  refine z_if_ne (pc' := 4) C 15 hf dX8_checkState_1 rfl rfl (fun g_1 hf => ?_) (fun g_1 hf => ?_)
  · cases hf
    exact z_xr (z_widen (by decide) (by decide) (z_vret C rfl rfl dX8_checkState_15))
  · cases hf
    exact z_throw C htab (i := 13) (j := 2) rfl rfl zat_is zbt_is zct_is (by decide) zw_1062 zw_22 rfl dX8_checkState_4 rfl dX8_checkState_7 rfl dX8_checkState_8 rfl dX8_checkState_11 rfl dX8_checkState_14 rfl rfl
set_option maxRecDepth 20000 in
theorem c_X8_propose {w : zV} {N a : Nat} {h : zH} (hN : a + 389 ≤ N) {σ : LgT} {p1 : Int32} {p2 : Int32} {p3 : Int32} {r : (String × LgT) ⊕ (Int32 × LgT)} (hf : f_X8_propose σ p1 p2 p3 = some r) : zMx w yX8_propose cX8_propose 4 (some .int) (zrx 9 178 4 24) N (lgH w a h σ) [.ref (zo w + a), .int p1, .int p2, .int p3] (zOm (fun e => (e.1, lgH w a h e.2)) (fun q => some (.int q.1)) (fun q => lgH w a h q.2) r) := by
  unfold f_X8_propose at hf
  refine zMx_of (by decide) rfl (fun X C htab => ?_)
  refine z_pick (lv' := [(0, .ref (zo w + a)), (1, .int p1), (2, .int p2), (3, .int p3)]) [0, 1, 2, 3] rfl ?_
  refine z_aload_n (pc' := 1) C 0 dX8_propose_0 rfl rfl rfl ?_
  refine z_iload_n (pc' := 2) C 1 dX8_propose_1 rfl rfl rfl ?_
  refine z_iload_n (pc' := 3) C 2 dX8_propose_2 rfl rfl rfl ?_
  refine z_cxV (pc' := 6) C htab hf (As := [.int p1, .int p2]) (fun hq => c_X8_checkItem hN hq) (fun q_3 => []) (fun _ => rfl) (fun _ => rfl) zy_X8_checkItem zw_744 zw_746 zv_18 (ci := 8) rfl (lg_0 hN) rfl rfl rfl rfl rfl dX8_propose_3 rfl (fun q_3 hf => ?_)
  refine z_iload_n (pc' := 7) C 3 dX8_propose_6 rfl rfl rfl ?_
  refine z_sipush (pc' := 10) C dX8_propose_7 zk_sipush_m999 rfl ?_
  refine z_sipush (pc' := 13) C dX8_propose_10 zk_sipush_999 rfl ?_
  refine z_cxS (pc' := 16) C htab hf (As := [.int p3, .int (-999 : Int32), .int (999 : Int32)]) (fun hq => c_X8_checkRange hq) (fun q_13 => []) (fun _ => rfl) (fun _ => rfl) zy_X8_checkRange zw_450 zw_451 rfl rfl rfl rfl rfl dX8_propose_13 rfl (fun q_13 hf => ?_)
  refine z_iload_n (pc' := 17) C 3 dX8_propose_16 rfl rfl rfl ?_
  refine z_if_ne (pc' := 20) C 30 hf dX8_propose_17 rfl rfl (fun g_17 hf => ?_) (fun g_17 hf => ?_)
  · refine z_aload_n (pc' := 31) C 0 dX8_propose_30 rfl rfl rfl ?_
    obtain ⟨g_31, hf⟩ := zG1_s hf
    refine z_callV0 (pc' := 34) (st := []) C (As := []) (c_X8_project hN g_31) zy_X8_project zw_349 zw_351 zv_0 (ci := 8) rfl (lg_0 hN) ⟨rfl, rfl⟩ rfl rfl rfl rfl rfl dX8_propose_31 rfl ?_
    refine z_getf (pc' := 37) C zci_5 zw_249 (j := 5) rfl (lg_S hN (zlt9 g_31) 0 rfl) rfl rfl dX8_propose_34 rfl ?_
    refine z_getf (pc' := 40) C zci_7 zw_152 (j := 0) rfl (lg_S hN (zlt9 g_31) 19 rfl) rfl rfl dX8_propose_37 rfl ?_
    refine z_bipush (pc' := 42) C dX8_propose_40 zk_bipush_20 rfl ?_
    refine z_icmp_ge (pc' := 45) C 49 hf dX8_propose_42 rfl rfl (fun g_42 hf => ?_) (fun g_42 hf => ?_)
    · refine z_iconst (pc' := 50) C dX8_propose_49 zk_iconst_0 rfl ?_
      refine z_cxS (pc' := 53) C htab hf (As := [.int (0 : Int32)]) (fun hq => c_X8_checkState hq) (fun q_50 => []) (fun _ => rfl) (fun _ => rfl) zy_X8_checkState zw_1059 zw_1060 rfl rfl rfl rfl rfl dX8_propose_50 rfl (fun q_50 hf => ?_)
      cases hf
    · refine z_iconst (pc' := 46) C dX8_propose_45 zk_iconst_1 rfl ?_
      refine z_goto C 50 dX8_propose_46 rfl ?_
      refine z_cxS (pc' := 53) C htab hf (As := [.int (1 : Int32)]) (fun hq => c_X8_checkState hq) (fun q_50 => []) (fun _ => rfl) (fun _ => rfl) zy_X8_checkState zw_1059 zw_1060 rfl rfl rfl rfl rfl dX8_propose_50 rfl (fun q_50 hf => ?_)
      refine z_aload_n (pc' := 54) C 0 dX8_propose_53 rfl rfl rfl ?_
      refine z_cV (pc' := 57) C hf (As := []) (fun hq => c_X8_beginChange hN hq) (fun q_54 => (lgH w a h q_54)) (fun q_54 => [.ref (zo w + (a + (74 + 35 * (q_54.1.toNatClampNeg))))]) (fun _ => rfl) (fun _ => rfl) zy_X8_beginChange zw_662 zw_664 zv_16 (ci := 8) rfl (lg_0 hN) ⟨rfl, rfl⟩ rfl rfl rfl rfl rfl dX8_propose_54 rfl (fun q_54 hf => ?_)
      obtain ⟨g_54, hf⟩ := zG1_s hf
      refine z_getf (pc' := 60) C zci_5 zw_249 (j := 5) rfl (lg_S hN (zlt9 g_54) 0 rfl) rfl rfl dX8_propose_57 rfl ?_
      refine z_iload_n (pc' := 61) C 1 dX8_propose_60 rfl rfl rfl ?_
      refine z_iload_n (pc' := 62) C 2 dX8_propose_61 rfl rfl rfl ?_
      refine z_cS (pc' := 65) C hf (As := [.int p1, .int p2]) (fun hq => c_X2_slotOf  hq) (fun _ => (lgH w a h q_54)) (fun q_62 => [.int q_62, .ref (zo w + ((a + (74 + 35 * (q_54.1.toNatClampNeg))) + 19))]) (fun _ => rfl) (fun _ => rfl) zy_X2_slotOf zw_748 zw_395 ⟨rfl, rfl⟩ rfl rfl rfl rfl rfl dX8_propose_62 rfl (fun q_62 hf => ?_)
      refine z_iload_n (pc' := 66) C 3 dX8_propose_65 rfl rfl rfl ?_
      refine z_cV (pc' := 69) C hf (As := [.int q_62, .int p3]) (fun hq => c_X7_add (a := ((a + (74 + 35 * (q_54.1.toNatClampNeg))) + 19)) (lg_S hN (zlt9 g_54) 19 rfl) (lg_S hN (zlt9 g_54) 20 rfl) (lg_S hN (zlt9 g_54) 21 rfl) (lg_S hN (zlt9 g_54) 22 rfl) hq) (fun q_66 => (lgH w a h (q_54.1, q_54.2.1, q_54.2.2.1, q_54.2.2.2.1, q_54.2.2.2.2.1, (va_up q_54.2.2.2.2.2 (q_54.1.toNatClampNeg) (pm_3 (q_54.2.2.2.2.2 (q_54.1.toNatClampNeg)) q_66.2.1 q_66.2.2.1 q_66.2.2.2.1 q_66.2.2.2.2))))) (fun q_66 => [.int q_66.1]) (fun _ => (zu_off (d := 19) rfl).trans (lg_uS (zlt9 g_54) rfl pw_3)) (fun _ => rfl) zy_X7_add zw_1078 zw_1079 zw_1080 (ci := 7) rfl (lg_S hN (zlt9 g_54) 19 rfl) ⟨rfl, rfl⟩ rfl rfl rfl rfl rfl dX8_propose_66 rfl (fun q_66 hf => ?_)
      cases hf
      exact z_xr (z_widen (by decide) (by decide) (z_iret C rfl rfl dX8_propose_69))
  · cases hf
    exact z_throwL C htab (i := 12) (j := 1) rfl rfl zat_ia zbt_ia zct_ia (by decide) zw_453 zw_15 rfl dX8_propose_20 rfl dX8_propose_23 rfl dX8_propose_24 rfl dX8_propose_26 rfl dX8_propose_29 rfl rfl
set_option maxRecDepth 20000 in
theorem c_X8_certify {w : zV} {N a : Nat} {h : zH} (hN : a + 389 ≤ N) {σ : LgT} (hG : PgW w N a h σ) {p1 : Int32} {r : (String × LgT) ⊕ (Int32 × LgT)} (hf : f_X8_certify σ p1 = some r) : zMx w yX8_certify cX8_certify 6 (some .int) (zrx 8 238 2 12) N (lgH w a h σ) [.ref (zo w + a), .int p1] (zOm (fun e => (e.1, lgH w a h e.2)) (fun q => some (.int q.1)) (fun q => lgH w a h q.2) r) := by
  unfold f_X8_certify at hf
  obtain ⟨hG1, hG2, ⟨_, hG3⟩, hG4, hG5, hG6, hG7⟩ := hG
  refine zMx_of (by decide) rfl (fun X C htab => ?_)
  refine z_pick (lv' := [(0, .ref (zo w + a)), (1, .int p1)]) [0, 1] rfl ?_
  refine z_aload_n (pc' := 1) C 0 dX8_certify_0 rfl rfl rfl ?_
  refine z_iload_n (pc' := 2) C 1 dX8_certify_1 rfl rfl rfl ?_
  refine z_cxV (pc' := 5) C htab hf (As := [.int p1]) (fun hq => c_X8_checkContract hN hq) (fun q_2 => []) (fun _ => rfl) (fun _ => rfl) zy_X8_checkContract zw_707 zw_709 zv_17 (ci := 8) rfl (lg_0 hN) rfl rfl rfl rfl rfl dX8_certify_2 rfl (fun q_2 hf => ?_)
  refine z_aload_n (pc' := 6) C 0 dX8_certify_5 rfl rfl rfl ?_
  obtain ⟨g_6, hf⟩ := zG1_s hf
  refine z_callV0 (pc' := 9) (st := []) C (As := []) (c_X8_project hN g_6) zy_X8_project zw_349 zw_351 zv_0 (ci := 8) rfl (lg_0 hN) ⟨rfl, rfl⟩ rfl rfl rfl rfl rfl dX8_certify_6 rfl ?_
  refine z_iload_n (pc' := 10) C 1 dX8_certify_9 rfl rfl rfl ?_
  have hfr_10 := lg_far hG5 hG6 hG7 (zlt9 g_6)
  refine z_cV (pc' := 13) C hf (As := [.int p1]) (fun hq => c_X5_amountToCertify (a := (a + (74 + 35 * (σ.1.toNatClampNeg)))) (pr_pricing := (pj_pr_pricing (σ.2.2.2.2.2 σ.1.toNatClampNeg))) (lg_S hN (zlt9 g_6) 0 rfl) (lg_S hN (zlt9 g_6) 2 rfl) (lg_S hN (zlt9 g_6) 4 rfl) (lg_S hN (zlt9 g_6) 5 rfl) (lg_S hN (zlt9 g_6) 9 rfl) (lg_S hN (zlt9 g_6) 13 rfl) (lg_S hN (zlt9 g_6) 14 rfl) (lg_S hN (zlt9 g_6) 15 rfl) (lg_S hN (zlt9 g_6) 16 rfl) (lg_S hN (zlt9 g_6) 17 rfl) (lg_S hN (zlt9 g_6) 18 rfl) (lg_S hN (zlt9 g_6) 23 rfl) (lg_S hN (zlt9 g_6) 24 rfl) (lg_S hN (zlt9 g_6) 25 rfl) (lg_g0 hG1 hG2 hG5) (lg_g1 hG1 hG3 hG6) (lg_g2 hG1 hG4 hG7) (by omega) hq) (fun q_10 => (lgH w a h (σ.1, σ.2.1, (rs_rd_stk σ.2.2.1 q_10.2), σ.2.2.2.1, σ.2.2.2.2.1, σ.2.2.2.2.2))) (fun q_10 => [.long q_10.1]) (fun _ => lg_uG hG1 hG3 hG6) (fun _ => rfl) zy_X5_amountToCertify zw_1097 zw_1098 zw_1099 (ci := 5) rfl (lg_S hN (zlt9 g_6) 0 rfl) ⟨rfl, rfl⟩ rfl rfl rfl rfl rfl dX8_certify_10 rfl (fun q_10 hf => ?_)
  refine z_lstore_n (pc' := 14) C [(2, .long q_10.1), (0, .ref (zo w + a)), (1, .int p1)] dX8_certify_13 rfl rfl rfl rfl ?_
  refine z_lload_n (pc' := 15) C 0 dX8_certify_14 rfl rfl rfl ?_
  refine z_lconst (pc' := 16) C dX8_certify_15 zl_0 rfl ?_
  refine z_lcmp_le (pc' := 20) C 39 hf dX8_certify_16 rfl dX8_certify_17 rfl rfl (fun g_16 hf => ?_) (fun g_16 hf => ?_)
  · refine z_iconst (pc' := 40) C dX8_certify_39 zk_iconst_0 rfl ?_
    refine z_cxS (pc' := 43) C htab hf (As := [.int (0 : Int32)]) (fun hq => c_X8_checkState hq) (fun q_40 => []) (fun _ => rfl) (fun _ => rfl) zy_X8_checkState zw_1059 zw_1060 rfl rfl rfl rfl rfl dX8_certify_40 rfl (fun q_40 hf => ?_)
    cases hf
  · refine z_aload_n (pc' := 21) C 1 dX8_certify_20 rfl rfl rfl ?_
    refine z_callV0 (pc' := 24) (st := []) C (As := []) (c_X8_project hN g_6) zy_X8_project zw_349 zw_351 zv_0 (ci := 8) rfl (lg_0 hN) ⟨rfl, rfl⟩ rfl rfl rfl rfl rfl dX8_certify_21 rfl ?_
    refine z_getf (pc' := 27) C zci_5 zw_251 (j := 6) rfl (lg_S hN (zlt9 g_6) 0 rfl) rfl rfl dX8_certify_24 rfl ?_
    refine z_getf (pc' := 30) C zci_0 zw_178 (j := 0) rfl (lg_S hN (zlt9 g_6) 23 rfl) rfl rfl dX8_certify_27 rfl ?_
    refine z_bipush (pc' := 32) C dX8_certify_30 zk_bipush_40 rfl ?_
    refine z_icmp_ge (pc' := 35) C 39 hf dX8_certify_32 rfl rfl (fun g_32 hf => ?_) (fun g_32 hf => ?_)
    · refine z_iconst (pc' := 40) C dX8_certify_39 zk_iconst_0 rfl ?_
      refine z_cxS (pc' := 43) C htab hf (As := [.int (0 : Int32)]) (fun hq => c_X8_checkState hq) (fun q_40 => []) (fun _ => rfl) (fun _ => rfl) zy_X8_checkState zw_1059 zw_1060 rfl rfl rfl rfl rfl dX8_certify_40 rfl (fun q_40 hf => ?_)
      cases hf
    · refine z_iconst (pc' := 36) C dX8_certify_35 zk_iconst_1 rfl ?_
      refine z_goto C 40 dX8_certify_36 rfl ?_
      refine z_cxS (pc' := 43) C htab hf (As := [.int (1 : Int32)]) (fun hq => c_X8_checkState hq) (fun q_40 => []) (fun _ => rfl) (fun _ => rfl) zy_X8_checkState zw_1059 zw_1060 rfl rfl rfl rfl rfl dX8_certify_40 rfl (fun q_40 hf => ?_)
      refine z_aload_n (pc' := 44) C 1 dX8_certify_43 rfl rfl rfl ?_
      refine z_cV (pc' := 47) C hf (As := []) (fun hq => c_X8_beginChange hN hq) (fun q_44 => (lgH w a h q_44)) (fun q_44 => [.ref (zo w + (a + (74 + 35 * (q_44.1.toNatClampNeg))))]) (fun _ => rfl) (fun _ => rfl) zy_X8_beginChange zw_662 zw_664 zv_16 (ci := 8) rfl (lg_0 hN) ⟨rfl, rfl⟩ rfl rfl rfl rfl rfl dX8_certify_44 rfl (fun q_44 hf => ?_)
      obtain ⟨g_44, hf⟩ := zG1_s hf
      refine z_astore (pc' := 49) C [(4, .ref (zo w + (a + (74 + 35 * (q_44.1.toNatClampNeg))))), (2, .long q_10.1), (0, .ref (zo w + a)), (1, .int p1)] dX8_certify_47 rfl rfl rfl ?_
      refine z_aload (pc' := 51) C 0 dX8_certify_49 rfl rfl ?_
      refine z_getf (pc' := 54) C zci_5 zw_235 (j := 0) rfl (lg_S hN (zlt9 g_44) 0 rfl) rfl rfl dX8_certify_51 rfl ?_
      refine z_aload (pc' := 56) C 0 dX8_certify_54 rfl rfl ?_
      refine z_getf (pc' := 59) C zci_5 zw_240 (j := 2) rfl (lg_S hN (zlt9 g_44) 0 rfl) rfl rfl dX8_certify_56 rfl ?_
      refine z_getf (pc' := 62) C zci_1 zw_61 (j := 4) rfl (lg_S hN (zlt9 g_44) 2 rfl) rfl rfl dX8_certify_59 rfl ?_
      refine z_iload_n (pc' := 63) C 3 dX8_certify_62 rfl rfl rfl ?_
      refine z_iald (pc' := 64) C hf (lg_S hN (zlt9 g_44) 6 rfl) dX8_certify_63 rfl (fun v_63 hf => ?_)
      refine z_iadd (pc' := 65) C dX8_certify_64 rfl ?_
      refine z_istore (pc' := 67) C [(5, .int ((pj_pr_day (q_44.2.2.2.2.2 (q_44.1.toNatClampNeg))) + v_63)), (4, .ref (zo w + (a + (74 + 35 * (q_44.1.toNatClampNeg))))), (2, .long q_10.1), (0, .ref (zo w + a)), (1, .int p1)] dX8_certify_65 rfl rfl rfl ?_
      refine z_aload (pc' := 69) C 1 dX8_certify_67 rfl rfl ?_
      refine z_getf (pc' := 72) C zci_5 zw_251 (j := 6) rfl (lg_S hN (zlt9 g_44) 0 rfl) rfl rfl dX8_certify_69 rfl ?_
      refine z_iload_n (pc' := 73) C 4 dX8_certify_72 rfl rfl rfl ?_
      refine z_lload_n (pc' := 74) C 2 dX8_certify_73 rfl rfl rfl ?_
      refine z_aload (pc' := 76) C 1 dX8_certify_74 rfl rfl ?_
      refine z_getf (pc' := 79) C zci_5 zw_235 (j := 0) rfl (lg_S hN (zlt9 g_44) 0 rfl) rfl rfl dX8_certify_76 rfl ?_
      refine z_iload (pc' := 81) C 0 dX8_certify_79 rfl rfl ?_
      refine z_cV (pc' := 84) C hf (As := [.int p1, .long q_10.1, .int (pj_pr_day (q_44.2.2.2.2.2 (q_44.1.toNatClampNeg))), .int ((pj_pr_day (q_44.2.2.2.2.2 (q_44.1.toNatClampNeg))) + v_63)]) (fun hq => c_X0_add (a := ((a + (74 + 35 * (q_44.1.toNatClampNeg))) + 23)) (lg_S hN (zlt9 g_44) 23 rfl) (lg_S hN (zlt9 g_44) 24 rfl) (lg_S hN (zlt9 g_44) 25 rfl) (lg_S hN (zlt9 g_44) 26 rfl) (lg_S hN (zlt9 g_44) 27 rfl) (lg_S hN (zlt9 g_44) 28 rfl) hq) (fun q_81 => (lgH w a h (q_44.1, q_44.2.1, q_44.2.2.1, q_44.2.2.2.1, q_44.2.2.2.2.1, (va_up q_44.2.2.2.2.2 (q_44.1.toNatClampNeg) (pm_6 (q_44.2.2.2.2.2 (q_44.1.toNatClampNeg)) q_81.2.1 q_81.2.2.1 q_81.2.2.2.1 q_81.2.2.2.2.1 q_81.2.2.2.2.2.1 q_81.2.2.2.2.2.2))))) (fun q_81 => [.int q_81.1]) (fun _ => (zu_off (d := 23) rfl).trans (lg_uS (zlt9 g_44) rfl pw_6)) (fun _ => rfl) zy_X0_add zw_1102 zw_1103 zw_1104 (ci := 0) rfl (lg_S hN (zlt9 g_44) 23 rfl) ⟨rfl, rfl⟩ rfl rfl rfl rfl rfl dX8_certify_81 rfl (fun q_81 hf => ?_)
      cases hf
      exact z_xr (z_widen (by decide) (by decide) (z_iret C rfl rfl dX8_certify_84))
set_option maxRecDepth 20000 in
theorem c_X8_nextStage {w : zV} {N a : Nat} {h : zH} (hN : a + 389 ≤ N) {σ : LgT} {p1 : Int32} {r : (String × LgT) ⊕ (Int32 × LgT)} (hf : f_X8_nextStage σ p1 = some r) : zMx w yX8_nextStage cX8_nextStage 3 (some .int) (zrx 8 148 3 18) N (lgH w a h σ) [.ref (zo w + a), .int p1] (zOm (fun e => (e.1, lgH w a h e.2)) (fun q => some (.int q.1)) (fun q => lgH w a h q.2) r) := by
  unfold f_X8_nextStage at hf
  refine zMx_of (by decide) rfl (fun X C htab => ?_)
  refine z_pick (lv' := [(0, .ref (zo w + a)), (1, .int p1)]) [0, 1] rfl ?_
  refine z_aload_n (pc' := 1) C 0 dX8_nextStage_0 rfl rfl rfl ?_
  refine z_iload_n (pc' := 2) C 1 dX8_nextStage_1 rfl rfl rfl ?_
  refine z_cxV (pc' := 5) C htab hf (As := [.int p1]) (fun hq => c_X8_checkContract hN hq) (fun q_2 => []) (fun _ => rfl) (fun _ => rfl) zy_X8_checkContract zw_707 zw_709 zv_17 (ci := 8) rfl (lg_0 hN) rfl rfl rfl rfl rfl dX8_nextStage_2 rfl (fun q_2 hf => ?_)
  refine z_aload_n (pc' := 6) C 0 dX8_nextStage_5 rfl rfl rfl ?_
  obtain ⟨g_6, hf⟩ := zG1_s hf
  refine z_callV0 (pc' := 9) (st := []) C (As := []) (c_X8_project hN g_6) zy_X8_project zw_349 zw_351 zv_0 (ci := 8) rfl (lg_0 hN) ⟨rfl, rfl⟩ rfl rfl rfl rfl rfl dX8_nextStage_6 rfl ?_
  refine z_getf (pc' := 12) C zci_5 zw_240 (j := 2) rfl (lg_S hN (zlt9 g_6) 0 rfl) rfl rfl dX8_nextStage_9 rfl ?_
  refine z_getf (pc' := 15) C zci_1 zw_68 (j := 7) rfl (lg_S hN (zlt9 g_6) 2 rfl) rfl rfl dX8_nextStage_12 rfl ?_
  refine z_iload_n (pc' := 16) C 1 dX8_nextStage_15 rfl rfl rfl ?_
  refine z_iald (pc' := 17) C hf (lg_S hN (zlt9 g_6) 9 rfl) dX8_nextStage_16 rfl (fun v_16 hf => ?_)
  refine z_istore_n (pc' := 18) C [(2, .int v_16), (0, .ref (zo w + a)), (1, .int p1)] dX8_nextStage_17 rfl rfl rfl rfl ?_
  refine z_iload_n (pc' := 19) C 0 dX8_nextStage_18 rfl rfl rfl ?_
  refine z_iconst (pc' := 20) C dX8_nextStage_19 zk_iconst_2 rfl ?_
  refine z_icmp_ge (pc' := 23) C 27 hf dX8_nextStage_20 rfl rfl (fun g_20 hf => ?_) (fun g_20 hf => ?_)
  · refine z_iconst (pc' := 28) C dX8_nextStage_27 zk_iconst_0 rfl ?_
    refine z_cxS (pc' := 31) C htab hf (As := [.int (0 : Int32)]) (fun hq => c_X8_checkState hq) (fun q_28 => []) (fun _ => rfl) (fun _ => rfl) zy_X8_checkState zw_1059 zw_1060 rfl rfl rfl rfl rfl dX8_nextStage_28 rfl (fun q_28 hf => ?_)
    cases hf
  · refine z_iconst (pc' := 24) C dX8_nextStage_23 zk_iconst_1 rfl ?_
    refine z_goto C 28 dX8_nextStage_24 rfl ?_
    refine z_cxS (pc' := 31) C htab hf (As := [.int (1 : Int32)]) (fun hq => c_X8_checkState hq) (fun q_28 => []) (fun _ => rfl) (fun _ => rfl) zy_X8_checkState zw_1059 zw_1060 rfl rfl rfl rfl rfl dX8_nextStage_28 rfl (fun q_28 hf => ?_)
    refine z_iload_n (pc' := 32) C 0 dX8_nextStage_31 rfl rfl rfl ?_
    refine z_if_gt (pc' := 35) C 49 hf dX8_nextStage_32 rfl rfl (fun g_32 hf => ?_) (fun g_32 hf => ?_)
    · refine z_iconst (pc' := 50) C dX8_nextStage_49 zk_iconst_1 rfl ?_
      refine z_goto C 54 dX8_nextStage_50 rfl ?_
      refine z_cxS (pc' := 57) C htab hf (As := [.int (1 : Int32)]) (fun hq => c_X8_checkState hq) (fun q_54 => []) (fun _ => rfl) (fun _ => rfl) zy_X8_checkState zw_1059 zw_1060 rfl rfl rfl rfl rfl dX8_nextStage_54 rfl (fun q_54 hf => ?_)
      refine z_aload_n (pc' := 58) C 1 dX8_nextStage_57 rfl rfl rfl ?_
      refine z_cV (pc' := 61) C hf (As := []) (fun hq => c_X8_beginChange hN hq) (fun q_58 => (lgH w a h q_58)) (fun q_58 => [.ref (zo w + (a + (74 + 35 * (q_58.1.toNatClampNeg))))]) (fun _ => rfl) (fun _ => rfl) zy_X8_beginChange zw_662 zw_664 zv_16 (ci := 8) rfl (lg_0 hN) ⟨rfl, rfl⟩ rfl rfl rfl rfl rfl dX8_nextStage_58 rfl (fun q_58 hf => ?_)
      obtain ⟨g_58, hf⟩ := zG1_s hf
      refine z_getf (pc' := 64) C zci_5 zw_240 (j := 2) rfl (lg_S hN (zlt9 g_58) 0 rfl) rfl rfl dX8_nextStage_61 rfl ?_
      refine z_getf (pc' := 67) C zci_1 zw_68 (j := 7) rfl (lg_S hN (zlt9 g_58) 2 rfl) rfl rfl dX8_nextStage_64 rfl ?_
      refine z_iload_n (pc' := 68) C 2 dX8_nextStage_67 rfl rfl rfl ?_
      refine z_iload_n (pc' := 69) C 0 dX8_nextStage_68 rfl rfl rfl ?_
      refine z_iconst (pc' := 70) C dX8_nextStage_69 zk_iconst_1 rfl ?_
      refine z_iadd (pc' := 71) C dX8_nextStage_70 rfl ?_
      refine z_iast (pc' := 72) C hf (lg_S hN (zlt9 g_58) 9 rfl) (h' := fun v_71 => (lgH w a h (q_58.1, q_58.2.1, q_58.2.2.1, q_58.2.2.2.1, q_58.2.2.2.2.1, (va_up q_58.2.2.2.2.2 (q_58.1.toNatClampNeg) (ps_co_stage (q_58.2.2.2.2.2 (q_58.1.toNatClampNeg)) v_71))))) (fun _ => zu_1.trans (lg_uS (zlt9 g_58) rfl pw_7)) dX8_nextStage_71 rfl (fun v_71 hf => ?_)
      refine z_iload_n (pc' := 73) C 0 dX8_nextStage_72 rfl rfl rfl ?_
      refine z_iconst (pc' := 74) C dX8_nextStage_73 zk_iconst_1 rfl ?_
      refine z_iadd (pc' := 75) C dX8_nextStage_74 rfl ?_
      cases hf
      exact z_xr (z_widen (by decide) (by decide) (z_iret C rfl rfl dX8_nextStage_75))
    · refine z_aload_n (pc' := 36) C 1 dX8_nextStage_35 rfl rfl rfl ?_
      refine z_callV0 (pc' := 39) (st := []) C (As := []) (c_X8_project hN g_6) zy_X8_project zw_349 zw_351 zv_0 (ci := 8) rfl (lg_0 hN) ⟨rfl, rfl⟩ rfl rfl rfl rfl rfl dX8_nextStage_36 rfl ?_
      refine z_getf (pc' := 42) C zci_5 zw_247 (j := 4) rfl (lg_S hN (zlt9 g_6) 0 rfl) rfl rfl dX8_nextStage_39 rfl ?_
      refine z_iload_n (pc' := 43) C 2 dX8_nextStage_42 rfl rfl rfl ?_
      refine z_cV (pc' := 46) C hf (As := [.int p1]) (fun hq => c_X2_areComplete (a := ((a + (74 + 35 * (σ.1.toNatClampNeg))) + 13)) (lg_S hN (zlt9 g_6) 13 rfl) (lg_S hN (zlt9 g_6) 14 rfl) (lg_S hN (zlt9 g_6) 18 rfl) hq) (fun _ => (lgH w a h σ)) (fun q_43 => [.int q_43]) (fun _ => rfl) (fun _ => rfl) zy_X2_areComplete zw_1113 zw_1114 zw_1115 (ci := 2) rfl (lg_S hN (zlt9 g_6) 13 rfl) ⟨rfl, rfl⟩ rfl rfl rfl rfl rfl dX8_nextStage_43 rfl (fun q_43 hf => ?_)
      refine z_if_eq (pc' := 49) C 53 hf dX8_nextStage_46 rfl rfl (fun g_46 hf => ?_) (fun g_46 hf => ?_)
      · refine z_iconst (pc' := 54) C dX8_nextStage_53 zk_iconst_0 rfl ?_
        refine z_cxS (pc' := 57) C htab hf (As := [.int (0 : Int32)]) (fun hq => c_X8_checkState hq) (fun q_54 => []) (fun _ => rfl) (fun _ => rfl) zy_X8_checkState zw_1059 zw_1060 rfl rfl rfl rfl rfl dX8_nextStage_54 rfl (fun q_54 hf => ?_)
        cases hf
      · refine z_iconst (pc' := 50) C dX8_nextStage_49 zk_iconst_1 rfl ?_
        refine z_goto C 54 dX8_nextStage_50 rfl ?_
        refine z_cxS (pc' := 57) C htab hf (As := [.int (1 : Int32)]) (fun hq => c_X8_checkState hq) (fun q_54 => []) (fun _ => rfl) (fun _ => rfl) zy_X8_checkState zw_1059 zw_1060 rfl rfl rfl rfl rfl dX8_nextStage_54 rfl (fun q_54 hf => ?_)
        refine z_aload_n (pc' := 58) C 1 dX8_nextStage_57 rfl rfl rfl ?_
        refine z_cV (pc' := 61) C hf (As := []) (fun hq => c_X8_beginChange hN hq) (fun q_58 => (lgH w a h q_58)) (fun q_58 => [.ref (zo w + (a + (74 + 35 * (q_58.1.toNatClampNeg))))]) (fun _ => rfl) (fun _ => rfl) zy_X8_beginChange zw_662 zw_664 zv_16 (ci := 8) rfl (lg_0 hN) ⟨rfl, rfl⟩ rfl rfl rfl rfl rfl dX8_nextStage_58 rfl (fun q_58 hf => ?_)
        obtain ⟨g_58, hf⟩ := zG1_s hf
        refine z_getf (pc' := 64) C zci_5 zw_240 (j := 2) rfl (lg_S hN (zlt9 g_58) 0 rfl) rfl rfl dX8_nextStage_61 rfl ?_
        refine z_getf (pc' := 67) C zci_1 zw_68 (j := 7) rfl (lg_S hN (zlt9 g_58) 2 rfl) rfl rfl dX8_nextStage_64 rfl ?_
        refine z_iload_n (pc' := 68) C 2 dX8_nextStage_67 rfl rfl rfl ?_
        refine z_iload_n (pc' := 69) C 0 dX8_nextStage_68 rfl rfl rfl ?_
        refine z_iconst (pc' := 70) C dX8_nextStage_69 zk_iconst_1 rfl ?_
        refine z_iadd (pc' := 71) C dX8_nextStage_70 rfl ?_
        refine z_iast (pc' := 72) C hf (lg_S hN (zlt9 g_58) 9 rfl) (h' := fun v_71 => (lgH w a h (q_58.1, q_58.2.1, q_58.2.2.1, q_58.2.2.2.1, q_58.2.2.2.2.1, (va_up q_58.2.2.2.2.2 (q_58.1.toNatClampNeg) (ps_co_stage (q_58.2.2.2.2.2 (q_58.1.toNatClampNeg)) v_71))))) (fun _ => zu_1.trans (lg_uS (zlt9 g_58) rfl pw_7)) dX8_nextStage_71 rfl (fun v_71 hf => ?_)
        refine z_iload_n (pc' := 73) C 0 dX8_nextStage_72 rfl rfl rfl ?_
        refine z_iconst (pc' := 74) C dX8_nextStage_73 zk_iconst_1 rfl ?_
        refine z_iadd (pc' := 75) C dX8_nextStage_74 rfl ?_
        cases hf
        exact z_xr (z_widen (by decide) (by decide) (z_iret C rfl rfl dX8_nextStage_75))
set_option maxRecDepth 20000 in
theorem c_X8_pay {w : zV} {N a : Nat} {h : zH} (hN : a + 389 ≤ N) {σ : LgT} {p1 : Int32} {p2 : Int32} {r : (String × LgT) ⊕ (Int64 × LgT)} (hf : f_X8_pay σ p1 p2 = some r) : zMx w yX8_pay cX8_pay 4 (some .long) (zrx 8 148 3 18) N (lgH w a h σ) [.ref (zo w + a), .int p1, .int p2] (zOm (fun e => (e.1, lgH w a h e.2)) (fun q => some (.long q.1)) (fun q => lgH w a h q.2) r) := by
  unfold f_X8_pay at hf
  refine zMx_of (by decide) rfl (fun X C htab => ?_)
  refine z_pick (lv' := [(0, .ref (zo w + a)), (1, .int p1), (2, .int p2)]) [0, 1, 2] rfl ?_
  refine z_aload_n (pc' := 1) C 0 dX8_pay_0 rfl rfl rfl ?_
  refine z_iload_n (pc' := 2) C 1 dX8_pay_1 rfl rfl rfl ?_
  refine z_cxV (pc' := 5) C htab hf (As := [.int p1]) (fun hq => c_X8_checkCertificate hN hq) (fun q_2 => []) (fun _ => rfl) (fun _ => rfl) zy_X8_checkCertificate zw_885 zw_887 zv_19 (ci := 8) rfl (lg_0 hN) rfl rfl rfl rfl rfl dX8_pay_2 rfl (fun q_2 hf => ?_)
  refine z_iload_n (pc' := 6) C 2 dX8_pay_5 rfl rfl rfl ?_
  refine z_iconst (pc' := 7) C dX8_pay_6 zk_iconst_1 rfl ?_
  refine z_icmp_lt (pc' := 10) C 28 hf dX8_pay_7 rfl rfl (fun g_7 hf => ?_) (fun g_7 hf => ?_)
  · cases hf
    exact z_throw C htab (i := 14) (j := 1) rfl rfl zat_ia zbt_ia zct_ia (by decide) zw_453 zw_15 rfl dX8_pay_28 rfl dX8_pay_31 rfl dX8_pay_32 rfl dX8_pay_35 rfl dX8_pay_38 rfl rfl
  · refine z_iload_n (pc' := 11) C 2 dX8_pay_10 rfl rfl rfl ?_
    refine z_i2l (pc' := 12) C dX8_pay_11 rfl ?_
    refine z_aload_n (pc' := 13) C 0 dX8_pay_12 rfl rfl rfl ?_
    obtain ⟨g_13, hf⟩ := zG1_s hf
    refine z_callV0 (pc' := 16) (st := [.long (p2).toInt64]) C (As := []) (c_X8_project hN g_13) zy_X8_project zw_349 zw_351 zv_0 (ci := 8) rfl (lg_0 hN) ⟨rfl, rfl⟩ rfl rfl rfl rfl rfl dX8_pay_13 rfl ?_
    refine z_getf (pc' := 19) C zci_5 zw_251 (j := 6) rfl (lg_S hN (zlt9 g_13) 0 rfl) rfl rfl dX8_pay_16 rfl ?_
    refine z_getf (pc' := 22) C zci_0 zw_186 (j := 3) rfl (lg_S hN (zlt9 g_13) 23 rfl) rfl rfl dX8_pay_19 rfl ?_
    refine z_iload_n (pc' := 23) C 1 dX8_pay_22 rfl rfl rfl ?_
    refine z_lald (pc' := 24) C hf (lg_S hN (zlt9 g_13) 26 rfl) dX8_pay_23 rfl (fun v_23 hf => ?_)
    refine z_lcmp_le (pc' := 28) C 39 hf dX8_pay_24 rfl dX8_pay_25 rfl rfl (fun g_24 hf => ?_) (fun g_24 hf => ?_)
    · refine z_aload_n (pc' := 40) C 0 dX8_pay_39 rfl rfl rfl ?_
      refine z_callV0 (pc' := 43) (st := []) C (As := []) (c_X8_project hN g_13) zy_X8_project zw_349 zw_351 zv_0 (ci := 8) rfl (lg_0 hN) ⟨rfl, rfl⟩ rfl rfl rfl rfl rfl dX8_pay_40 rfl ?_
      refine z_iload_n (pc' := 44) C 1 dX8_pay_43 rfl rfl rfl ?_
      refine z_cV (pc' := 47) C hf (As := [.int p1]) (fun hq => c_X5_isHeldBack (a := (a + (74 + 35 * (σ.1.toNatClampNeg)))) (lg_S hN (zlt9 g_13) 0 rfl) (lg_S hN (zlt9 g_13) 2 rfl) (lg_S hN (zlt9 g_13) 3 rfl) (lg_S hN (zlt9 g_13) 8 rfl) (lg_S hN (zlt9 g_13) 23 rfl) (lg_S hN (zlt9 g_13) 24 rfl) (lg_S hN (zlt9 g_13) 26 rfl) (lg_S hN (zlt9 g_13) 27 rfl) hq) (fun _ => (lgH w a h σ)) (fun q_44 => [.int q_44]) (fun _ => rfl) (fun _ => rfl) zy_X5_isHeldBack zw_917 zw_918 zw_919 (ci := 5) rfl (lg_S hN (zlt9 g_13) 0 rfl) ⟨rfl, rfl⟩ rfl rfl rfl rfl rfl dX8_pay_44 rfl (fun q_44 hf => ?_)
      refine z_if_ne (pc' := 50) C 54 hf dX8_pay_47 rfl rfl (fun g_47 hf => ?_) (fun g_47 hf => ?_)
      · refine z_iconst (pc' := 55) C dX8_pay_54 zk_iconst_0 rfl ?_
        refine z_cxS (pc' := 58) C htab hf (As := [.int (0 : Int32)]) (fun hq => c_X8_checkState hq) (fun q_55 => []) (fun _ => rfl) (fun _ => rfl) zy_X8_checkState zw_1059 zw_1060 rfl rfl rfl rfl rfl dX8_pay_55 rfl (fun q_55 hf => ?_)
        cases hf
      · refine z_iconst (pc' := 51) C dX8_pay_50 zk_iconst_1 rfl ?_
        refine z_goto C 55 dX8_pay_51 rfl ?_
        refine z_cxS (pc' := 58) C htab hf (As := [.int (1 : Int32)]) (fun hq => c_X8_checkState hq) (fun q_55 => []) (fun _ => rfl) (fun _ => rfl) zy_X8_checkState zw_1059 zw_1060 rfl rfl rfl rfl rfl dX8_pay_55 rfl (fun q_55 hf => ?_)
        refine z_aload_n (pc' := 59) C 0 dX8_pay_58 rfl rfl rfl ?_
        refine z_callV0 (pc' := 62) (st := []) C (As := []) (c_X8_project hN g_13) zy_X8_project zw_349 zw_351 zv_0 (ci := 8) rfl (lg_0 hN) ⟨rfl, rfl⟩ rfl rfl rfl rfl rfl dX8_pay_59 rfl ?_
        refine z_iload_n (pc' := 63) C 1 dX8_pay_62 rfl rfl rfl ?_
        refine z_cV (pc' := 66) C hf (As := [.int p1]) (fun hq => c_X5_payerHolds (a := (a + (74 + 35 * (σ.1.toNatClampNeg)))) (lg_S hN (zlt9 g_13) 0 rfl) (lg_S hN (zlt9 g_13) 1 rfl) (lg_S hN (zlt9 g_13) 2 rfl) (lg_S hN (zlt9 g_13) 3 rfl) (lg_S hN (zlt9 g_13) 23 rfl) (lg_S hN (zlt9 g_13) 24 rfl) hq) (fun _ => (lgH w a h σ)) (fun q_63 => [.long q_63]) (fun _ => rfl) (fun _ => rfl) zy_X5_payerHolds zw_1125 zw_953 zw_954 (ci := 5) rfl (lg_S hN (zlt9 g_13) 0 rfl) ⟨rfl, rfl⟩ rfl rfl rfl rfl rfl dX8_pay_63 rfl (fun q_63 hf => ?_)
        refine z_iload_n (pc' := 67) C 2 dX8_pay_66 rfl rfl rfl ?_
        refine z_i2l (pc' := 68) C dX8_pay_67 rfl ?_
        refine z_lcmp_lt (pc' := 72) C 76 hf dX8_pay_68 rfl dX8_pay_69 rfl rfl (fun g_68 hf => ?_) (fun g_68 hf => ?_)
        · refine z_iconst (pc' := 77) C dX8_pay_76 zk_iconst_0 rfl ?_
          refine z_cxS (pc' := 80) C htab hf (As := [.int (0 : Int32)]) (fun hq => c_X8_checkState hq) (fun q_77 => []) (fun _ => rfl) (fun _ => rfl) zy_X8_checkState zw_1059 zw_1060 rfl rfl rfl rfl rfl dX8_pay_77 rfl (fun q_77 hf => ?_)
          cases hf
        · refine z_iconst (pc' := 73) C dX8_pay_72 zk_iconst_1 rfl ?_
          refine z_goto C 77 dX8_pay_73 rfl ?_
          refine z_cxS (pc' := 80) C htab hf (As := [.int (1 : Int32)]) (fun hq => c_X8_checkState hq) (fun q_77 => []) (fun _ => rfl) (fun _ => rfl) zy_X8_checkState zw_1059 zw_1060 rfl rfl rfl rfl rfl dX8_pay_77 rfl (fun q_77 hf => ?_)
          refine z_aload_n (pc' := 81) C 0 dX8_pay_80 rfl rfl rfl ?_
          refine z_cV (pc' := 84) C hf (As := []) (fun hq => c_X8_beginChange hN hq) (fun q_81 => (lgH w a h q_81)) (fun q_81 => [.ref (zo w + (a + (74 + 35 * (q_81.1.toNatClampNeg))))]) (fun _ => rfl) (fun _ => rfl) zy_X8_beginChange zw_662 zw_664 zv_16 (ci := 8) rfl (lg_0 hN) ⟨rfl, rfl⟩ rfl rfl rfl rfl rfl dX8_pay_81 rfl (fun q_81 hf => ?_)
          obtain ⟨g_81, hf⟩ := zG1_s hf
          refine z_astore_n (pc' := 85) C [(3, .ref (zo w + (a + (74 + 35 * (q_81.1.toNatClampNeg))))), (0, .ref (zo w + a)), (1, .int p1), (2, .int p2)] dX8_pay_84 rfl rfl rfl rfl ?_
          refine z_aload_n (pc' := 86) C 0 dX8_pay_85 rfl rfl rfl ?_
          refine z_iload_n (pc' := 87) C 2 dX8_pay_86 rfl rfl rfl ?_
          refine z_iload_n (pc' := 88) C 3 dX8_pay_87 rfl rfl rfl ?_
          refine z_i2l (pc' := 89) C dX8_pay_88 rfl ?_
          refine z_cV (pc' := 92) C hf (As := [.int p1, .long (p2).toInt64]) (fun hq => c_X5_transfer (a := (a + (74 + 35 * (q_81.1.toNatClampNeg)))) (lg_S hN (zlt9 g_81) 0 rfl) (lg_S hN (zlt9 g_81) 1 rfl) (lg_S hN (zlt9 g_81) 2 rfl) (lg_S hN (zlt9 g_81) 3 rfl) (lg_S hN (zlt9 g_81) 23 rfl) (lg_S hN (zlt9 g_81) 24 rfl) (lg_S hN (zlt9 g_81) 26 rfl) hq) (fun q_89 => (lgH w a h (q_81.1, q_81.2.1, q_81.2.2.1, q_81.2.2.2.1, q_81.2.2.2.2.1, (va_up q_81.2.2.2.2.2 (q_81.1.toNatClampNeg) (pm_8 (q_81.2.2.2.2.2 (q_81.1.toNatClampNeg)) q_89.1 q_89.2))))) (fun q_89 => []) (fun _ => lg_uS (zlt9 g_81) rfl pw_8) (fun _ => rfl) zy_X5_transfer zw_1126 zw_958 zw_959 (ci := 5) rfl (lg_S hN (zlt9 g_81) 0 rfl) ⟨rfl, rfl⟩ rfl rfl rfl rfl rfl dX8_pay_89 rfl (fun q_89 hf => ?_)
          refine z_aload_n (pc' := 93) C 0 dX8_pay_92 rfl rfl rfl ?_
          refine z_getf (pc' := 96) C zci_5 zw_251 (j := 6) rfl (lg_Su hN (zlt9 g_81) 0 rfl) rfl rfl dX8_pay_93 rfl ?_
          refine z_getf (pc' := 99) C zci_0 zw_186 (j := 3) rfl (lg_Su hN (zlt9 g_81) 23 rfl) rfl rfl dX8_pay_96 rfl ?_
          refine z_iload_n (pc' := 100) C 2 dX8_pay_99 rfl rfl rfl ?_
          refine z_lald (pc' := 101) C hf (lg_Su hN (zlt9 g_81) 26 rfl) dX8_pay_100 rfl (fun v_100 hf => ?_)
          cases hf
          exact z_xr (z_widen (by decide) (by decide) (z_lret C rfl rfl dX8_pay_101))
    · cases hf
      exact z_throw C htab (i := 14) (j := 1) rfl rfl zat_ia zbt_ia zct_ia (by decide) zw_453 zw_15 rfl dX8_pay_28 rfl dX8_pay_31 rfl dX8_pay_32 rfl dX8_pay_35 rfl dX8_pay_38 rfl rfl
set_option maxRecDepth 20000 in
theorem c_X8_checkProject {w : zV} {N a : Nat} {h : zH} (hN : a + 389 ≤ N) {σ : LgT} {r : (String) ⊕ (Unit)} (hf : f_X8_checkProject σ = some r) : zMx w yX8_checkProject cX8_checkProject 1 none (zrx 7 118 1 6) N (lgH w a h σ) [.ref (zo w + a)] (zOm (fun e => (e, (lgH w a h σ))) (fun q => none) (fun q => (lgH w a h σ)) r) := by
  unfold f_X8_checkProject at hf
  refine zMx_of (by decide) rfl (fun X C htab => ?_)
  refine z_pick (lv' := [(0, .ref (zo w + a))]) [0] rfl ?_
  refine z_aload_n (pc' := 1) C 0 dX8_checkProject_0 rfl rfl rfl ?_
  obtain ⟨g_1, hf⟩ := zG1_s hf
  refine z_callV0 (pc' := 4) (st := []) C (As := []) (c_X8_project hN g_1) zy_X8_project zw_349 zw_351 zv_0 (ci := 8) rfl (lg_0 hN) ⟨rfl, rfl⟩ rfl rfl rfl rfl rfl dX8_checkProject_1 rfl ?_
  refine z_getf (pc' := 7) C zci_5 zw_240 (j := 2) rfl (lg_S hN (zlt9 g_1) 0 rfl) rfl rfl dX8_checkProject_4 rfl ?_
  refine z_getf (pc' := 10) C zci_1 zw_51 (j := 0) rfl (lg_S hN (zlt9 g_1) 2 rfl) rfl rfl dX8_checkProject_7 rfl ?_
  refine z_if_le (pc' := 13) C 17 hf dX8_checkProject_10 rfl rfl (fun g_10 hf => ?_) (fun g_10 hf => ?_)
  · refine z_iconst (pc' := 18) C dX8_checkProject_17 zk_iconst_0 rfl ?_
    refine z_cxS (pc' := 21) C htab hf (As := [.int (0 : Int32)]) (fun hq => c_X8_checkState hq) (fun q_18 => []) (fun _ => rfl) (fun _ => rfl) zy_X8_checkState zw_1059 zw_1060 rfl rfl rfl rfl rfl dX8_checkProject_18 rfl (fun q_18 hf => ?_)
    cases hf
  · refine z_iconst (pc' := 14) C dX8_checkProject_13 zk_iconst_1 rfl ?_
    refine z_goto C 18 dX8_checkProject_14 rfl ?_
    refine z_cxS (pc' := 21) C htab hf (As := [.int (1 : Int32)]) (fun hq => c_X8_checkState hq) (fun q_18 => []) (fun _ => rfl) (fun _ => rfl) zy_X8_checkState zw_1059 zw_1060 rfl rfl rfl rfl rfl dX8_checkProject_18 rfl (fun q_18 hf => ?_)
    cases hf
    exact z_xr (z_widen (by decide) (by decide) (z_vret C rfl rfl dX8_checkProject_21))
set_option maxRecDepth 20000 in
theorem c_X8_deposit {w : zV} {N a : Nat} {h : zH} (hN : a + 389 ≤ N) {σ : LgT} {p1 : Int32} {r : (String × LgT) ⊕ (Int64 × LgT)} (hf : f_X8_deposit σ p1 = some r) : zMx w yX8_deposit cX8_deposit 4 (some .long) (zrx 8 146 3 18) N (lgH w a h σ) [.ref (zo w + a), .int p1] (zOm (fun e => (e.1, lgH w a h e.2)) (fun q => some (.long q.1)) (fun q => lgH w a h q.2) r) := by
  unfold f_X8_deposit at hf
  refine zMx_of (by decide) rfl (fun X C htab => ?_)
  refine z_pick (lv' := [(0, .ref (zo w + a)), (1, .int p1)]) [0, 1] rfl ?_
  refine z_iload_n (pc' := 1) C 1 dX8_deposit_0 rfl rfl rfl ?_
  refine z_iconst (pc' := 2) C dX8_deposit_1 zk_iconst_1 rfl ?_
  refine z_ldcw (pc' := 5) C zw_1134 dX8_deposit_2 rfl ?_
  refine z_cxS (pc' := 8) C htab hf (As := [.int p1, .int (1 : Int32), .int (9999999 : Int32)]) (fun hq => c_X8_checkRange hq) (fun q_5 => []) (fun _ => rfl) (fun _ => rfl) zy_X8_checkRange zw_450 zw_451 rfl rfl rfl rfl rfl dX8_deposit_5 rfl (fun q_5 hf => ?_)
  refine z_aload_n (pc' := 9) C 0 dX8_deposit_8 rfl rfl rfl ?_
  refine z_cxV (pc' := 12) C htab hf (As := []) (fun hq => c_X8_checkProject hN hq) (fun q_9 => []) (fun _ => rfl) (fun _ => rfl) zy_X8_checkProject zw_1135 zw_1137 zv_22 (ci := 8) rfl (lg_0 hN) rfl rfl rfl rfl rfl dX8_deposit_9 rfl (fun q_9 hf => ?_)
  refine z_aload_n (pc' := 13) C 0 dX8_deposit_12 rfl rfl rfl ?_
  obtain ⟨g_13, hf⟩ := zG1_s hf
  refine z_callV0 (pc' := 16) (st := []) C (As := []) (c_X8_project hN g_13) zy_X8_project zw_349 zw_351 zv_0 (ci := 8) rfl (lg_0 hN) ⟨rfl, rfl⟩ rfl rfl rfl rfl rfl dX8_deposit_13 rfl ?_
  refine z_getf (pc' := 19) C zci_5 zw_238 (j := 1) rfl (lg_S hN (zlt9 g_13) 0 rfl) rfl rfl dX8_deposit_16 rfl ?_
  refine z_iconst (pc' := 20) C dX8_deposit_19 zk_iconst_0 rfl ?_
  refine z_lald (pc' := 21) C hf (lg_S hN (zlt9 g_13) 1 rfl) dX8_deposit_20 rfl (fun v_20 hf => ?_)
  refine z_iload_n (pc' := 22) C 1 dX8_deposit_21 rfl rfl rfl ?_
  refine z_i2l (pc' := 23) C dX8_deposit_22 rfl ?_
  refine z_ladd (pc' := 24) C dX8_deposit_23 rfl ?_
  refine z_lstore_n (pc' := 25) C [(2, .long (v_20 + (p1).toInt64)), (0, .ref (zo w + a)), (1, .int p1)] dX8_deposit_24 rfl rfl rfl rfl ?_
  refine z_lload_n (pc' := 26) C 0 dX8_deposit_25 rfl rfl rfl ?_
  refine z_ldc2 (pc' := 29) C zw_1139 dX8_deposit_26 rfl ?_
  refine z_lcmp_gt (pc' := 33) C 37 hf dX8_deposit_29 rfl dX8_deposit_30 rfl rfl (fun g_29 hf => ?_) (fun g_29 hf => ?_)
  · refine z_iconst (pc' := 38) C dX8_deposit_37 zk_iconst_0 rfl ?_
    refine z_cxS (pc' := 41) C htab hf (As := [.int (0 : Int32)]) (fun hq => c_X8_checkState hq) (fun q_38 => []) (fun _ => rfl) (fun _ => rfl) zy_X8_checkState zw_1059 zw_1060 rfl rfl rfl rfl rfl dX8_deposit_38 rfl (fun q_38 hf => ?_)
    cases hf
  · refine z_iconst (pc' := 34) C dX8_deposit_33 zk_iconst_1 rfl ?_
    refine z_goto C 38 dX8_deposit_34 rfl ?_
    refine z_cxS (pc' := 41) C htab hf (As := [.int (1 : Int32)]) (fun hq => c_X8_checkState hq) (fun q_38 => []) (fun _ => rfl) (fun _ => rfl) zy_X8_checkState zw_1059 zw_1060 rfl rfl rfl rfl rfl dX8_deposit_38 rfl (fun q_38 hf => ?_)
    refine z_aload_n (pc' := 42) C 1 dX8_deposit_41 rfl rfl rfl ?_
    refine z_cV (pc' := 45) C hf (As := []) (fun hq => c_X8_beginChange hN hq) (fun q_42 => (lgH w a h q_42)) (fun q_42 => [.ref (zo w + (a + (74 + 35 * (q_42.1.toNatClampNeg))))]) (fun _ => rfl) (fun _ => rfl) zy_X8_beginChange zw_662 zw_664 zv_16 (ci := 8) rfl (lg_0 hN) ⟨rfl, rfl⟩ rfl rfl rfl rfl rfl dX8_deposit_42 rfl (fun q_42 hf => ?_)
    obtain ⟨g_42, hf⟩ := zG1_s hf
    refine z_getf (pc' := 48) C zci_5 zw_238 (j := 1) rfl (lg_S hN (zlt9 g_42) 0 rfl) rfl rfl dX8_deposit_45 rfl ?_
    refine z_iconst (pc' := 49) C dX8_deposit_48 zk_iconst_0 rfl ?_
    refine z_lload_n (pc' := 50) C 0 dX8_deposit_49 rfl rfl rfl ?_
    refine z_last (pc' := 51) C hf (lg_S hN (zlt9 g_42) 1 rfl) (h' := fun v_50 => (lgH w a h (q_42.1, q_42.2.1, q_42.2.2.1, q_42.2.2.2.1, q_42.2.2.2.2.1, (va_up q_42.2.2.2.2.2 (q_42.1.toNatClampNeg) (ps_pr_accounts (q_42.2.2.2.2.2 (q_42.1.toNatClampNeg)) v_50))))) (fun _ => zu_1.trans (lg_uS (zlt9 g_42) rfl pw_9)) dX8_deposit_50 rfl (fun v_50 hf => ?_)
    refine z_lload_n (pc' := 52) C 0 dX8_deposit_51 rfl rfl rfl ?_
    cases hf
    exact z_xr (z_widen (by decide) (by decide) (z_lret C rfl rfl dX8_deposit_52))
set_option maxRecDepth 20000 in
theorem c_X8_settle {w : zV} {N a : Nat} {h : zH} (hN : a + 389 ≤ N) {σ : LgT} {p1 : Int32} {r : (String × LgT) ⊕ (Int64 × LgT)} (hf : f_X8_settle σ p1 = some r) : zMx w yX8_settle cX8_settle 2 (some .long) (zrx 8 159 3 18) N (lgH w a h σ) [.ref (zo w + a), .int p1] (zOm (fun e => (e.1, lgH w a h e.2)) (fun q => some (.long q.1)) (fun q => lgH w a h q.2) r) := by
  unfold f_X8_settle at hf
  refine zMx_of (by decide) rfl (fun X C htab => ?_)
  refine z_pick (lv' := [(0, .ref (zo w + a)), (1, .int p1)]) [0, 1] rfl ?_
  refine z_iload_n (pc' := 1) C 1 dX8_settle_0 rfl rfl rfl ?_
  refine z_iconst (pc' := 2) C dX8_settle_1 zk_iconst_1 rfl ?_
  refine z_bipush (pc' := 4) C dX8_settle_2 zk_bipush_100 rfl ?_
  refine z_cxS (pc' := 7) C htab hf (As := [.int p1, .int (1 : Int32), .int (100 : Int32)]) (fun hq => c_X8_checkRange hq) (fun q_4 => []) (fun _ => rfl) (fun _ => rfl) zy_X8_checkRange zw_450 zw_451 rfl rfl rfl rfl rfl dX8_settle_4 rfl (fun q_4 hf => ?_)
  refine z_aload_n (pc' := 8) C 0 dX8_settle_7 rfl rfl rfl ?_
  refine z_cxV (pc' := 11) C htab hf (As := []) (fun hq => c_X8_checkProject hN hq) (fun q_8 => []) (fun _ => rfl) (fun _ => rfl) zy_X8_checkProject zw_1135 zw_1137 zv_22 (ci := 8) rfl (lg_0 hN) rfl rfl rfl rfl rfl dX8_settle_8 rfl (fun q_8 hf => ?_)
  refine z_aload_n (pc' := 12) C 0 dX8_settle_11 rfl rfl rfl ?_
  obtain ⟨g_12, hf⟩ := zG1_s hf
  refine z_callV0 (pc' := 15) (st := []) C (As := []) (c_X8_project hN g_12) zy_X8_project zw_349 zw_351 zv_0 (ci := 8) rfl (lg_0 hN) ⟨rfl, rfl⟩ rfl rfl rfl rfl rfl dX8_settle_12 rfl ?_
  refine z_getf (pc' := 18) C zci_5 zw_235 (j := 0) rfl (lg_S hN (zlt9 g_12) 0 rfl) rfl rfl dX8_settle_15 rfl ?_
  refine z_iload_n (pc' := 19) C 1 dX8_settle_18 rfl rfl rfl ?_
  refine z_iadd (pc' := 20) C dX8_settle_19 rfl ?_
  refine z_ldcw (pc' := 23) C zw_1147 dX8_settle_20 rfl ?_
  refine z_icmp_gt (pc' := 26) C 30 hf dX8_settle_23 rfl rfl (fun g_23 hf => ?_) (fun g_23 hf => ?_)
  · refine z_iconst (pc' := 31) C dX8_settle_30 zk_iconst_0 rfl ?_
    refine z_cxS (pc' := 34) C htab hf (As := [.int (0 : Int32)]) (fun hq => c_X8_checkState hq) (fun q_31 => []) (fun _ => rfl) (fun _ => rfl) zy_X8_checkState zw_1059 zw_1060 rfl rfl rfl rfl rfl dX8_settle_31 rfl (fun q_31 hf => ?_)
    cases hf
  · refine z_iconst (pc' := 27) C dX8_settle_26 zk_iconst_1 rfl ?_
    refine z_goto C 31 dX8_settle_27 rfl ?_
    refine z_cxS (pc' := 34) C htab hf (As := [.int (1 : Int32)]) (fun hq => c_X8_checkState hq) (fun q_31 => []) (fun _ => rfl) (fun _ => rfl) zy_X8_checkState zw_1059 zw_1060 rfl rfl rfl rfl rfl dX8_settle_31 rfl (fun q_31 hf => ?_)
    refine z_aload_n (pc' := 35) C 0 dX8_settle_34 rfl rfl rfl ?_
    refine z_cV (pc' := 38) C hf (As := []) (fun hq => c_X8_beginChange hN hq) (fun q_35 => (lgH w a h q_35)) (fun q_35 => [.ref (zo w + (a + (74 + 35 * (q_35.1.toNatClampNeg))))]) (fun _ => rfl) (fun _ => rfl) zy_X8_beginChange zw_662 zw_664 zv_16 (ci := 8) rfl (lg_0 hN) ⟨rfl, rfl⟩ rfl rfl rfl rfl rfl dX8_settle_35 rfl (fun q_35 hf => ?_)
    obtain ⟨g_35, hf⟩ := zG1_s hf
    refine z_iload_n (pc' := 39) C 1 dX8_settle_38 rfl rfl rfl ?_
    refine z_iconst (pc' := 40) C dX8_settle_39 zk_iconst_m1 rfl ?_
    refine z_cV (pc' := 43) C hf (As := [.int p1, .int (-1 : Int32)]) (fun hq => c_X5_settleUntilPaid (a := (a + (74 + 35 * (q_35.1.toNatClampNeg)))) (lg_S hN (zlt9 g_35) 0 rfl) (lg_S hN (zlt9 g_35) 1 rfl) (lg_S hN (zlt9 g_35) 2 rfl) (lg_S hN (zlt9 g_35) 3 rfl) (lg_S hN (zlt9 g_35) 8 rfl) (lg_S hN (zlt9 g_35) 23 rfl) (lg_S hN (zlt9 g_35) 24 rfl) (lg_S hN (zlt9 g_35) 26 rfl) (lg_S hN (zlt9 g_35) 27 rfl) (lg_S hN (zlt9 g_35) 28 rfl) (lg_S hN (zlt9 g_35) 34 rfl) hq) (fun q_40 => (lgH w a h (q_35.1, q_35.2.1, q_35.2.2.1, q_35.2.2.2.1, q_35.2.2.2.2.1, (va_up q_35.2.2.2.2.2 (q_35.1.toNatClampNeg) (pm_1 (q_35.2.2.2.2.2 (q_35.1.toNatClampNeg)) q_40.2.1 q_40.2.2.1 q_40.2.2.2.1 q_40.2.2.2.2))))) (fun q_40 => [.long q_40.1]) (fun _ => lg_uS (zlt9 g_35) rfl pw_1) (fun _ => rfl) zy_X5_settleUntilPaid zw_932 zw_933 zw_934 (ci := 5) rfl (lg_S hN (zlt9 g_35) 0 rfl) ⟨rfl, rfl⟩ rfl rfl rfl rfl rfl dX8_settle_40 rfl (fun q_40 hf => ?_)
    cases hf
    exact z_xr (z_widen (by decide) (by decide) (z_lret C rfl rfl dX8_settle_43))
set_option maxRecDepth 20000 in
theorem c_X8_fileLien {w : zV} {N a : Nat} {h : zH} (hN : a + 389 ≤ N) {σ : LgT} {p1 : Int32} {r : (String × LgT) ⊕ (Int32 × LgT)} (hf : f_X8_fileLien σ p1 = some r) : zMx w yX8_fileLien cX8_fileLien 5 (some .int) (zrx 8 148 3 18) N (lgH w a h σ) [.ref (zo w + a), .int p1] (zOm (fun e => (e.1, lgH w a h e.2)) (fun q => some (.int q.1)) (fun q => lgH w a h q.2) r) := by
  unfold f_X8_fileLien at hf
  refine zMx_of (by decide) rfl (fun X C htab => ?_)
  refine z_pick (lv' := [(0, .ref (zo w + a)), (1, .int p1)]) [0, 1] rfl ?_
  refine z_aload_n (pc' := 1) C 0 dX8_fileLien_0 rfl rfl rfl ?_
  refine z_iload_n (pc' := 2) C 1 dX8_fileLien_1 rfl rfl rfl ?_
  refine z_cxV (pc' := 5) C htab hf (As := [.int p1]) (fun hq => c_X8_checkContract hN hq) (fun q_2 => []) (fun _ => rfl) (fun _ => rfl) zy_X8_checkContract zw_707 zw_709 zv_17 (ci := 8) rfl (lg_0 hN) rfl rfl rfl rfl rfl dX8_fileLien_2 rfl (fun q_2 hf => ?_)
  refine z_aload_n (pc' := 6) C 0 dX8_fileLien_5 rfl rfl rfl ?_
  obtain ⟨g_6, hf⟩ := zG1_s hf
  refine z_callV0 (pc' := 9) (st := []) C (As := []) (c_X8_project hN g_6) zy_X8_project zw_349 zw_351 zv_0 (ci := 8) rfl (lg_0 hN) ⟨rfl, rfl⟩ rfl rfl rfl rfl rfl dX8_fileLien_6 rfl ?_
  refine z_iload_n (pc' := 10) C 1 dX8_fileLien_9 rfl rfl rfl ?_
  refine z_cV (pc' := 13) C hf (As := [.int p1]) (fun hq => c_X5_overdueOf (a := (a + (74 + 35 * (σ.1.toNatClampNeg)))) (lg_S hN (zlt9 g_6) 0 rfl) (lg_S hN (zlt9 g_6) 23 rfl) (lg_S hN (zlt9 g_6) 24 rfl) (lg_S hN (zlt9 g_6) 26 rfl) (lg_S hN (zlt9 g_6) 28 rfl) hq) (fun _ => (lgH w a h σ)) (fun q_10 => [.long q_10]) (fun _ => rfl) (fun _ => rfl) zy_X5_overdueOf zw_844 zw_845 zw_846 (ci := 5) rfl (lg_S hN (zlt9 g_6) 0 rfl) ⟨rfl, rfl⟩ rfl rfl rfl rfl rfl dX8_fileLien_10 rfl (fun q_10 hf => ?_)
  refine z_lstore_n (pc' := 14) C [(2, .long q_10), (0, .ref (zo w + a)), (1, .int p1)] dX8_fileLien_13 rfl rfl rfl rfl ?_
  refine z_lload_n (pc' := 15) C 0 dX8_fileLien_14 rfl rfl rfl ?_
  refine z_lconst (pc' := 16) C dX8_fileLien_15 zl_0 rfl ?_
  refine z_lcmp_le (pc' := 20) C 35 hf dX8_fileLien_16 rfl dX8_fileLien_17 rfl rfl (fun g_16 hf => ?_) (fun g_16 hf => ?_)
  · refine z_iconst (pc' := 36) C dX8_fileLien_35 zk_iconst_0 rfl ?_
    refine z_cxS (pc' := 39) C htab hf (As := [.int (0 : Int32)]) (fun hq => c_X8_checkState hq) (fun q_36 => []) (fun _ => rfl) (fun _ => rfl) zy_X8_checkState zw_1059 zw_1060 rfl rfl rfl rfl rfl dX8_fileLien_36 rfl (fun q_36 hf => ?_)
    cases hf
  · refine z_aload_n (pc' := 21) C 1 dX8_fileLien_20 rfl rfl rfl ?_
    refine z_callV0 (pc' := 24) (st := []) C (As := []) (c_X8_project hN g_6) zy_X8_project zw_349 zw_351 zv_0 (ci := 8) rfl (lg_0 hN) ⟨rfl, rfl⟩ rfl rfl rfl rfl rfl dX8_fileLien_21 rfl ?_
    refine z_iload_n (pc' := 25) C 2 dX8_fileLien_24 rfl rfl rfl ?_
    refine z_cV (pc' := 28) C hf (As := [.int p1]) (fun hq => c_X5_hasClaim (a := (a + (74 + 35 * (σ.1.toNatClampNeg)))) (lg_S hN (zlt9 g_6) 0 rfl) (lg_S hN (zlt9 g_6) 23 rfl) (lg_S hN (zlt9 g_6) 24 rfl) (lg_S hN (zlt9 g_6) 26 rfl) (lg_S hN (zlt9 g_6) 29 rfl) (lg_S hN (zlt9 g_6) 30 rfl) (lg_S hN (zlt9 g_6) 31 rfl) (lg_S hN (zlt9 g_6) 33 rfl) hq) (fun _ => (lgH w a h σ)) (fun q_25 => [.int q_25]) (fun _ => rfl) (fun _ => rfl) zy_X5_hasClaim zw_1162 zw_1163 zw_1164 (ci := 5) rfl (lg_S hN (zlt9 g_6) 0 rfl) ⟨rfl, rfl⟩ rfl rfl rfl rfl rfl dX8_fileLien_25 rfl (fun q_25 hf => ?_)
    refine z_if_ne (pc' := 31) C 35 hf dX8_fileLien_28 rfl rfl (fun g_28 hf => ?_) (fun g_28 hf => ?_)
    · refine z_iconst (pc' := 36) C dX8_fileLien_35 zk_iconst_0 rfl ?_
      refine z_cxS (pc' := 39) C htab hf (As := [.int (0 : Int32)]) (fun hq => c_X8_checkState hq) (fun q_36 => []) (fun _ => rfl) (fun _ => rfl) zy_X8_checkState zw_1059 zw_1060 rfl rfl rfl rfl rfl dX8_fileLien_36 rfl (fun q_36 hf => ?_)
      cases hf
    · refine z_iconst (pc' := 32) C dX8_fileLien_31 zk_iconst_1 rfl ?_
      refine z_goto C 36 dX8_fileLien_32 rfl ?_
      refine z_cxS (pc' := 39) C htab hf (As := [.int (1 : Int32)]) (fun hq => c_X8_checkState hq) (fun q_36 => []) (fun _ => rfl) (fun _ => rfl) zy_X8_checkState zw_1059 zw_1060 rfl rfl rfl rfl rfl dX8_fileLien_36 rfl (fun q_36 hf => ?_)
      refine z_aload_n (pc' := 40) C 1 dX8_fileLien_39 rfl rfl rfl ?_
      refine z_callV0 (pc' := 43) (st := []) C (As := []) (c_X8_project hN g_6) zy_X8_project zw_349 zw_351 zv_0 (ci := 8) rfl (lg_0 hN) ⟨rfl, rfl⟩ rfl rfl rfl rfl rfl dX8_fileLien_40 rfl ?_
      refine z_getf (pc' := 46) C zci_5 zw_253 (j := 7) rfl (lg_S hN (zlt9 g_6) 0 rfl) rfl rfl dX8_fileLien_43 rfl ?_
      refine z_getf (pc' := 49) C zci_3 zw_213 (j := 0) rfl (lg_S hN (zlt9 g_6) 29 rfl) rfl rfl dX8_fileLien_46 rfl ?_
      refine z_bipush (pc' := 51) C dX8_fileLien_49 zk_bipush_12 rfl ?_
      refine z_icmp_ge (pc' := 54) C 58 hf dX8_fileLien_51 rfl rfl (fun g_51 hf => ?_) (fun g_51 hf => ?_)
      · refine z_iconst (pc' := 59) C dX8_fileLien_58 zk_iconst_0 rfl ?_
        refine z_cxS (pc' := 62) C htab hf (As := [.int (0 : Int32)]) (fun hq => c_X8_checkState hq) (fun q_59 => []) (fun _ => rfl) (fun _ => rfl) zy_X8_checkState zw_1059 zw_1060 rfl rfl rfl rfl rfl dX8_fileLien_59 rfl (fun q_59 hf => ?_)
        cases hf
      · refine z_iconst (pc' := 55) C dX8_fileLien_54 zk_iconst_1 rfl ?_
        refine z_goto C 59 dX8_fileLien_55 rfl ?_
        refine z_cxS (pc' := 62) C htab hf (As := [.int (1 : Int32)]) (fun hq => c_X8_checkState hq) (fun q_59 => []) (fun _ => rfl) (fun _ => rfl) zy_X8_checkState zw_1059 zw_1060 rfl rfl rfl rfl rfl dX8_fileLien_59 rfl (fun q_59 hf => ?_)
        refine z_aload_n (pc' := 63) C 1 dX8_fileLien_62 rfl rfl rfl ?_
        refine z_cV (pc' := 66) C hf (As := []) (fun hq => c_X8_beginChange hN hq) (fun q_63 => (lgH w a h q_63)) (fun q_63 => [.ref (zo w + (a + (74 + 35 * (q_63.1.toNatClampNeg))))]) (fun _ => rfl) (fun _ => rfl) zy_X8_beginChange zw_662 zw_664 zv_16 (ci := 8) rfl (lg_0 hN) ⟨rfl, rfl⟩ rfl rfl rfl rfl rfl dX8_fileLien_63 rfl (fun q_63 hf => ?_)
        obtain ⟨g_63, hf⟩ := zG1_s hf
        refine z_astore (pc' := 68) C [(4, .ref (zo w + (a + (74 + 35 * (q_63.1.toNatClampNeg))))), (2, .long q_10), (0, .ref (zo w + a)), (1, .int p1)] dX8_fileLien_66 rfl rfl rfl ?_
        refine z_aload (pc' := 70) C 0 dX8_fileLien_68 rfl rfl ?_
        refine z_getf (pc' := 73) C zci_5 zw_253 (j := 7) rfl (lg_S hN (zlt9 g_63) 0 rfl) rfl rfl dX8_fileLien_70 rfl ?_
        refine z_iload_n (pc' := 74) C 3 dX8_fileLien_73 rfl rfl rfl ?_
        refine z_lload_n (pc' := 75) C 1 dX8_fileLien_74 rfl rfl rfl ?_
        refine z_aload (pc' := 77) C 0 dX8_fileLien_75 rfl rfl ?_
        refine z_getf (pc' := 80) C zci_5 zw_235 (j := 0) rfl (lg_S hN (zlt9 g_63) 0 rfl) rfl rfl dX8_fileLien_77 rfl ?_
        refine z_cV (pc' := 83) C hf (As := [.int p1, .long q_10, .int (pj_pr_day (q_63.2.2.2.2.2 (q_63.1.toNatClampNeg)))]) (fun hq => c_X3_add (a := ((a + (74 + 35 * (q_63.1.toNatClampNeg))) + 29)) (lg_S hN (zlt9 g_63) 29 rfl) (lg_S hN (zlt9 g_63) 30 rfl) (lg_S hN (zlt9 g_63) 31 rfl) (lg_S hN (zlt9 g_63) 32 rfl) (lg_S hN (zlt9 g_63) 33 rfl) hq) (fun q_80 => (lgH w a h (q_63.1, q_63.2.1, q_63.2.2.1, q_63.2.2.2.1, q_63.2.2.2.2.1, (va_up q_63.2.2.2.2.2 (q_63.1.toNatClampNeg) (pm_11 (q_63.2.2.2.2.2 (q_63.1.toNatClampNeg)) q_80.2.1 q_80.2.2.1 q_80.2.2.2.1 q_80.2.2.2.2.1 q_80.2.2.2.2.2))))) (fun q_80 => [.int q_80.1]) (fun _ => (zu_off (d := 29) rfl).trans (lg_uS (zlt9 g_63) rfl pw_11)) (fun _ => rfl) zy_X3_add zw_1166 zw_1167 zw_1168 (ci := 3) rfl (lg_S hN (zlt9 g_63) 29 rfl) ⟨rfl, rfl⟩ rfl rfl rfl rfl rfl dX8_fileLien_80 rfl (fun q_80 hf => ?_)
        cases hf
        exact z_xr (z_widen (by decide) (by decide) (z_iret C rfl rfl dX8_fileLien_83))
set_option maxRecDepth 20000 in
theorem c_X8_withdrawLien {w : zV} {N a : Nat} {h : zH} (hN : a + 389 ≤ N) {σ : LgT} {p1 : Int32} {r : (String × LgT) ⊕ (Int64 × LgT)} (hf : f_X8_withdrawLien σ p1 = some r) : zMx w yX8_withdrawLien cX8_withdrawLien 4 (some .long) (zrx 8 148 2 12) N (lgH w a h σ) [.ref (zo w + a), .int p1] (zOm (fun e => (e.1, lgH w a h e.2)) (fun q => some (.long q.1)) (fun q => lgH w a h q.2) r) := by
  unfold f_X8_withdrawLien at hf
  refine zMx_of (by decide) rfl (fun X C htab => ?_)
  refine z_pick (lv' := [(0, .ref (zo w + a)), (1, .int p1)]) [0, 1] rfl ?_
  refine z_aload_n (pc' := 1) C 0 dX8_withdrawLien_0 rfl rfl rfl ?_
  refine z_iload_n (pc' := 2) C 1 dX8_withdrawLien_1 rfl rfl rfl ?_
  refine z_cxV (pc' := 5) C htab hf (As := [.int p1]) (fun hq => c_X8_checkLien hN hq) (fun q_2 => []) (fun _ => rfl) (fun _ => rfl) zy_X8_checkLien zw_999 zw_1001 zv_21 (ci := 8) rfl (lg_0 hN) rfl rfl rfl rfl rfl dX8_withdrawLien_2 rfl (fun q_2 hf => ?_)
  refine z_aload_n (pc' := 6) C 0 dX8_withdrawLien_5 rfl rfl rfl ?_
  obtain ⟨g_6, hf⟩ := zG1_s hf
  refine z_callV0 (pc' := 9) (st := []) C (As := []) (c_X8_project hN g_6) zy_X8_project zw_349 zw_351 zv_0 (ci := 8) rfl (lg_0 hN) ⟨rfl, rfl⟩ rfl rfl rfl rfl rfl dX8_withdrawLien_6 rfl ?_
  refine z_getf (pc' := 12) C zci_5 zw_253 (j := 7) rfl (lg_S hN (zlt9 g_6) 0 rfl) rfl rfl dX8_withdrawLien_9 rfl ?_
  refine z_getf (pc' := 15) C zci_3 zw_222 (j := 4) rfl (lg_S hN (zlt9 g_6) 29 rfl) rfl rfl dX8_withdrawLien_12 rfl ?_
  refine z_iload_n (pc' := 16) C 1 dX8_withdrawLien_15 rfl rfl rfl ?_
  refine z_zald (pc' := 17) C hf (lg_S hN (zlt9 g_6) 33 rfl) dX8_withdrawLien_16 rfl (fun v_16 hf => ?_)
  refine z_if_ne (pc' := 20) C 24 hf dX8_withdrawLien_17 rfl rfl (fun g_17 hf => ?_) (fun g_17 hf => ?_)
  · refine z_iconst (pc' := 25) C dX8_withdrawLien_24 zk_iconst_0 rfl ?_
    refine z_cxS (pc' := 28) C htab hf (As := [.int (0 : Int32)]) (fun hq => c_X8_checkState hq) (fun q_25 => []) (fun _ => rfl) (fun _ => rfl) zy_X8_checkState zw_1059 zw_1060 rfl rfl rfl rfl rfl dX8_withdrawLien_25 rfl (fun q_25 hf => ?_)
    cases hf
  · refine z_iconst (pc' := 21) C dX8_withdrawLien_20 zk_iconst_1 rfl ?_
    refine z_goto C 25 dX8_withdrawLien_21 rfl ?_
    refine z_cxS (pc' := 28) C htab hf (As := [.int (1 : Int32)]) (fun hq => c_X8_checkState hq) (fun q_25 => []) (fun _ => rfl) (fun _ => rfl) zy_X8_checkState zw_1059 zw_1060 rfl rfl rfl rfl rfl dX8_withdrawLien_25 rfl (fun q_25 hf => ?_)
    refine z_aload_n (pc' := 29) C 0 dX8_withdrawLien_28 rfl rfl rfl ?_
    refine z_callV0 (pc' := 32) (st := []) C (As := []) (c_X8_project hN g_6) zy_X8_project zw_349 zw_351 zv_0 (ci := 8) rfl (lg_0 hN) ⟨rfl, rfl⟩ rfl rfl rfl rfl rfl dX8_withdrawLien_29 rfl ?_
    refine z_iload_n (pc' := 33) C 1 dX8_withdrawLien_32 rfl rfl rfl ?_
    refine z_cV (pc' := 36) C hf (As := [.int p1]) (fun hq => c_X5_claimOf (a := (a + (74 + 35 * (σ.1.toNatClampNeg)))) (lg_S hN (zlt9 g_6) 0 rfl) (lg_S hN (zlt9 g_6) 23 rfl) (lg_S hN (zlt9 g_6) 24 rfl) (lg_S hN (zlt9 g_6) 26 rfl) (lg_S hN (zlt9 g_6) 29 rfl) (lg_S hN (zlt9 g_6) 30 rfl) (lg_S hN (zlt9 g_6) 31 rfl) (lg_S hN (zlt9 g_6) 33 rfl) hq) (fun _ => (lgH w a h σ)) (fun q_33 => [.long q_33]) (fun _ => rfl) (fun _ => rfl) zy_X5_claimOf zw_1003 zw_434 zw_435 (ci := 5) rfl (lg_S hN (zlt9 g_6) 0 rfl) ⟨rfl, rfl⟩ rfl rfl rfl rfl rfl dX8_withdrawLien_33 rfl (fun q_33 hf => ?_)
    refine z_lstore_n (pc' := 37) C [(2, .long q_33), (0, .ref (zo w + a)), (1, .int p1)] dX8_withdrawLien_36 rfl rfl rfl rfl ?_
    refine z_aload_n (pc' := 38) C 1 dX8_withdrawLien_37 rfl rfl rfl ?_
    refine z_cV (pc' := 41) C hf (As := []) (fun hq => c_X8_beginChange hN hq) (fun q_38 => (lgH w a h q_38)) (fun q_38 => [.ref (zo w + (a + (74 + 35 * (q_38.1.toNatClampNeg))))]) (fun _ => rfl) (fun _ => rfl) zy_X8_beginChange zw_662 zw_664 zv_16 (ci := 8) rfl (lg_0 hN) ⟨rfl, rfl⟩ rfl rfl rfl rfl rfl dX8_withdrawLien_38 rfl (fun q_38 hf => ?_)
    obtain ⟨g_38, hf⟩ := zG1_s hf
    refine z_getf (pc' := 44) C zci_5 zw_253 (j := 7) rfl (lg_S hN (zlt9 g_38) 0 rfl) rfl rfl dX8_withdrawLien_41 rfl ?_
    refine z_getf (pc' := 47) C zci_3 zw_222 (j := 4) rfl (lg_S hN (zlt9 g_38) 29 rfl) rfl rfl dX8_withdrawLien_44 rfl ?_
    refine z_iload_n (pc' := 48) C 2 dX8_withdrawLien_47 rfl rfl rfl ?_
    refine z_iconst (pc' := 49) C dX8_withdrawLien_48 zk_iconst_1 rfl ?_
    refine z_zast (pc' := 50) C hf (lg_S hN (zlt9 g_38) 33 rfl) (h' := fun v_49 => (lgH w a h (q_38.1, q_38.2.1, q_38.2.2.1, q_38.2.2.2.1, q_38.2.2.2.2.1, (va_up q_38.2.2.2.2.2 (q_38.1.toNatClampNeg) (ps_li_withdrawn (q_38.2.2.2.2.2 (q_38.1.toNatClampNeg)) v_49))))) (fun _ => zu_1.trans (lg_uS (zlt9 g_38) rfl pw_12)) dX8_withdrawLien_49 rfl (fun v_49 hf => ?_)
    refine z_lload_n (pc' := 51) C 0 dX8_withdrawLien_50 rfl rfl rfl ?_
    cases hf
    exact z_xr (z_widen (by decide) (by decide) (z_lret C rfl rfl dX8_withdrawLien_51))
set_option maxRecDepth 20000 in
theorem c_X8_undo {w : zV} {N a : Nat} {h : zH} (hN : a + 389 ≤ N) {σ : LgT} {r : Int32 × LgT} (hf : f_X8_undo σ = some r) : zM w yX8_undo cX8_undo 1 (some .int) (zrx 0 0 0 0) false N N (lgH w a h σ) [.ref (zo w + a)] (some (.int r.1)) (lgH w a h r.2) := by
  unfold f_X8_undo at hf
  refine zM_of (by decide) rfl (fun X C _ => ?_)
  refine z_pick (lv' := [(0, .ref (zo w + a))]) [0] rfl ?_
  refine z_aload_n (pc' := 1) C 0 dX8_undo_0 rfl rfl rfl ?_
  refine z_getf (pc' := 4) C zci_8 zw_320 (j := 3) rfl (lg_0 hN) rfl rfl dX8_undo_1 rfl ?_
  refine z_if_ne (pc' := 7) C 9 hf dX8_undo_4 rfl rfl (fun g_4 hf => ?_) (fun g_4 hf => ?_)
  · refine z_aload_n (pc' := 10) C 0 dX8_undo_9 rfl rfl rfl ?_
    refine z_aload_n (pc' := 11) C 0 dX8_undo_10 rfl rfl rfl ?_
    refine z_getf (pc' := 14) C zci_8 zw_319 (j := 2) rfl (lg_0 hN) rfl rfl dX8_undo_11 rfl ?_
    refine z_if_ne (pc' := 17) C 22 hf dX8_undo_14 rfl rfl (fun g_14 hf => ?_) (fun g_14 hf => ?_)
    · refine z_aload_n (pc' := 23) C 0 dX8_undo_22 rfl rfl rfl ?_
      refine z_getf (pc' := 26) C zci_8 zw_319 (j := 2) rfl (lg_0 hN) rfl rfl dX8_undo_23 rfl ?_
      refine z_iconst (pc' := 27) C dX8_undo_26 zk_iconst_1 rfl ?_
      refine z_isub (pc' := 28) C dX8_undo_27 rfl ?_
      refine z_putf (pc' := 31) C zci_8 zw_319 (j := 2) rfl (lg_0 hN) (fs' := [.ref (zo w + (a + 1)), .ref (zo w + (a + 38)), .int (σ.1 - (1 : Int32)), .int σ.2.1, .ref (zo w + (a + 39))]) rfl rfl rfl rfl rfl (h' := (lgH w a h ((σ.1 - (1 : Int32)), σ.2.1, σ.2.2.1, σ.2.2.2.1, σ.2.2.2.2.1, σ.2.2.2.2.2))) lg_u0 dX8_undo_28 rfl ?_
      refine z_aload_n (pc' := 32) C 0 dX8_undo_31 rfl rfl rfl ?_
      refine z_dup (pc' := 33) C dX8_undo_32 rfl rfl ?_
      refine z_getf (pc' := 36) C zci_8 zw_320 (j := 3) rfl (lg_0 hN) rfl rfl dX8_undo_33 rfl ?_
      refine z_iconst (pc' := 37) C dX8_undo_36 zk_iconst_1 rfl ?_
      refine z_isub (pc' := 38) C dX8_undo_37 rfl ?_
      refine z_putf (pc' := 41) C zci_8 zw_320 (j := 3) rfl (lg_0 hN) (fs' := [.ref (zo w + (a + 1)), .ref (zo w + (a + 38)), .int (σ.1 - (1 : Int32)), .int (σ.2.1 - (1 : Int32)), .ref (zo w + (a + 39))]) rfl rfl rfl rfl rfl (h' := (lgH w a h ((σ.1 - (1 : Int32)), (σ.2.1 - (1 : Int32)), σ.2.2.1, σ.2.2.2.1, σ.2.2.2.2.1, σ.2.2.2.2.2))) lg_u0 dX8_undo_38 rfl ?_
      refine z_aload_n (pc' := 42) C 0 dX8_undo_41 rfl rfl rfl ?_
      refine z_getf (pc' := 45) C zci_8 zw_320 (j := 3) rfl (lg_0 hN) rfl rfl dX8_undo_42 rfl ?_
      cases hf
      exact (z_iret C rfl rfl dX8_undo_45)
    · refine z_bipush (pc' := 19) C dX8_undo_17 zk_bipush_8 rfl ?_
      refine z_goto C 28 dX8_undo_19 rfl ?_
      refine z_putf (pc' := 31) C zci_8 zw_319 (j := 2) rfl (lg_0 hN) (fs' := [.ref (zo w + (a + 1)), .ref (zo w + (a + 38)), .int (8 : Int32), .int σ.2.1, .ref (zo w + (a + 39))]) rfl rfl rfl rfl rfl (h' := (lgH w a h ((8 : Int32), σ.2.1, σ.2.2.1, σ.2.2.2.1, σ.2.2.2.2.1, σ.2.2.2.2.2))) lg_u0 dX8_undo_28 rfl ?_
      refine z_aload_n (pc' := 32) C 0 dX8_undo_31 rfl rfl rfl ?_
      refine z_dup (pc' := 33) C dX8_undo_32 rfl rfl ?_
      refine z_getf (pc' := 36) C zci_8 zw_320 (j := 3) rfl (lg_0 hN) rfl rfl dX8_undo_33 rfl ?_
      refine z_iconst (pc' := 37) C dX8_undo_36 zk_iconst_1 rfl ?_
      refine z_isub (pc' := 38) C dX8_undo_37 rfl ?_
      refine z_putf (pc' := 41) C zci_8 zw_320 (j := 3) rfl (lg_0 hN) (fs' := [.ref (zo w + (a + 1)), .ref (zo w + (a + 38)), .int (8 : Int32), .int (σ.2.1 - (1 : Int32)), .ref (zo w + (a + 39))]) rfl rfl rfl rfl rfl (h' := (lgH w a h ((8 : Int32), (σ.2.1 - (1 : Int32)), σ.2.2.1, σ.2.2.2.1, σ.2.2.2.2.1, σ.2.2.2.2.2))) lg_u0 dX8_undo_38 rfl ?_
      refine z_aload_n (pc' := 42) C 0 dX8_undo_41 rfl rfl rfl ?_
      refine z_getf (pc' := 45) C zci_8 zw_320 (j := 3) rfl (lg_0 hN) rfl rfl dX8_undo_42 rfl ?_
      cases hf
      exact (z_iret C rfl rfl dX8_undo_45)
  · refine z_iconst (pc' := 8) C dX8_undo_7 zk_iconst_m1 rfl ?_
    cases hf
    exact (z_iret C rfl rfl dX8_undo_8)
set_option maxRecDepth 20000 in
theorem c_X8_checksum {w : zV} {N a : Nat} {h : zH} (hN : a + 389 ≤ N) {σ : LgT} (hG : PgW w N a h σ) {r : Int64 × LgT} (hf : f_X8_checksum σ = some r) : zM w yX8_checksum cX8_checksum 1 (some .long) (zrx 7 236 0 0) false N N (lgH w a h σ) [.ref (zo w + a)] (some (.long r.1)) (lgH w a h r.2) := by
  unfold f_X8_checksum at hf
  obtain ⟨hG1, hG2, ⟨_, hG3⟩, hG4, hG5, hG6, hG7⟩ := hG
  refine zM_of (by decide) rfl (fun X C _ => ?_)
  refine z_pick (lv' := [(0, .ref (zo w + a))]) [0] rfl ?_
  refine z_aload_n (pc' := 1) C 0 dX8_checksum_0 rfl rfl rfl ?_
  obtain ⟨g_1, hf⟩ := zG1_s hf
  refine z_callV0 (pc' := 4) (st := []) C (As := []) (c_X8_project hN g_1) zy_X8_project zw_349 zw_351 zv_0 (ci := 8) rfl (lg_0 hN) ⟨rfl, rfl⟩ rfl rfl rfl rfl rfl dX8_checksum_1 rfl ?_
  have hfr_4 := lg_far hG5 hG6 hG7 (zlt9 g_1)
  refine z_cV (pc' := 7) C hf (As := []) (fun hq => c_X5_checksumOfAll (a := (a + (74 + 35 * (σ.1.toNatClampNeg)))) (pr_pricing := (pj_pr_pricing (σ.2.2.2.2.2 σ.1.toNatClampNeg))) (lg_S hN (zlt9 g_1) 0 rfl) (lg_S hN (zlt9 g_1) 1 rfl) (lg_S hN (zlt9 g_1) 2 rfl) (lg_S hN (zlt9 g_1) 9 rfl) (lg_S hN (zlt9 g_1) 13 rfl) (lg_S hN (zlt9 g_1) 14 rfl) (lg_S hN (zlt9 g_1) 15 rfl) (lg_S hN (zlt9 g_1) 16 rfl) (lg_S hN (zlt9 g_1) 17 rfl) (lg_S hN (zlt9 g_1) 18 rfl) (lg_S hN (zlt9 g_1) 19 rfl) (lg_S hN (zlt9 g_1) 23 rfl) (lg_S hN (zlt9 g_1) 24 rfl) (lg_S hN (zlt9 g_1) 25 rfl) (lg_S hN (zlt9 g_1) 26 rfl) (lg_S hN (zlt9 g_1) 29 rfl) (lg_S hN (zlt9 g_1) 30 rfl) (lg_S hN (zlt9 g_1) 31 rfl) (lg_S hN (zlt9 g_1) 33 rfl) (lg_g0 hG1 hG2 hG5) (lg_g1 hG1 hG3 hG6) (lg_g2 hG1 hG4 hG7) (by omega) hq) (fun q_4 => (lgH w a h (σ.1, σ.2.1, (rs_rd_stk σ.2.2.1 q_4.2), σ.2.2.2.1, σ.2.2.2.2.1, σ.2.2.2.2.2))) (fun q_4 => [.long q_4.1]) (fun _ => lg_uG hG1 hG3 hG6) (fun _ => rfl) zy_X5_checksumOfAll zw_385 zw_386 zw_387 (ci := 5) rfl (lg_S hN (zlt9 g_1) 0 rfl) ⟨rfl, rfl⟩ rfl rfl rfl rfl rfl dX8_checksum_4 rfl (fun q_4 hf => ?_)
  cases hf
  exact (z_lret C rfl rfl dX8_checksum_7)
