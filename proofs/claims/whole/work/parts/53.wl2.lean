set_option maxRecDepth 20000 in
theorem c_X8_settleDays {w : zV} {N a : Nat} {h : zH} (hN : a + 389 ≤ N) {σ : LgT} {p1 : Int32} {p2 : Int32} {r : (String × LgT) ⊕ (Int32 × LgT)} (hf : f_X8_settleDays σ p1 p2 = some r) : zMx w yX8_settleDays cX8_settleDays 3 (some .int) (zrx 8 159 2 12) N (lgH w a h σ) [.ref (zo w + a), .int p1, .int p2] (zOm (fun e => (e.1, lgH w a h e.2)) (fun q => some (.int q.1)) (fun q => lgH w a h q.2) r) := by
  unfold f_X8_settleDays at hf
  refine zMx_of (by decide) rfl (fun X C htab => ?_)
  refine z_pick (lv' := [(0, .ref (zo w + a)), (1, .int p1), (2, .int p2)]) [0, 1, 2] rfl ?_
  refine z_aload_n (pc' := 1) C 0 dX8_settleDays_0 rfl rfl rfl ?_
  refine z_iload_n (pc' := 2) C 1 dX8_settleDays_1 rfl rfl rfl ?_
  refine z_cxV (pc' := 5) C htab hf (As := [.int p1]) (fun hq => c_X8_checkCertificate hN hq) (fun q_2 => []) (fun _ => rfl) (fun _ => rfl) zy_X8_checkCertificate zw_885 zw_887 zv_19 (ci := 8) rfl (lg_0 hN) rfl rfl rfl rfl rfl dX8_settleDays_2 rfl (fun q_2 hf => ?_)
  refine z_iload_n (pc' := 6) C 2 dX8_settleDays_5 rfl rfl rfl ?_
  refine z_iconst (pc' := 7) C dX8_settleDays_6 zk_iconst_0 rfl ?_
  refine z_sipush (pc' := 10) C dX8_settleDays_7 zk_sipush_200 rfl ?_
  refine z_cxS (pc' := 13) C htab hf (As := [.int p2, .int (0 : Int32), .int (200 : Int32)]) (fun hq => c_X8_checkRange hq) (fun q_10 => []) (fun _ => rfl) (fun _ => rfl) zy_X8_checkRange zw_450 zw_451 rfl rfl rfl rfl rfl dX8_settleDays_10 rfl (fun q_10 hf => ?_)
  refine z_aload_n (pc' := 14) C 0 dX8_settleDays_13 rfl rfl rfl ?_
  refine z_getf (pc' := 17) C zci_8 zw_321 (j := 4) rfl (lg_0 hN) rfl rfl dX8_settleDays_14 rfl ?_
  refine z_aload_n (pc' := 18) C 0 dX8_settleDays_17 rfl rfl rfl ?_
  obtain ⟨g_18, hf⟩ := zG1_s hf
  refine z_callV0 (pc' := 21) (st := [.ref (zo w + (a + 39))]) C (As := []) (c_X8_project hN g_18) zy_X8_project zw_349 zw_351 zv_0 (ci := 8) rfl (lg_0 hN) ⟨rfl, rfl⟩ rfl rfl rfl rfl rfl dX8_settleDays_18 rfl ?_
  refine z_cV (pc' := 24) C hf (As := [.ref (zo w + (a + (74 + 35 * (σ.1.toNatClampNeg))))]) (fun hq => c_X5_copyFrom (a := (a + 39)) (b1 := (a + (74 + 35 * (σ.1.toNatClampNeg)))) (lg_F hN 0 rfl) (lg_F hN 1 rfl) (lg_F hN 2 rfl) (lg_F hN 3 rfl) (lg_F hN 4 rfl) (lg_F hN 5 rfl) (lg_F hN 6 rfl) (lg_F hN 7 rfl) (lg_F hN 8 rfl) (lg_F hN 9 rfl) (lg_F hN 13 rfl) (lg_F hN 14 rfl) (lg_F hN 15 rfl) (lg_F hN 16 rfl) (lg_F hN 17 rfl) (lg_F hN 18 rfl) (lg_F hN 19 rfl) (lg_F hN 20 rfl) (lg_F hN 21 rfl) (lg_F hN 22 rfl) (lg_F hN 23 rfl) (lg_F hN 24 rfl) (lg_F hN 25 rfl) (lg_F hN 26 rfl) (lg_F hN 27 rfl) (lg_F hN 28 rfl) (lg_F hN 29 rfl) (lg_F hN 30 rfl) (lg_F hN 31 rfl) (lg_F hN 32 rfl) (lg_F hN 33 rfl) (lg_S hN (zlt9 g_18) 0 rfl) (lg_S hN (zlt9 g_18) 1 rfl) (lg_S hN (zlt9 g_18) 2 rfl) (lg_S hN (zlt9 g_18) 3 rfl) (lg_S hN (zlt9 g_18) 4 rfl) (lg_S hN (zlt9 g_18) 5 rfl) (lg_S hN (zlt9 g_18) 6 rfl) (lg_S hN (zlt9 g_18) 7 rfl) (lg_S hN (zlt9 g_18) 8 rfl) (lg_S hN (zlt9 g_18) 9 rfl) (lg_S hN (zlt9 g_18) 13 rfl) (lg_S hN (zlt9 g_18) 14 rfl) (lg_S hN (zlt9 g_18) 15 rfl) (lg_S hN (zlt9 g_18) 16 rfl) (lg_S hN (zlt9 g_18) 17 rfl) (lg_S hN (zlt9 g_18) 18 rfl) (lg_S hN (zlt9 g_18) 19 rfl) (lg_S hN (zlt9 g_18) 20 rfl) (lg_S hN (zlt9 g_18) 21 rfl) (lg_S hN (zlt9 g_18) 22 rfl) (lg_S hN (zlt9 g_18) 23 rfl) (lg_S hN (zlt9 g_18) 24 rfl) (lg_S hN (zlt9 g_18) 25 rfl) (lg_S hN (zlt9 g_18) 26 rfl) (lg_S hN (zlt9 g_18) 27 rfl) (lg_S hN (zlt9 g_18) 28 rfl) (lg_S hN (zlt9 g_18) 29 rfl) (lg_S hN (zlt9 g_18) 30 rfl) (lg_S hN (zlt9 g_18) 31 rfl) (lg_S hN (zlt9 g_18) 32 rfl) (lg_S hN (zlt9 g_18) 33 rfl) (by omega) hq) (fun q_21 => (lgH w a h (σ.1, σ.2.1, σ.2.2.1, σ.2.2.2.1, (pm_0 σ.2.2.2.2.1 q_21.1 q_21.2.1 q_21.2.2.1 q_21.2.2.2.1 q_21.2.2.2.2.1 q_21.2.2.2.2.2.1 q_21.2.2.2.2.2.2.1 q_21.2.2.2.2.2.2.2.1 q_21.2.2.2.2.2.2.2.2.1 q_21.2.2.2.2.2.2.2.2.2.1 q_21.2.2.2.2.2.2.2.2.2.2.1 q_21.2.2.2.2.2.2.2.2.2.2.2.1 q_21.2.2.2.2.2.2.2.2.2.2.2.2.1 q_21.2.2.2.2.2.2.2.2.2.2.2.2.2.1 q_21.2.2.2.2.2.2.2.2.2.2.2.2.2.2.1 q_21.2.2.2.2.2.2.2.2.2.2.2.2.2.2.2.1 q_21.2.2.2.2.2.2.2.2.2.2.2.2.2.2.2.2.1 q_21.2.2.2.2.2.2.2.2.2.2.2.2.2.2.2.2.2.1 q_21.2.2.2.2.2.2.2.2.2.2.2.2.2.2.2.2.2.2.1 q_21.2.2.2.2.2.2.2.2.2.2.2.2.2.2.2.2.2.2.2.1 q_21.2.2.2.2.2.2.2.2.2.2.2.2.2.2.2.2.2.2.2.2.1 q_21.2.2.2.2.2.2.2.2.2.2.2.2.2.2.2.2.2.2.2.2.2.1 q_21.2.2.2.2.2.2.2.2.2.2.2.2.2.2.2.2.2.2.2.2.2.2.1 q_21.2.2.2.2.2.2.2.2.2.2.2.2.2.2.2.2.2.2.2.2.2.2.2.1 q_21.2.2.2.2.2.2.2.2.2.2.2.2.2.2.2.2.2.2.2.2.2.2.2.2.1 q_21.2.2.2.2.2.2.2.2.2.2.2.2.2.2.2.2.2.2.2.2.2.2.2.2.2.1 q_21.2.2.2.2.2.2.2.2.2.2.2.2.2.2.2.2.2.2.2.2.2.2.2.2.2.2.1 q_21.2.2.2.2.2.2.2.2.2.2.2.2.2.2.2.2.2.2.2.2.2.2.2.2.2.2.2.1 q_21.2.2.2.2.2.2.2.2.2.2.2.2.2.2.2.2.2.2.2.2.2.2.2.2.2.2.2.2.1 q_21.2.2.2.2.2.2.2.2.2.2.2.2.2.2.2.2.2.2.2.2.2.2.2.2.2.2.2.2.2 (pj_pr_pricing (σ.2.2.2.2.2 (σ.1.toNatClampNeg))) (pj_pg_threshold (σ.2.2.2.2.2 (σ.1.toNatClampNeg))) (pj_pg_length (σ.2.2.2.2.2 (σ.1.toNatClampNeg))) (pj_pg_clen (σ.2.2.2.2.2 (σ.1.toNatClampNeg))) (pj_pg_code (σ.2.2.2.2.2 (σ.1.toNatClampNeg)))), σ.2.2.2.2.2))) (fun q_21 => []) (fun _ => lg_uF  rfl pw_0) (fun _ => rfl) zy_X5_copyFrom zw_667 zw_668 zw_669 (ci := 5) rfl (lg_F hN 0 rfl) ⟨rfl, rfl⟩ rfl rfl rfl rfl rfl dX8_settleDays_21 rfl (fun q_21 hf => ?_)
  refine z_aload_n (pc' := 25) C 0 dX8_settleDays_24 rfl rfl rfl ?_
  refine z_getf (pc' := 28) C zci_8 zw_321 (j := 4) rfl (lg_0 hN) rfl rfl dX8_settleDays_25 rfl ?_
  refine z_iload_n (pc' := 29) C 2 dX8_settleDays_28 rfl rfl rfl ?_
  refine z_iload_n (pc' := 30) C 1 dX8_settleDays_29 rfl rfl rfl ?_
  refine z_cV (pc' := 33) C hf (As := [.int p2, .int p1]) (fun hq => c_X5_settleUntilPaid (a := (a + 39)) (lg_F hN 0 rfl) (lg_F hN 1 rfl) (lg_F hN 2 rfl) (lg_F hN 3 rfl) (lg_F hN 8 rfl) (lg_F hN 23 rfl) (lg_F hN 24 rfl) (lg_F hN 26 rfl) (lg_F hN 27 rfl) (lg_F hN 28 rfl) (lg_F hN 34 rfl) hq) (fun q_30 => (lgH w a h (σ.1, σ.2.1, σ.2.2.1, σ.2.2.2.1, (pm_1 (pm_0 σ.2.2.2.2.1 q_21.1 q_21.2.1 q_21.2.2.1 q_21.2.2.2.1 q_21.2.2.2.2.1 q_21.2.2.2.2.2.1 q_21.2.2.2.2.2.2.1 q_21.2.2.2.2.2.2.2.1 q_21.2.2.2.2.2.2.2.2.1 q_21.2.2.2.2.2.2.2.2.2.1 q_21.2.2.2.2.2.2.2.2.2.2.1 q_21.2.2.2.2.2.2.2.2.2.2.2.1 q_21.2.2.2.2.2.2.2.2.2.2.2.2.1 q_21.2.2.2.2.2.2.2.2.2.2.2.2.2.1 q_21.2.2.2.2.2.2.2.2.2.2.2.2.2.2.1 q_21.2.2.2.2.2.2.2.2.2.2.2.2.2.2.2.1 q_21.2.2.2.2.2.2.2.2.2.2.2.2.2.2.2.2.1 q_21.2.2.2.2.2.2.2.2.2.2.2.2.2.2.2.2.2.1 q_21.2.2.2.2.2.2.2.2.2.2.2.2.2.2.2.2.2.2.1 q_21.2.2.2.2.2.2.2.2.2.2.2.2.2.2.2.2.2.2.2.1 q_21.2.2.2.2.2.2.2.2.2.2.2.2.2.2.2.2.2.2.2.2.1 q_21.2.2.2.2.2.2.2.2.2.2.2.2.2.2.2.2.2.2.2.2.2.1 q_21.2.2.2.2.2.2.2.2.2.2.2.2.2.2.2.2.2.2.2.2.2.2.1 q_21.2.2.2.2.2.2.2.2.2.2.2.2.2.2.2.2.2.2.2.2.2.2.2.1 q_21.2.2.2.2.2.2.2.2.2.2.2.2.2.2.2.2.2.2.2.2.2.2.2.2.1 q_21.2.2.2.2.2.2.2.2.2.2.2.2.2.2.2.2.2.2.2.2.2.2.2.2.2.1 q_21.2.2.2.2.2.2.2.2.2.2.2.2.2.2.2.2.2.2.2.2.2.2.2.2.2.2.1 q_21.2.2.2.2.2.2.2.2.2.2.2.2.2.2.2.2.2.2.2.2.2.2.2.2.2.2.2.1 q_21.2.2.2.2.2.2.2.2.2.2.2.2.2.2.2.2.2.2.2.2.2.2.2.2.2.2.2.2.1 q_21.2.2.2.2.2.2.2.2.2.2.2.2.2.2.2.2.2.2.2.2.2.2.2.2.2.2.2.2.2 (pj_pr_pricing (σ.2.2.2.2.2 (σ.1.toNatClampNeg))) (pj_pg_threshold (σ.2.2.2.2.2 (σ.1.toNatClampNeg))) (pj_pg_length (σ.2.2.2.2.2 (σ.1.toNatClampNeg))) (pj_pg_clen (σ.2.2.2.2.2 (σ.1.toNatClampNeg))) (pj_pg_code (σ.2.2.2.2.2 (σ.1.toNatClampNeg)))) q_30.2.1 q_30.2.2.1 q_30.2.2.2.1 q_30.2.2.2.2), σ.2.2.2.2.2))) (fun q_30 => [.long q_30.1]) (fun _ => lg_uF  rfl pw_1) (fun _ => rfl) zy_X5_settleUntilPaid zw_932 zw_933 zw_934 (ci := 5) rfl (lg_F hN 0 rfl) ⟨rfl, rfl⟩ rfl rfl rfl rfl rfl dX8_settleDays_30 rfl (fun q_30 hf => ?_)
  refine z_pop2 (pc' := 34) C dX8_settleDays_33 rfl rfl ?_
  refine z_aload_n (pc' := 35) C 0 dX8_settleDays_34 rfl rfl rfl ?_
  refine z_getf (pc' := 38) C zci_8 zw_321 (j := 4) rfl (lg_0 hN) rfl rfl dX8_settleDays_35 rfl ?_
  refine z_getf (pc' := 41) C zci_5 zw_251 (j := 6) rfl (lg_F hN 0 rfl) rfl rfl dX8_settleDays_38 rfl ?_
  refine z_iload_n (pc' := 42) C 1 dX8_settleDays_41 rfl rfl rfl ?_
  refine z_cV (pc' := 45) C hf (As := [.int p1]) (fun hq => c_X0_isPaid (a := ((a + 39) + 23)) (lg_F hN 23 rfl) (lg_F hN 26 rfl) hq) (fun _ => (lgH w a h (σ.1, σ.2.1, σ.2.2.1, σ.2.2.2.1, (pm_1 (pm_0 σ.2.2.2.2.1 q_21.1 q_21.2.1 q_21.2.2.1 q_21.2.2.2.1 q_21.2.2.2.2.1 q_21.2.2.2.2.2.1 q_21.2.2.2.2.2.2.1 q_21.2.2.2.2.2.2.2.1 q_21.2.2.2.2.2.2.2.2.1 q_21.2.2.2.2.2.2.2.2.2.1 q_21.2.2.2.2.2.2.2.2.2.2.1 q_21.2.2.2.2.2.2.2.2.2.2.2.1 q_21.2.2.2.2.2.2.2.2.2.2.2.2.1 q_21.2.2.2.2.2.2.2.2.2.2.2.2.2.1 q_21.2.2.2.2.2.2.2.2.2.2.2.2.2.2.1 q_21.2.2.2.2.2.2.2.2.2.2.2.2.2.2.2.1 q_21.2.2.2.2.2.2.2.2.2.2.2.2.2.2.2.2.1 q_21.2.2.2.2.2.2.2.2.2.2.2.2.2.2.2.2.2.1 q_21.2.2.2.2.2.2.2.2.2.2.2.2.2.2.2.2.2.2.1 q_21.2.2.2.2.2.2.2.2.2.2.2.2.2.2.2.2.2.2.2.1 q_21.2.2.2.2.2.2.2.2.2.2.2.2.2.2.2.2.2.2.2.2.1 q_21.2.2.2.2.2.2.2.2.2.2.2.2.2.2.2.2.2.2.2.2.2.1 q_21.2.2.2.2.2.2.2.2.2.2.2.2.2.2.2.2.2.2.2.2.2.2.1 q_21.2.2.2.2.2.2.2.2.2.2.2.2.2.2.2.2.2.2.2.2.2.2.2.1 q_21.2.2.2.2.2.2.2.2.2.2.2.2.2.2.2.2.2.2.2.2.2.2.2.2.1 q_21.2.2.2.2.2.2.2.2.2.2.2.2.2.2.2.2.2.2.2.2.2.2.2.2.2.1 q_21.2.2.2.2.2.2.2.2.2.2.2.2.2.2.2.2.2.2.2.2.2.2.2.2.2.2.1 q_21.2.2.2.2.2.2.2.2.2.2.2.2.2.2.2.2.2.2.2.2.2.2.2.2.2.2.2.1 q_21.2.2.2.2.2.2.2.2.2.2.2.2.2.2.2.2.2.2.2.2.2.2.2.2.2.2.2.2.1 q_21.2.2.2.2.2.2.2.2.2.2.2.2.2.2.2.2.2.2.2.2.2.2.2.2.2.2.2.2.2 (pj_pr_pricing (σ.2.2.2.2.2 (σ.1.toNatClampNeg))) (pj_pg_threshold (σ.2.2.2.2.2 (σ.1.toNatClampNeg))) (pj_pg_length (σ.2.2.2.2.2 (σ.1.toNatClampNeg))) (pj_pg_clen (σ.2.2.2.2.2 (σ.1.toNatClampNeg))) (pj_pg_code (σ.2.2.2.2.2 (σ.1.toNatClampNeg)))) q_30.2.1 q_30.2.2.1 q_30.2.2.2.1 q_30.2.2.2.2), σ.2.2.2.2.2))) (fun q_42 => [.int q_42]) (fun _ => rfl) (fun _ => rfl) zy_X0_isPaid zw_965 zw_941 zw_942 (ci := 0) rfl (lg_F hN 23 rfl) ⟨rfl, rfl⟩ rfl rfl rfl rfl rfl dX8_settleDays_42 rfl (fun q_42 hf => ?_)
  refine z_if_eq (pc' := 48) C 66 hf dX8_settleDays_45 rfl rfl (fun g_45 hf => ?_) (fun g_45 hf => ?_)
  · refine z_iconst (pc' := 67) C dX8_settleDays_66 zk_iconst_m1 rfl ?_
    cases hf
    exact z_xr (z_widen (by decide) (by decide) (z_iret C rfl rfl dX8_settleDays_67))
  · refine z_aload_n (pc' := 49) C 0 dX8_settleDays_48 rfl rfl rfl ?_
    refine z_getf (pc' := 52) C zci_8 zw_321 (j := 4) rfl (lg_0 hN) rfl rfl dX8_settleDays_49 rfl ?_
    refine z_getf (pc' := 55) C zci_5 zw_235 (j := 0) rfl (lg_F hN 0 rfl) rfl rfl dX8_settleDays_52 rfl ?_
    refine z_aload_n (pc' := 56) C 0 dX8_settleDays_55 rfl rfl rfl ?_
    refine z_callV0 (pc' := 59) (st := [.int q_30.2.1]) C (As := []) (c_X8_project hN g_18) zy_X8_project zw_349 zw_351 zv_0 (ci := 8) rfl (lg_0 hN) ⟨rfl, rfl⟩ rfl rfl rfl rfl rfl dX8_settleDays_56 rfl ?_
    refine z_getf (pc' := 62) C zci_5 zw_235 (j := 0) rfl (lg_S hN (zlt9 g_18) 0 rfl) rfl rfl dX8_settleDays_59 rfl ?_
    refine z_isub (pc' := 63) C dX8_settleDays_62 rfl ?_
    refine z_goto C 67 dX8_settleDays_63 rfl ?_
    cases hf
    exact z_xr (z_widen (by decide) (by decide) (z_iret C rfl rfl dX8_settleDays_67))
set_option maxRecDepth 20000 in
theorem c_X8_approve {w : zV} {N a : Nat} {h : zH} (hN : a + 389 ≤ N) {σ : LgT} {p1 : Int32} {r : (String × LgT) ⊕ (Int32 × LgT)} (hf : f_X8_approve σ p1 = some r) : zMx w yX8_approve cX8_approve 4 (some .int) (zrx 8 148 3 18) N (lgH w a h σ) [.ref (zo w + a), .int p1] (zOm (fun e => (e.1, lgH w a h e.2)) (fun q => some (.int q.1)) (fun q => lgH w a h q.2) r) := by
  unfold f_X8_approve at hf
  refine zMx_of (by decide) rfl (fun X C htab => ?_)
  refine z_pick (lv' := [(0, .ref (zo w + a)), (1, .int p1)]) [0, 1] rfl ?_
  refine z_aload_n (pc' := 1) C 0 dX8_approve_0 rfl rfl rfl ?_
  refine z_iload_n (pc' := 2) C 1 dX8_approve_1 rfl rfl rfl ?_
  refine z_cxV (pc' := 5) C htab hf (As := [.int p1]) (fun hq => c_X8_checkVariation hN hq) (fun q_2 => []) (fun _ => rfl) (fun _ => rfl) zy_X8_checkVariation zw_973 zw_975 zv_20 (ci := 8) rfl (lg_0 hN) rfl rfl rfl rfl rfl dX8_approve_2 rfl (fun q_2 hf => ?_)
  refine z_aload_n (pc' := 6) C 0 dX8_approve_5 rfl rfl rfl ?_
  obtain ⟨g_6, hf⟩ := zG1_s hf
  refine z_callV0 (pc' := 9) (st := []) C (As := []) (c_X8_project hN g_6) zy_X8_project zw_349 zw_351 zv_0 (ci := 8) rfl (lg_0 hN) ⟨rfl, rfl⟩ rfl rfl rfl rfl rfl dX8_approve_6 rfl ?_
  refine z_getf (pc' := 12) C zci_5 zw_249 (j := 5) rfl (lg_S hN (zlt9 g_6) 0 rfl) rfl rfl dX8_approve_9 rfl ?_
  refine z_getf (pc' := 15) C zci_7 zw_160 (j := 3) rfl (lg_S hN (zlt9 g_6) 19 rfl) rfl rfl dX8_approve_12 rfl ?_
  refine z_iload_n (pc' := 16) C 1 dX8_approve_15 rfl rfl rfl ?_
  refine z_zald (pc' := 17) C hf (lg_S hN (zlt9 g_6) 22 rfl) dX8_approve_16 rfl (fun v_16 hf => ?_)
  refine z_if_ne (pc' := 20) C 24 hf dX8_approve_17 rfl rfl (fun g_17 hf => ?_) (fun g_17 hf => ?_)
  · refine z_iconst (pc' := 25) C dX8_approve_24 zk_iconst_0 rfl ?_
    refine z_cxS (pc' := 28) C htab hf (As := [.int (0 : Int32)]) (fun hq => c_X8_checkState hq) (fun q_25 => []) (fun _ => rfl) (fun _ => rfl) zy_X8_checkState zw_1059 zw_1060 rfl rfl rfl rfl rfl dX8_approve_25 rfl (fun q_25 hf => ?_)
    cases hf
  · refine z_iconst (pc' := 21) C dX8_approve_20 zk_iconst_1 rfl ?_
    refine z_goto C 25 dX8_approve_21 rfl ?_
    refine z_cxS (pc' := 28) C htab hf (As := [.int (1 : Int32)]) (fun hq => c_X8_checkState hq) (fun q_25 => []) (fun _ => rfl) (fun _ => rfl) zy_X8_checkState zw_1059 zw_1060 rfl rfl rfl rfl rfl dX8_approve_25 rfl (fun q_25 hf => ?_)
    refine z_aload_n (pc' := 29) C 0 dX8_approve_28 rfl rfl rfl ?_
    refine z_callV0 (pc' := 32) (st := []) C (As := []) (c_X8_project hN g_6) zy_X8_project zw_349 zw_351 zv_0 (ci := 8) rfl (lg_0 hN) ⟨rfl, rfl⟩ rfl rfl rfl rfl rfl dX8_approve_29 rfl ?_
    refine z_iload_n (pc' := 33) C 1 dX8_approve_32 rfl rfl rfl ?_
    refine z_cV (pc' := 36) C hf (As := [.int p1]) (fun hq => c_X5_quantityWith (a := (a + (74 + 35 * (σ.1.toNatClampNeg)))) (lg_S hN (zlt9 g_6) 0 rfl) (lg_S hN (zlt9 g_6) 13 rfl) (lg_S hN (zlt9 g_6) 17 rfl) (lg_S hN (zlt9 g_6) 19 rfl) (lg_S hN (zlt9 g_6) 20 rfl) (lg_S hN (zlt9 g_6) 21 rfl) hq) (fun _ => (lgH w a h σ)) (fun q_33 => [.int q_33]) (fun _ => rfl) (fun _ => rfl) zy_X5_quantityWith zw_1089 zw_989 zw_990 (ci := 5) rfl (lg_S hN (zlt9 g_6) 0 rfl) ⟨rfl, rfl⟩ rfl rfl rfl rfl rfl dX8_approve_33 rfl (fun q_33 hf => ?_)
    refine z_istore_n (pc' := 37) C [(2, .int q_33), (0, .ref (zo w + a)), (1, .int p1)] dX8_approve_36 rfl rfl rfl rfl ?_
    refine z_iload_n (pc' := 38) C 0 dX8_approve_37 rfl rfl rfl ?_
    refine z_if_lt (pc' := 41) C 45 hf dX8_approve_38 rfl rfl (fun g_38 hf => ?_) (fun g_38 hf => ?_)
    · refine z_iconst (pc' := 46) C dX8_approve_45 zk_iconst_0 rfl ?_
      refine z_cxS (pc' := 49) C htab hf (As := [.int (0 : Int32)]) (fun hq => c_X8_checkState hq) (fun q_46 => []) (fun _ => rfl) (fun _ => rfl) zy_X8_checkState zw_1059 zw_1060 rfl rfl rfl rfl rfl dX8_approve_46 rfl (fun q_46 hf => ?_)
      cases hf
    · refine z_iconst (pc' := 42) C dX8_approve_41 zk_iconst_1 rfl ?_
      refine z_goto C 46 dX8_approve_42 rfl ?_
      refine z_cxS (pc' := 49) C htab hf (As := [.int (1 : Int32)]) (fun hq => c_X8_checkState hq) (fun q_46 => []) (fun _ => rfl) (fun _ => rfl) zy_X8_checkState zw_1059 zw_1060 rfl rfl rfl rfl rfl dX8_approve_46 rfl (fun q_46 hf => ?_)
      refine z_aload_n (pc' := 50) C 1 dX8_approve_49 rfl rfl rfl ?_
      refine z_cV (pc' := 53) C hf (As := []) (fun hq => c_X8_beginChange hN hq) (fun q_50 => (lgH w a h q_50)) (fun q_50 => [.ref (zo w + (a + (74 + 35 * (q_50.1.toNatClampNeg))))]) (fun _ => rfl) (fun _ => rfl) zy_X8_beginChange zw_662 zw_664 zv_16 (ci := 8) rfl (lg_0 hN) ⟨rfl, rfl⟩ rfl rfl rfl rfl rfl dX8_approve_50 rfl (fun q_50 hf => ?_)
      obtain ⟨g_50, hf⟩ := zG1_s hf
      refine z_astore_n (pc' := 54) C [(3, .ref (zo w + (a + (74 + 35 * (q_50.1.toNatClampNeg))))), (2, .int q_33), (0, .ref (zo w + a)), (1, .int p1)] dX8_approve_53 rfl rfl rfl rfl ?_
      refine z_aload_n (pc' := 55) C 0 dX8_approve_54 rfl rfl rfl ?_
      refine z_getf (pc' := 58) C zci_5 zw_249 (j := 5) rfl (lg_S hN (zlt9 g_50) 0 rfl) rfl rfl dX8_approve_55 rfl ?_
      refine z_getf (pc' := 61) C zci_7 zw_160 (j := 3) rfl (lg_S hN (zlt9 g_50) 19 rfl) rfl rfl dX8_approve_58 rfl ?_
      refine z_iload_n (pc' := 62) C 3 dX8_approve_61 rfl rfl rfl ?_
      refine z_iconst (pc' := 63) C dX8_approve_62 zk_iconst_1 rfl ?_
      refine z_zast (pc' := 64) C hf (lg_S hN (zlt9 g_50) 22 rfl) (h' := fun v_63 => (lgH w a h (q_50.1, q_50.2.1, q_50.2.2.1, q_50.2.2.2.1, q_50.2.2.2.2.1, (va_up q_50.2.2.2.2.2 (q_50.1.toNatClampNeg) (ps_va_approved (q_50.2.2.2.2.2 (q_50.1.toNatClampNeg)) v_63))))) (fun _ => zu_1.trans (lg_uS (zlt9 g_50) rfl pw_4)) dX8_approve_63 rfl (fun v_63 hf => ?_)
      refine z_aload_n (pc' := 65) C 0 dX8_approve_64 rfl rfl rfl ?_
      refine z_getf (pc' := 68) C zci_5 zw_247 (j := 4) rfl (lg_Su hN (zlt9 g_50) 0 rfl) rfl rfl dX8_approve_65 rfl ?_
      refine z_getf (pc' := 71) C zci_2 zw_130 (j := 3) rfl (lg_Su hN (zlt9 g_50) 13 rfl) rfl rfl dX8_approve_68 rfl ?_
      refine z_aload_n (pc' := 72) C 0 dX8_approve_71 rfl rfl rfl ?_
      refine z_getf (pc' := 75) C zci_5 zw_249 (j := 5) rfl (lg_Su hN (zlt9 g_50) 0 rfl) rfl rfl dX8_approve_72 rfl ?_
      refine z_getf (pc' := 78) C zci_7 zw_155 (j := 1) rfl (lg_Su hN (zlt9 g_50) 19 rfl) rfl rfl dX8_approve_75 rfl ?_
      refine z_iload_n (pc' := 79) C 3 dX8_approve_78 rfl rfl rfl ?_
      refine z_iald (pc' := 80) C hf (lg_Su hN (zlt9 g_50) 20 rfl) dX8_approve_79 rfl (fun v_79 hf => ?_)
      refine z_iload_n (pc' := 81) C 1 dX8_approve_80 rfl rfl rfl ?_
      refine z_iast (pc' := 82) C hf (lg_Su hN (zlt9 g_50) 17 rfl) (h' := fun v_81 => (lgH w a h (q_50.1, q_50.2.1, q_50.2.2.1, q_50.2.2.2.1, q_50.2.2.2.2.1, (va_up q_50.2.2.2.2.2 (q_50.1.toNatClampNeg) (ps_it_quantity (ps_va_approved (q_50.2.2.2.2.2 (q_50.1.toNatClampNeg)) v_63) v_81))))) (fun _ => zu_1.trans (lg_uSu (zlt9 g_50) rfl pw_5)) dX8_approve_81 rfl (fun v_81 hf => ?_)
      refine z_iload_n (pc' := 83) C 1 dX8_approve_82 rfl rfl rfl ?_
      cases hf
      exact z_xr (z_widen (by decide) (by decide) (z_iret C rfl rfl dX8_approve_83))
set_option maxRecDepth 20000 in
theorem c_X8_pass {w : zV} {N a : Nat} {h : zH} (hN : a + 389 ≤ N) {σ : LgT} {p1 : Int32} {r : (String × LgT) ⊕ (Int32 × LgT)} (hf : f_X8_pass σ p1 = some r) : zMx w yX8_pass cX8_pass 3 (some .int) (zrx 8 146 3 18) N (lgH w a h σ) [.ref (zo w + a), .int p1] (zOm (fun e => (e.1, lgH w a h e.2)) (fun q => some (.int q.1)) (fun q => lgH w a h q.2) r) := by
  unfold f_X8_pass at hf
  refine zMx_of (by decide) rfl (fun X C htab => ?_)
  refine z_pick (lv' := [(0, .ref (zo w + a)), (1, .int p1)]) [0, 1] rfl ?_
  refine z_iload_n (pc' := 1) C 1 dX8_pass_0 rfl rfl rfl ?_
  refine z_iconst (pc' := 2) C dX8_pass_1 zk_iconst_1 rfl ?_
  refine z_sipush (pc' := 5) C dX8_pass_2 zk_sipush_365 rfl ?_
  refine z_cxS (pc' := 8) C htab hf (As := [.int p1, .int (1 : Int32), .int (365 : Int32)]) (fun hq => c_X8_checkRange hq) (fun q_5 => []) (fun _ => rfl) (fun _ => rfl) zy_X8_checkRange zw_450 zw_451 rfl rfl rfl rfl rfl dX8_pass_5 rfl (fun q_5 hf => ?_)
  refine z_aload_n (pc' := 9) C 0 dX8_pass_8 rfl rfl rfl ?_
  refine z_cxV (pc' := 12) C htab hf (As := []) (fun hq => c_X8_checkProject hN hq) (fun q_9 => []) (fun _ => rfl) (fun _ => rfl) zy_X8_checkProject zw_1135 zw_1137 zv_22 (ci := 8) rfl (lg_0 hN) rfl rfl rfl rfl rfl dX8_pass_9 rfl (fun q_9 hf => ?_)
  refine z_aload_n (pc' := 13) C 0 dX8_pass_12 rfl rfl rfl ?_
  obtain ⟨g_13, hf⟩ := zG1_s hf
  refine z_callV0 (pc' := 16) (st := []) C (As := []) (c_X8_project hN g_13) zy_X8_project zw_349 zw_351 zv_0 (ci := 8) rfl (lg_0 hN) ⟨rfl, rfl⟩ rfl rfl rfl rfl rfl dX8_pass_13 rfl ?_
  refine z_getf (pc' := 19) C zci_5 zw_235 (j := 0) rfl (lg_S hN (zlt9 g_13) 0 rfl) rfl rfl dX8_pass_16 rfl ?_
  refine z_iload_n (pc' := 20) C 1 dX8_pass_19 rfl rfl rfl ?_
  refine z_iadd (pc' := 21) C dX8_pass_20 rfl ?_
  refine z_istore_n (pc' := 22) C [(2, .int ((pj_pr_day (σ.2.2.2.2.2 (σ.1.toNatClampNeg))) + p1)), (0, .ref (zo w + a)), (1, .int p1)] dX8_pass_21 rfl rfl rfl rfl ?_
  refine z_iload_n (pc' := 23) C 0 dX8_pass_22 rfl rfl rfl ?_
  refine z_ldcw (pc' := 26) C zw_1147 dX8_pass_23 rfl ?_
  refine z_icmp_gt (pc' := 29) C 33 hf dX8_pass_26 rfl rfl (fun g_26 hf => ?_) (fun g_26 hf => ?_)
  · refine z_iconst (pc' := 34) C dX8_pass_33 zk_iconst_0 rfl ?_
    refine z_cxS (pc' := 37) C htab hf (As := [.int (0 : Int32)]) (fun hq => c_X8_checkState hq) (fun q_34 => []) (fun _ => rfl) (fun _ => rfl) zy_X8_checkState zw_1059 zw_1060 rfl rfl rfl rfl rfl dX8_pass_34 rfl (fun q_34 hf => ?_)
    cases hf
  · refine z_iconst (pc' := 30) C dX8_pass_29 zk_iconst_1 rfl ?_
    refine z_goto C 34 dX8_pass_30 rfl ?_
    refine z_cxS (pc' := 37) C htab hf (As := [.int (1 : Int32)]) (fun hq => c_X8_checkState hq) (fun q_34 => []) (fun _ => rfl) (fun _ => rfl) zy_X8_checkState zw_1059 zw_1060 rfl rfl rfl rfl rfl dX8_pass_34 rfl (fun q_34 hf => ?_)
    refine z_aload_n (pc' := 38) C 1 dX8_pass_37 rfl rfl rfl ?_
    refine z_cV (pc' := 41) C hf (As := []) (fun hq => c_X8_beginChange hN hq) (fun q_38 => (lgH w a h q_38)) (fun q_38 => [.ref (zo w + (a + (74 + 35 * (q_38.1.toNatClampNeg))))]) (fun _ => rfl) (fun _ => rfl) zy_X8_beginChange zw_662 zw_664 zv_16 (ci := 8) rfl (lg_0 hN) ⟨rfl, rfl⟩ rfl rfl rfl rfl rfl dX8_pass_38 rfl (fun q_38 hf => ?_)
    obtain ⟨g_38, hf⟩ := zG1_s hf
    refine z_iload_n (pc' := 42) C 0 dX8_pass_41 rfl rfl rfl ?_
    refine z_putf (pc' := 45) C zci_5 zw_235 (j := 0) rfl (lg_S hN (zlt9 g_38) 0 rfl) (fs' := [.int ((pj_pr_day (σ.2.2.2.2.2 (σ.1.toNatClampNeg))) + p1), .ref (zo w + ((a + (74 + 35 * (q_38.1.toNatClampNeg))) + 1)), .ref (zo w + ((a + (74 + 35 * (q_38.1.toNatClampNeg))) + 2)), .ref (zo w + (pj_pr_pricing (q_38.2.2.2.2.2 (q_38.1.toNatClampNeg)))), .ref (zo w + ((a + (74 + 35 * (q_38.1.toNatClampNeg))) + 13)), .ref (zo w + ((a + (74 + 35 * (q_38.1.toNatClampNeg))) + 19)), .ref (zo w + ((a + (74 + 35 * (q_38.1.toNatClampNeg))) + 23)), .ref (zo w + ((a + (74 + 35 * (q_38.1.toNatClampNeg))) + 29)), .ref (zo w + ((a + (74 + 35 * (q_38.1.toNatClampNeg))) + 34))]) rfl rfl rfl rfl rfl (h' := (lgH w a h (q_38.1, q_38.2.1, q_38.2.2.1, q_38.2.2.2.1, q_38.2.2.2.2.1, (va_up q_38.2.2.2.2.2 (q_38.1.toNatClampNeg) (ps_pr_day (q_38.2.2.2.2.2 (q_38.1.toNatClampNeg)) ((pj_pr_day (σ.2.2.2.2.2 (σ.1.toNatClampNeg))) + p1)))))) ((zu_1 (b := (a + (74 + 35 * (q_38.1.toNatClampNeg)))) (o := 0)).trans (lg_uS (zlt9 g_38) rfl pw_10)) dX8_pass_42 rfl ?_
    refine z_iload_n (pc' := 46) C 0 dX8_pass_45 rfl rfl rfl ?_
    cases hf
    exact z_xr (z_widen (by decide) (by decide) (z_iret C rfl rfl dX8_pass_46))
