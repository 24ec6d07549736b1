set_option maxRecDepth 20000 in
theorem c_X0_add {w : zV} {N : Nat} {h : zH} {a : Nat} {ce_count : Int32} {ce_contract : Nat → Int32} {ce_amount : Nat → Int64} {ce_open : Nat → Int64} {ce_issued : Nat → Int32} {ce_due : Nat → Int32} {p1 : Int32} {p2 : Int64} {p4 : Int32} {p5 : Int32} (h_a0 : zc N h (a + 0) (.inr (0, [.int ce_count, .ref (zo w + (a + 1)), .ref (zo w + (a + 2)), .ref (zo w + (a + 3)), .ref (zo w + (a + 4)), .ref (zo w + (a + 5))]))) (h_a1 : zc N h (a + 1) (.inl (w.2.2.1 0, 40, .inl ce_contract))) (h_a2 : zc N h (a + 2) (.inl (w.2.2.1 1, 40, .inr (.inl ce_amount)))) (h_a3 : zc N h (a + 3) (.inl (w.2.2.1 1, 40, .inr (.inl ce_open)))) (h_a4 : zc N h (a + 4) (.inl (w.2.2.1 0, 40, .inl ce_issued))) (h_a5 : zc N h (a + 5) (.inl (w.2.2.1 0, 40, .inl ce_due))) {r : Int32 × Int32 × (Nat → Int32) × (Nat → Int64) × (Nat → Int64) × (Nat → Int32) × (Nat → Int32)} (hf : f_X0_add ce_count ce_contract ce_amount ce_open ce_issued ce_due p1 p2 p4 p5 = some r) : zM w yX0_add cX0_add 6 (some .int) (zr 0 0) false N N h [.ref (zo w + a), .int p1, .long p2, .int p4, .int p5] (some (.int r.1)) (zu h a [(0, .inr (0, [.int r.2.1, .ref (zo w + (a + 1)), .ref (zo w + (a + 2)), .ref (zo w + (a + 3)), .ref (zo w + (a + 4)), .ref (zo w + (a + 5))])), (1, .inl (w.2.2.1 0, 40, .inl r.2.2.1)), (2, .inl (w.2.2.1 1, 40, .inr (.inl r.2.2.2.1))), (3, .inl (w.2.2.1 1, 40, .inr (.inl r.2.2.2.2.1))), (4, .inl (w.2.2.1 0, 40, .inl r.2.2.2.2.2.1)), (5, .inl (w.2.2.1 0, 40, .inl r.2.2.2.2.2.2))]) := by
  unfold f_X0_add at hf
  refine zM_of (by decide) rfl (fun X C _ => ?_)
  refine z_eq (h' := (zu h a [(0, .inr (0, [.int ce_count, .ref (zo w + (a + 1)), .ref (zo w + (a + 2)), .ref (zo w + (a + 3)), .ref (zo w + (a + 4)), .ref (zo w + (a + 5))])), (1, .inl (w.2.2.1 0, 40, .inl ce_contract)), (2, .inl (w.2.2.1 1, 40, .inr (.inl ce_amount))), (3, .inl (w.2.2.1 1, 40, .inr (.inl ce_open))), (4, .inl (w.2.2.1 0, 40, .inl ce_issued)), (5, .inl (w.2.2.1 0, 40, .inl ce_due))])) (zu_s h_a0 (zu_s h_a1 (zu_s h_a2 (zu_s h_a3 (zu_s h_a4 (zu_s h_a5 zu_0)))))).symm ?_
  have n_a0 := h_a0.1
  have n_a1 := h_a1.1
  have n_a2 := h_a2.1
  have n_a3 := h_a3.1
  have n_a4 := h_a4.1
  have n_a5 := h_a5.1
  refine z_pick (lv' := [(0, .ref (zo w + a)), (1, .int p1), (2, .long p2), (4, .int p4), (5, .int p5)]) [0, 1, 2, 3, 4] rfl ?_
  refine z_aload_n (pc' := 1) C 0 dX0_add_0 rfl rfl rfl ?_
  refine z_getf (pc' := 4) C zci_0 zw_176 (j := 0) rfl (zc_i (o := 0) n_a0 rfl) rfl rfl dX0_add_1 rfl ?_
  refine z_bipush (pc' := 6) C dX0_add_4 zk_bipush_40 rfl ?_
  refine z_icmp_lt (pc' := 9) C 11 hf dX0_add_6 rfl rfl (fun g_6 hf => ?_) (fun g_6 hf => ?_)
  · refine z_aload_n (pc' := 12) C 0 dX0_add_11 rfl rfl rfl ?_
    refine z_getf (pc' := 15) C zci_0 zw_179 (j := 1) rfl (zc_i (o := 0) n_a0 rfl) rfl rfl dX0_add_12 rfl ?_
    refine z_aload_n (pc' := 16) C 0 dX0_add_15 rfl rfl rfl ?_
    refine z_getf (pc' := 19) C zci_0 zw_176 (j := 0) rfl (zc_i (o := 0) n_a0 rfl) rfl rfl dX0_add_16 rfl ?_
    refine z_iload_n (pc' := 20) C 1 dX0_add_19 rfl rfl rfl ?_
    refine z_iast (pc' := 21) C hf (zc_i (o := 1) n_a1 rfl) (h' := fun v_20 => (zu h a [(0, .inr (0, [.int ce_count, .ref (zo w + (a + 1)), .ref (zo w + (a + 2)), .ref (zo w + (a + 3)), .ref (zo w + (a + 4)), .ref (zo w + (a + 5))])), (1, .inl (w.2.2.1 0, 40, .inl v_20)), (2, .inl (w.2.2.1 1, 40, .inr (.inl ce_amount))), (3, .inl (w.2.2.1 1, 40, .inr (.inl ce_open))), (4, .inl (w.2.2.1 0, 40, .inl ce_issued)), (5, .inl (w.2.2.1 0, 40, .inl ce_due))])) (fun _ => zu_put (o := 1) rfl) dX0_add_20 rfl (fun v_20 hf => ?_)
    refine z_aload_n (pc' := 22) C 0 dX0_add_21 rfl rfl rfl ?_
    refine z_getf (pc' := 25) C zci_0 zw_182 (j := 2) rfl (zc_i (o := 0) n_a0 rfl) rfl rfl dX0_add_22 rfl ?_
    refine z_aload_n (pc' := 26) C 0 dX0_add_25 rfl rfl rfl ?_
    refine z_getf (pc' := 29) C zci_0 zw_176 (j := 0) rfl (zc_i (o := 0) n_a0 rfl) rfl rfl dX0_add_26 rfl ?_
    refine z_lload_n (pc' := 30) C 2 dX0_add_29 rfl rfl rfl ?_
    refine z_last (pc' := 31) C hf (zc_i (o := 2) n_a2 rfl) (h' := fun v_30 => (zu h a [(0, .inr (0, [.int ce_count, .ref (zo w + (a + 1)), .ref (zo w + (a + 2)), .ref (zo w + (a + 3)), .ref (zo w + (a + 4)), .ref (zo w + (a + 5))])), (1, .inl (w.2.2.1 0, 40, .inl v_20)), (2, .inl (w.2.2.1 1, 40, .inr (.inl v_30))), (3, .inl (w.2.2.1 1, 40, .inr (.inl ce_open))), (4, .inl (w.2.2.1 0, 40, .inl ce_issued)), (5, .inl (w.2.2.1 0, 40, .inl ce_due))])) (fun _ => zu_put (o := 2) rfl) dX0_add_30 rfl (fun v_30 hf => ?_)
    refine z_aload_n (pc' := 32) C 0 dX0_add_31 rfl rfl rfl ?_
    refine z_getf (pc' := 35) C zci_0 zw_184 (j := 3) rfl (zc_i (o := 0) n_a0 rfl) rfl rfl dX0_add_32 rfl ?_
    refine z_aload_n (pc' := 36) C 0 dX0_add_35 rfl rfl rfl ?_
    refine z_getf (pc' := 39) C zci_0 zw_176 (j := 0) rfl (zc_i (o := 0) n_a0 rfl) rfl rfl dX0_add_36 rfl ?_
    refine z_lload_n (pc' := 40) C 2 dX0_add_39 rfl rfl rfl ?_
    refine z_last (pc' := 41) C hf (zc_i (o := 3) n_a3 rfl) (h' := fun v_40 => (zu h a [(0, .inr (0, [.int ce_count, .ref (zo w + (a + 1)), .ref (zo w + (a + 2)), .ref (zo w + (a + 3)), .ref (zo w + (a + 4)), .ref (zo w + (a + 5))])), (1, .inl (w.2.2.1 0, 40, .inl v_20)), (2, .inl (w.2.2.1 1, 40, .inr (.inl v_30))), (3, .inl (w.2.2.1 1, 40, .inr (.inl v_40))), (4, .inl (w.2.2.1 0, 40, .inl ce_issued)), (5, .inl (w.2.2.1 0, 40, .inl ce_due))])) (fun _ => zu_put (o := 3) rfl) dX0_add_40 rfl (fun v_40 hf => ?_)
    refine z_aload_n (pc' := 42) C 0 dX0_add_41 rfl rfl rfl ?_
    refine z_getf (pc' := 45) C zci_0 zw_187 (j := 4) rfl (zc_i (o := 0) n_a0 rfl) rfl rfl dX0_add_42 rfl ?_
    refine z_aload_n (pc' := 46) C 0 dX0_add_45 rfl rfl rfl ?_
    refine z_getf (pc' := 49) C zci_0 zw_176 (j := 0) rfl (zc_i (o := 0) n_a0 rfl) rfl rfl dX0_add_46 rfl ?_
    refine z_iload (pc' := 51) C 3 dX0_add_49 rfl rfl ?_
    refine z_iast (pc' := 52) C hf (zc_i (o := 4) n_a4 rfl) (h' := fun v_51 => (zu h a [(0, .inr (0, [.int ce_count, .ref (zo w + (a + 1)), .ref (zo w + (a + 2)), .ref (zo w + (a + 3)), .ref (zo w + (a + 4)), .ref (zo w + (a + 5))])), (1, .inl (w.2.2.1 0, 40, .inl v_20)), (2, .inl (w.2.2.1 1, 40, .inr (.inl v_30))), (3, .inl (w.2.2.1 1, 40, .inr (.inl v_40))), (4, .inl (w.2.2.1 0, 40, .inl v_51)), (5, .inl (w.2.2.1 0, 40, .inl ce_due))])) (fun _ => zu_put (o := 4) rfl) dX0_add_51 rfl (fun v_51 hf => ?_)
    refine z_aload_n (pc' := 53) C 0 dX0_add_52 rfl rfl rfl ?_
    refine z_getf (pc' := 56) C zci_0 zw_189 (j := 5) rfl (zc_i (o := 0) n_a0 rfl) rfl rfl dX0_add_53 rfl ?_
    refine z_aload_n (pc' := 57) C 0 dX0_add_56 rfl rfl rfl ?_
    refine z_getf (pc' := 60) C zci_0 zw_176 (j := 0) rfl (zc_i (o := 0) n_a0 rfl) rfl rfl dX0_add_57 rfl ?_
    refine z_iload (pc' := 62) C 4 dX0_add_60 rfl rfl ?_
    refine z_iast (pc' := 63) C hf (zc_i (o := 5) n_a5 rfl) (h' := fun v_62 => (zu h a [(0, .inr (0, [.int ce_count, .ref (zo w + (a + 1)), .ref (zo w + (a + 2)), .ref (zo w + (a + 3)), .ref (zo w + (a + 4)), .ref (zo w + (a + 5))])), (1, .inl (w.2.2.1 0, 40, .inl v_20)), (2, .inl (w.2.2.1 1, 40, .inr (.inl v_30))), (3, .inl (w.2.2.1 1, 40, .inr (.inl v_40))), (4, .inl (w.2.2.1 0, 40, .inl v_51)), (5, .inl (w.2.2.1 0, 40, .inl v_62))])) (fun _ => zu_put (o := 5) rfl) dX0_add_62 rfl (fun v_62 hf => ?_)
    refine z_aload_n (pc' := 64) C 0 dX0_add_63 rfl rfl rfl ?_
    refine z_dup (pc' := 65) C dX0_add_64 rfl rfl ?_
    refine z_getf (pc' := 68) C zci_0 zw_176 (j := 0) rfl (zc_i (o := 0) n_a0 rfl) rfl rfl dX0_add_65 rfl ?_
    refine z_iconst (pc' := 69) C dX0_add_68 zk_iconst_1 rfl ?_
    refine z_iadd (pc' := 70) C dX0_add_69 rfl ?_
    refine z_putf (pc' := 73) C zci_0 zw_176 (j := 0) rfl (zc_i (o := 0) n_a0 rfl) (fs' := [.int (ce_count + (1 : Int32)), .ref (zo w + (a + 1)), .ref (zo w + (a + 2)), .ref (zo w + (a + 3)), .ref (zo w + (a + 4)), .ref (zo w + (a + 5))]) rfl rfl rfl rfl rfl (zu_put (o := 0) (L' := [(0, .inr (0, [.int (ce_count + (1 : Int32)), .ref (zo w + (a + 1)), .ref (zo w + (a + 2)), .ref (zo w + (a + 3)), .ref (zo w + (a + 4)), .ref (zo w + (a + 5))])), (1, .inl (w.2.2.1 0, 40, .inl v_20)), (2, .inl (w.2.2.1 1, 40, .inr (.inl v_30))), (3, .inl (w.2.2.1 1, 40, .inr (.inl v_40))), (4, .inl (w.2.2.1 0, 40, .inl v_51)), (5, .inl (w.2.2.1 0, 40, .inl v_62))]) rfl) dX0_add_70 rfl ?_
    refine z_aload_n (pc' := 74) C 0 dX0_add_73 rfl rfl rfl ?_
    refine z_getf (pc' := 77) C zci_0 zw_176 (j := 0) rfl (zc_i (o := 0) n_a0 rfl) rfl rfl dX0_add_74 rfl ?_
    refine z_iconst (pc' := 78) C dX0_add_77 zk_iconst_1 rfl ?_
    refine z_isub (pc' := 79) C dX0_add_78 rfl ?_
    cases hf
    exact z_iret C rfl rfl dX0_add_79
  · refine z_iconst (pc' := 10) C dX0_add_9 zk_iconst_m1 rfl ?_
    cases hf
    exact z_iret C rfl rfl dX0_add_10
set_option maxRecDepth 20000 in
theorem c_X0_copyFrom {w : zV} {N : Nat} {h : zH} {a b1 : Nat} {ce_count : Int32} {ce_contract : Nat → Int32} {ce_amount : Nat → Int64} {ce_open : Nat → Int64} {ce_issued : Nat → Int32} {ce_due : Nat → Int32} {ce_count_b1 : Int32} {ce_contract_b1 : Nat → Int32} {ce_amount_b1 : Nat → Int64} {ce_open_b1 : Nat → Int64} {ce_issued_b1 : Nat → Int32} {ce_due_b1 : Nat → Int32} (h_a0 : zc N h (a + 0) (.inr (0, [.int ce_count, .ref (zo w + (a + 1)), .ref (zo w + (a + 2)), .ref (zo w + (a + 3)), .ref (zo w + (a + 4)), .ref (zo w + (a + 5))]))) (h_a1 : zc N h (a + 1) (.inl (w.2.2.1 0, 40, .inl ce_contract))) (h_a2 : zc N h (a + 2) (.inl (w.2.2.1 1, 40, .inr (.inl ce_amount)))) (h_a3 : zc N h (a + 3) (.inl (w.2.2.1 1, 40, .inr (.inl ce_open)))) (h_a4 : zc N h (a + 4) (.inl (w.2.2.1 0, 40, .inl ce_issued))) (h_a5 : zc N h (a + 5) (.inl (w.2.2.1 0, 40, .inl ce_due))) (h_b10 : zc N h (b1 + 0) (.inr (0, [.int ce_count_b1, .ref (zo w + (b1 + 1)), .ref (zo w + (b1 + 2)), .ref (zo w + (b1 + 3)), .ref (zo w + (b1 + 4)), .ref (zo w + (b1 + 5))]))) (h_b11 : zc N h (b1 + 1) (.inl (w.2.2.1 0, 40, .inl ce_contract_b1))) (h_b12 : zc N h (b1 + 2) (.inl (w.2.2.1 1, 40, .inr (.inl ce_amount_b1)))) (h_b13 : zc N h (b1 + 3) (.inl (w.2.2.1 1, 40, .inr (.inl ce_open_b1)))) (h_b14 : zc N h (b1 + 4) (.inl (w.2.2.1 0, 40, .inl ce_issued_b1))) (h_b15 : zc N h (b1 + 5) (.inl (w.2.2.1 0, 40, .inl ce_due_b1))) (far_b1 : b1 + 6 ≤ a ∨ a + 6 ≤ b1) {r : Int32 × (Nat → Int32) × (Nat → Int64) × (Nat → Int64) × (Nat → Int32) × (Nat → Int32)} (hf : f_X0_copyFrom ce_count ce_contract ce_amount ce_open ce_issued ce_due ce_count_b1 ce_contract_b1 ce_amount_b1 ce_open_b1 ce_issued_b1 ce_due_b1 = some r) : zM w yX0_copyFrom cX0_copyFrom 2 none (zr 1 40) false N N h [.ref (zo w + a), .ref (zo w + b1)] (none) (zu h a [(0, .inr (0, [.int r.1, .ref (zo w + (a + 1)), .ref (zo w + (a + 2)), .ref (zo w + (a + 3)), .ref (zo w + (a + 4)), .ref (zo w + (a + 5))])), (1, .inl (w.2.2.1 0, 40, .inl r.2.1)), (2, .inl (w.2.2.1 1, 40, .inr (.inl r.2.2.1))), (3, .inl (w.2.2.1 1, 40, .inr (.inl r.2.2.2.1))), (4, .inl (w.2.2.1 0, 40, .inl r.2.2.2.2.1)), (5, .inl (w.2.2.1 0, 40, .inl r.2.2.2.2.2))]) := by
  unfold f_X0_copyFrom at hf
  refine zM_of (by decide) rfl (fun X C _ => ?_)
  refine z_eq (h' := (zu h a [(0, .inr (0, [.int ce_count, .ref (zo w + (a + 1)), .ref (zo w + (a + 2)), .ref (zo w + (a + 3)), .ref (zo w + (a + 4)), .ref (zo w + (a + 5))])), (1, .inl (w.2.2.1 0, 40, .inl ce_contract)), (2, .inl (w.2.2.1 1, 40, .inr (.inl ce_amount))), (3, .inl (w.2.2.1 1, 40, .inr (.inl ce_open))), (4, .inl (w.2.2.1 0, 40, .inl ce_issued)), (5, .inl (w.2.2.1 0, 40, .inl ce_due))])) (zu_s h_a0 (zu_s h_a1 (zu_s h_a2 (zu_s h_a3 (zu_s h_a4 (zu_s h_a5 zu_0)))))).symm ?_
  have n_a0 := h_a0.1
  have n_a1 := h_a1.1
  have n_a2 := h_a2.1
  have n_a3 := h_a3.1
  have n_a4 := h_a4.1
  have n_a5 := h_a5.1
  refine z_pick (lv' := [(0, .ref (zo w + a)), (1, .ref (zo w + b1))]) [0, 1] rfl ?_
  refine z_aload_n (pc' := 1) C 0 dX0_copyFrom_0 rfl rfl rfl ?_
  refine z_aload_n (pc' := 2) C 1 dX0_copyFrom_1 rfl rfl rfl ?_
  refine z_getf (pc' := 5) C zci_0 zw_176 (j := 0) rfl (zc_f (m := 6) h_b10 (by omega) rfl) rfl rfl dX0_copyFrom_2 rfl ?_
  refine z_putf (pc' := 8) C zci_0 zw_176 (j := 0) rfl (zc_i (o := 0) n_a0 rfl) (fs' := [.int ce_count_b1, .ref (zo w + (a + 1)), .ref (zo w + (a + 2)), .ref (zo w + (a + 3)), .ref (zo w + (a + 4)), .ref (zo w + (a + 5))]) rfl rfl rfl rfl rfl (zu_put (o := 0) (L' := [(0, .inr (0, [.int ce_count_b1, .ref (zo w + (a + 1)), .ref (zo w + (a + 2)), .ref (zo w + (a + 3)), .ref (zo w + (a + 4)), .ref (zo w + (a + 5))])), (1, .inl (w.2.2.1 0, 40, .inl ce_contract)), (2, .inl (w.2.2.1 1, 40, .inr (.inl ce_amount))), (3, .inl (w.2.2.1 1, 40, .inr (.inl ce_open))), (4, .inl (w.2.2.1 0, 40, .inl ce_issued)), (5, .inl (w.2.2.1 0, 40, .inl ce_due))]) rfl) dX0_copyFrom_5 rfl ?_
  refine z_aload_n (pc' := 9) C 1 dX0_copyFrom_8 rfl rfl rfl ?_
  refine z_getf (pc' := 12) C zci_0 zw_179 (j := 1) rfl (zc_f (m := 6) h_b10 (by omega) rfl) rfl rfl dX0_copyFrom_9 rfl ?_
  refine z_iconst (pc' := 13) C dX0_copyFrom_12 zk_iconst_0 rfl ?_
  refine z_aload_n (pc' := 14) C 0 dX0_copyFrom_13 rfl rfl rfl ?_
  refine z_getf (pc' := 17) C zci_0 zw_179 (j := 1) rfl (zc_i (o := 0) n_a0 rfl) rfl rfl dX0_copyFrom_14 rfl ?_
  refine z_iconst (pc' := 18) C dX0_copyFrom_17 zk_iconst_0 rfl ?_
  refine z_aload_n (pc' := 19) C 0 dX0_copyFrom_18 rfl rfl rfl ?_
  refine z_getf (pc' := 22) C zci_0 zw_176 (j := 0) rfl (zc_i (o := 0) n_a0 rfl) rfl rfl dX0_copyFrom_19 rfl ?_
  refine z_cpi (pc' := 25) C hf (zc_f (m := 6) h_b11 (by omega) rfl) (zc_i (o := 1) n_a1 rfl) (h' := fun v_22 => (zu h a [(0, .inr (0, [.int ce_count_b1, .ref (zo w + (a + 1)), .ref (zo w + (a + 2)), .ref (zo w + (a + 3)), .ref (zo w + (a + 4)), .ref (zo w + (a + 5))])), (1, .inl (w.2.2.1 0, 40, .inl v_22)), (2, .inl (w.2.2.1 1, 40, .inr (.inl ce_amount))), (3, .inl (w.2.2.1 1, 40, .inr (.inl ce_open))), (4, .inl (w.2.2.1 0, 40, .inl ce_issued)), (5, .inl (w.2.2.1 0, 40, .inl ce_due))])) (fun _ => zu_put (o := 1) rfl) zw_693 rfl rfl dX0_copyFrom_22 rfl (fun v_22 hf => ?_)
  refine z_aload_n (pc' := 26) C 1 dX0_copyFrom_25 rfl rfl rfl ?_
  refine z_getf (pc' := 29) C zci_0 zw_182 (j := 2) rfl (zc_f (m := 6) h_b10 (by omega) rfl) rfl rfl dX0_copyFrom_26 rfl ?_
  refine z_iconst (pc' := 30) C dX0_copyFrom_29 zk_iconst_0 rfl ?_
  refine z_aload_n (pc' := 31) C 0 dX0_copyFrom_30 rfl rfl rfl ?_
  refine z_getf (pc' := 34) C zci_0 zw_182 (j := 2) rfl (zc_i (o := 0) n_a0 rfl) rfl rfl dX0_copyFrom_31 rfl ?_
  refine z_iconst (pc' := 35) C dX0_copyFrom_34 zk_iconst_0 rfl ?_
  refine z_aload_n (pc' := 36) C 0 dX0_copyFrom_35 rfl rfl rfl ?_
  refine z_getf (pc' := 39) C zci_0 zw_176 (j := 0) rfl (zc_i (o := 0) n_a0 rfl) rfl rfl dX0_copyFrom_36 rfl ?_
  refine z_cpl (pc' := 42) C hf (zc_f (m := 6) h_b12 (by omega) rfl) (zc_i (o := 2) n_a2 rfl) (h' := fun v_39 => (zu h a [(0, .inr (0, [.int ce_count_b1, .ref (zo w + (a + 1)), .ref (zo w + (a + 2)), .ref (zo w + (a + 3)), .ref (zo w + (a + 4)), .ref (zo w + (a + 5))])), (1, .inl (w.2.2.1 0, 40, .inl v_22)), (2, .inl (w.2.2.1 1, 40, .inr (.inl v_39))), (3, .inl (w.2.2.1 1, 40, .inr (.inl ce_open))), (4, .inl (w.2.2.1 0, 40, .inl ce_issued)), (5, .inl (w.2.2.1 0, 40, .inl ce_due))])) (fun _ => zu_put (o := 2) rfl) zw_693 rfl rfl dX0_copyFrom_39 rfl (fun v_39 hf => ?_)
  refine z_aload_n (pc' := 43) C 1 dX0_copyFrom_42 rfl rfl rfl ?_
  refine z_getf (pc' := 46) C zci_0 zw_184 (j := 3) rfl (zc_f (m := 6) h_b10 (by omega) rfl) rfl rfl dX0_copyFrom_43 rfl ?_
  refine z_iconst (pc' := 47) C dX0_copyFrom_46 zk_iconst_0 rfl ?_
  refine z_aload_n (pc' := 48) C 0 dX0_copyFrom_47 rfl rfl rfl ?_
  refine z_getf (pc' := 51) C zci_0 zw_184 (j := 3) rfl (zc_i (o := 0) n_a0 rfl) rfl rfl dX0_copyFrom_48 rfl ?_
  refine z_iconst (pc' := 52) C dX0_copyFrom_51 zk_iconst_0 rfl ?_
  refine z_aload_n (pc' := 53) C 0 dX0_copyFrom_52 rfl rfl rfl ?_
  refine z_getf (pc' := 56) C zci_0 zw_176 (j := 0) rfl (zc_i (o := 0) n_a0 rfl) rfl rfl dX0_copyFrom_53 rfl ?_
  refine z_cpl (pc' := 59) C hf (zc_f (m := 6) h_b13 (by omega) rfl) (zc_i (o := 3) n_a3 rfl) (h' := fun v_56 => (zu h a [(0, .inr (0, [.int ce_count_b1, .ref (zo w + (a + 1)), .ref (zo w + (a + 2)), .ref (zo w + (a + 3)), .ref (zo w + (a + 4)), .ref (zo w + (a + 5))])), (1, .inl (w.2.2.1 0, 40, .inl v_22)), (2, .inl (w.2.2.1 1, 40, .inr (.inl v_39))), (3, .inl (w.2.2.1 1, 40, .inr (.inl v_56))), (4, .inl (w.2.2.1 0, 40, .inl ce_issued)), (5, .inl (w.2.2.1 0, 40, .inl ce_due))])) (fun _ => zu_put (o := 3) rfl) zw_693 rfl rfl dX0_copyFrom_56 rfl (fun v_56 hf => ?_)
  refine z_aload_n (pc' := 60) C 1 dX0_copyFrom_59 rfl rfl rfl ?_
  refine z_getf (pc' := 63) C zci_0 zw_187 (j := 4) rfl (zc_f (m := 6) h_b10 (by omega) rfl) rfl rfl dX0_copyFrom_60 rfl ?_
  refine z_iconst (pc' := 64) C dX0_copyFrom_63 zk_iconst_0 rfl ?_
  refine z_aload_n (pc' := 65) C 0 dX0_copyFrom_64 rfl rfl rfl ?_
  refine z_getf (pc' := 68) C zci_0 zw_187 (j := 4) rfl (zc_i (o := 0) n_a0 rfl) rfl rfl dX0_copyFrom_65 rfl ?_
  refine z_iconst (pc' := 69) C dX0_copyFrom_68 zk_iconst_0 rfl ?_
  refine z_aload_n (pc' := 70) C 0 dX0_copyFrom_69 rfl rfl rfl ?_
  refine z_getf (pc' := 73) C zci_0 zw_176 (j := 0) rfl (zc_i (o := 0) n_a0 rfl) rfl rfl dX0_copyFrom_70 rfl ?_
  refine z_cpi (pc' := 76) C hf (zc_f (m := 6) h_b14 (by omega) rfl) (zc_i (o := 4) n_a4 rfl) (h' := fun v_73 => (zu h a [(0, .inr (0, [.int ce_count_b1, .ref (zo w + (a + 1)), .ref (zo w + (a + 2)), .ref (zo w + (a + 3)), .ref (zo w + (a + 4)), .ref (zo w + (a + 5))])), (1, .inl (w.2.2.1 0, 40, .inl v_22)), (2, .inl (w.2.2.1 1, 40, .inr (.inl v_39))), (3, .inl (w.2.2.1 1, 40, .inr (.inl v_56))), (4, .inl (w.2.2.1 0, 40, .inl v_73)), (5, .inl (w.2.2.1 0, 40, .inl ce_due))])) (fun _ => zu_put (o := 4) rfl) zw_693 rfl rfl dX0_copyFrom_73 rfl (fun v_73 hf => ?_)
  refine z_aload_n (pc' := 77) C 1 dX0_copyFrom_76 rfl rfl rfl ?_
  refine z_getf (pc' := 80) C zci_0 zw_189 (j := 5) rfl (zc_f (m := 6) h_b10 (by omega) rfl) rfl rfl dX0_copyFrom_77 rfl ?_
  refine z_iconst (pc' := 81) C dX0_copyFrom_80 zk_iconst_0 rfl ?_
  refine z_aload_n (pc' := 82) C 0 dX0_copyFrom_81 rfl rfl rfl ?_
  refine z_getf (pc' := 85) C zci_0 zw_189 (j := 5) rfl (zc_i (o := 0) n_a0 rfl) rfl rfl dX0_copyFrom_82 rfl ?_
  refine z_iconst (pc' := 86) C dX0_copyFrom_85 zk_iconst_0 rfl ?_
  refine z_aload_n (pc' := 87) C 0 dX0_copyFrom_86 rfl rfl rfl ?_
  refine z_getf (pc' := 90) C zci_0 zw_176 (j := 0) rfl (zc_i (o := 0) n_a0 rfl) rfl rfl dX0_copyFrom_87 rfl ?_
  refine z_cpi (pc' := 93) C hf (zc_f (m := 6) h_b15 (by omega) rfl) (zc_i (o := 5) n_a5 rfl) (h' := fun v_90 => (zu h a [(0, .inr (0, [.int ce_count_b1, .ref (zo w + (a + 1)), .ref (zo w + (a + 2)), .ref (zo w + (a + 3)), .ref (zo w + (a + 4)), .ref (zo w + (a + 5))])), (1, .inl (w.2.2.1 0, 40, .inl v_22)), (2, .inl (w.2.2.1 1, 40, .inr (.inl v_39))), (3, .inl (w.2.2.1 1, 40, .inr (.inl v_56))), (4, .inl (w.2.2.1 0, 40, .inl v_73)), (5, .inl (w.2.2.1 0, 40, .inl v_90))])) (fun _ => zu_put (o := 5) rfl) zw_693 rfl rfl dX0_copyFrom_90 rfl (fun v_90 hf => ?_)
  cases hf
  exact z_vret C rfl rfl dX0_copyFrom_93
set_option maxRecDepth 20000 in
theorem w_X0_certifiedOf_5 {X : zC} {w : zV} {N : Nat} {h : zH} {a : Nat} {ce_count : Int32} {ce_contract : Nat → Int32} {ce_amount : Nat → Int64} (C : zK X w RX0 cX0_certifiedOf 5 (some .long) (zr 0 0)) (h_a0 : zc N h (a + 0) (.inr (0, [.int ce_count, .ref (zo w + (a + 1)), .ref (zo w + (a + 2)), .ref (zo w + (a + 3)), .ref (zo w + (a + 4)), .ref (zo w + (a + 5))]))) (h_a1 : zc N h (a + 1) (.inl (w.2.2.1 0, 40, .inl ce_contract))) (h_a2 : zc N h (a + 2) (.inl (w.2.2.1 1, 40, .inr (.inl ce_amount)))) {r : Int64} (n : Nat) : ∀ {x1 : Int32} {x2 : Int64} {x4 : Int32}, f_X0_certifiedOf_5  n ce_count ce_contract ce_amount x1 x2 x4 = some r → zZ X w (zQ X w (zr 0 0) (some (.long r)) false N h) 0 0 false N h 5 [(0, .ref (zo w + a)), (1, .int x1), (2, .long x2), (4, .int x4)] [] := by
  induction n with
  | zero =>
    intro x1 x2 x4 hf
    have hf : (none : Option (Int64)) = some r := hf
    cases hf
  | succ z ih =>
    intro x1 x2 x4 hf
    rw [f_X0_certifiedOf_5] at hf
    refine z_iload (pc' := 7) C 3 dX0_certifiedOf_5 rfl rfl ?_
    refine z_aload_n (pc' := 8) C 0 dX0_certifiedOf_7 rfl rfl rfl ?_
    refine z_getf (pc' := 11) C zci_0 zw_176 (j := 0) rfl h_a0 rfl rfl dX0_certifiedOf_8 rfl ?_
    refine z_icmp_ge (pc' := 14) C 41 hf dX0_certifiedOf_11 rfl rfl (fun g_11 hf => ?_) (fun g_11 hf => ?_)
    · refine z_lload_n (pc' := 42) C 2 dX0_certifiedOf_41 rfl rfl rfl ?_
      cases hf
      exact z_lret C rfl rfl dX0_certifiedOf_42
    · refine z_aload_n (pc' := 15) C 0 dX0_certifiedOf_14 rfl rfl rfl ?_
      refine z_getf (pc' := 18) C zci_0 zw_179 (j := 1) rfl h_a0 rfl rfl dX0_certifiedOf_15 rfl ?_
      refine z_iload (pc' := 20) C 3 dX0_certifiedOf_18 rfl rfl ?_
      refine z_iald (pc' := 21) C hf h_a1 dX0_certifiedOf_20 rfl (fun v_20 hf => ?_)
      refine z_iload_n (pc' := 22) C 1 dX0_certifiedOf_21 rfl rfl rfl ?_
      refine z_icmp_ne (pc' := 25) C 35 hf dX0_certifiedOf_22 rfl rfl (fun g_22 hf => ?_) (fun g_22 hf => ?_)
      · refine z_iinc (pc' := 38) C 3 [(4, .int (x4 + (1 : Int32))), (0, .ref (zo w + a)), (1, .int x1), (2, .long x2)] dX0_certifiedOf_35 rfl zk_iconst_1 rfl rfl rfl ?_
        refine z_goto C 5 dX0_certifiedOf_38 rfl ?_
        refine z_pick (lv' := [(0, .ref (zo w + a)), (1, .int x1), (2, .long x2), (4, .int (x4 + (1 : Int32)))]) [1, 2, 3, 0] rfl ?_
        exact ih hf
      · refine z_lload_n (pc' := 26) C 2 dX0_certifiedOf_25 rfl rfl rfl ?_
        refine z_aload_n (pc' := 27) C 0 dX0_certifiedOf_26 rfl rfl rfl ?_
        refine z_getf (pc' := 30) C zci_0 zw_182 (j := 2) rfl h_a0 rfl rfl dX0_certifiedOf_27 rfl ?_
        refine z_iload (pc' := 32) C 3 dX0_certifiedOf_30 rfl rfl ?_
        refine z_lald (pc' := 33) C hf h_a2 dX0_certifiedOf_32 rfl (fun v_32 hf => ?_)
        refine z_ladd (pc' := 34) C dX0_certifiedOf_33 rfl ?_
        refine z_lstore_n (pc' := 35) C [(2, .long (x2 + v_32)), (0, .ref (zo w + a)), (1, .int x1), (4, .int x4)] dX0_certifiedOf_34 rfl rfl rfl rfl ?_
        refine z_iinc (pc' := 38) C 3 [(4, .int (x4 + (1 : Int32))), (2, .long (x2 + v_32)), (0, .ref (zo w + a)), (1, .int x1)] dX0_certifiedOf_35 rfl zk_iconst_1 rfl rfl rfl ?_
        refine z_goto C 5 dX0_certifiedOf_38 rfl ?_
        refine z_pick (lv' := [(0, .ref (zo w + a)), (1, .int x1), (2, .long (x2 + v_32)), (4, .int (x4 + (1 : Int32)))]) [2, 3, 1, 0] rfl ?_
        exact ih hf
set_option maxRecDepth 20000 in
theorem c_X0_certifiedOf {w : zV} {N : Nat} {h : zH} {a : Nat} {ce_count : Int32} {ce_contract : Nat → Int32} {ce_amount : Nat → Int64} {p1 : Int32} (h_a0 : zc N h (a + 0) (.inr (0, [.int ce_count, .ref (zo w + (a + 1)), .ref (zo w + (a + 2)), .ref (zo w + (a + 3)), .ref (zo w + (a + 4)), .ref (zo w + (a + 5))]))) (h_a1 : zc N h (a + 1) (.inl (w.2.2.1 0, 40, .inl ce_contract))) (h_a2 : zc N h (a + 2) (.inl (w.2.2.1 1, 40, .inr (.inl ce_amount)))) {r : Int64} (hf : f_X0_certifiedOf ce_count ce_contract ce_amount p1 = some r) : zM w yX0_certifiedOf cX0_certifiedOf 5 (some .long) (zr 0 0) false N N h [.ref (zo w + a), .int p1] (some (.long r)) h := by
  unfold f_X0_certifiedOf at hf
  refine zM_of (by decide) rfl (fun X C _ => ?_)
  refine z_pick (lv' := [(0, .ref (zo w + a)), (1, .int p1)]) [0, 1] rfl ?_
  refine z_lconst (pc' := 1) C dX0_certifiedOf_0 zl_0 rfl ?_
  refine z_lstore_n (pc' := 2) C [(2, .long (0 : Int64)), (0, .ref (zo w + a)), (1, .int p1)] dX0_certifiedOf_1 rfl rfl rfl rfl ?_
  refine z_iconst (pc' := 3) C dX0_certifiedOf_2 zk_iconst_0 rfl ?_
  refine z_istore (pc' := 5) C [(4, .int (0 : Int32)), (2, .long (0 : Int64)), (0, .ref (zo w + a)), (1, .int p1)] dX0_certifiedOf_3 rfl rfl rfl ?_
  refine z_pick (lv' := [(0, .ref (zo w + a)), (1, .int p1), (2, .long (0 : Int64)), (4, .int (0 : Int32))]) [2, 3, 1, 0] rfl ?_
  exact w_X0_certifiedOf_5 C h_a0 h_a1 h_a2  FU hf
set_option maxRecDepth 20000 in
theorem w_X0_unpaidOf_5 {X : zC} {w : zV} {N : Nat} {h : zH} {a : Nat} {ce_count : Int32} {ce_contract : Nat → Int32} {ce_open : Nat → Int64} (C : zK X w RX0 cX0_unpaidOf 5 (some .long) (zr 0 0)) (h_a0 : zc N h (a + 0) (.inr (0, [.int ce_count, .ref (zo w + (a + 1)), .ref (zo w + (a + 2)), .ref (zo w + (a + 3)), .ref (zo w + (a + 4)), .ref (zo w + (a + 5))]))) (h_a1 : zc N h (a + 1) (.inl (w.2.2.1 0, 40, .inl ce_contract))) (h_a3 : zc N h (a + 3) (.inl (w.2.2.1 1, 40, .inr (.inl ce_open)))) {r : Int64} (n : Nat) : ∀ {x1 : Int32} {x2 : Int64} {x4 : Int32}, f_X0_unpaidOf_5  n ce_count ce_contract ce_open x1 x2 x4 = some r → zZ X w (zQ X w (zr 0 0) (some (.long r)) false N h) 0 0 false N h 5 [(0, .ref (zo w + a)), (1, .int x1), (2, .long x2), (4, .int x4)] [] := by
  induction n with
  | zero =>
    intro x1 x2 x4 hf
    have hf : (none : Option (Int64)) = some r := hf
    cases hf
  | succ z ih =>
    intro x1 x2 x4 hf
    rw [f_X0_unpaidOf_5] at hf
    refine z_iload (pc' := 7) C 3 dX0_unpaidOf_5 rfl rfl ?_
    refine z_aload_n (pc' := 8) C 0 dX0_unpaidOf_7 rfl rfl rfl ?_
    refine z_getf (pc' := 11) C zci_0 zw_176 (j := 0) rfl h_a0 rfl rfl dX0_unpaidOf_8 rfl ?_
    refine z_icmp_ge (pc' := 14) C 41 hf dX0_unpaidOf_11 rfl rfl (fun g_11 hf => ?_) (fun g_11 hf => ?_)
    · refine z_lload_n (pc' := 42) C 2 dX0_unpaidOf_41 rfl rfl rfl ?_
      cases hf
      exact z_lret C rfl rfl dX0_unpaidOf_42
    · refine z_aload_n (pc' := 15) C 0 dX0_unpaidOf_14 rfl rfl rfl ?_
      refine z_getf (pc' := 18) C zci_0 zw_179 (j := 1) rfl h_a0 rfl rfl dX0_unpaidOf_15 rfl ?_
      refine z_iload (pc' := 20) C 3 dX0_unpaidOf_18 rfl rfl ?_
      refine z_iald (pc' := 21) C hf h_a1 dX0_unpaidOf_20 rfl (fun v_20 hf => ?_)
      refine z_iload_n (pc' := 22) C 1 dX0_unpaidOf_21 rfl rfl rfl ?_
      refine z_icmp_ne (pc' := 25) C 35 hf dX0_unpaidOf_22 rfl rfl (fun g_22 hf => ?_) (fun g_22 hf => ?_)
      · refine z_iinc (pc' := 38) C 3 [(4, .int (x4 + (1 : Int32))), (0, .ref (zo w + a)), (1, .int x1), (2, .long x2)] dX0_unpaidOf_35 rfl zk_iconst_1 rfl rfl rfl ?_
        refine z_goto C 5 dX0_unpaidOf_38 rfl ?_
        refine z_pick (lv' := [(0, .ref (zo w + a)), (1, .int x1), (2, .long x2), (4, .int (x4 + (1 : Int32)))]) [1, 2, 3, 0] rfl ?_
        exact ih hf
      · refine z_lload_n (pc' := 26) C 2 dX0_unpaidOf_25 rfl rfl rfl ?_
        refine z_aload_n (pc' := 27) C 0 dX0_unpaidOf_26 rfl rfl rfl ?_
        refine z_getf (pc' := 30) C zci_0 zw_184 (j := 3) rfl h_a0 rfl rfl dX0_unpaidOf_27 rfl ?_
        refine z_iload (pc' := 32) C 3 dX0_unpaidOf_30 rfl rfl ?_
        refine z_lald (pc' := 33) C hf h_a3 dX0_unpaidOf_32 rfl (fun v_32 hf => ?_)
        refine z_ladd (pc' := 34) C dX0_unpaidOf_33 rfl ?_
        refine z_lstore_n (pc' := 35) C [(2, .long (x2 + v_32)), (0, .ref (zo w + a)), (1, .int x1), (4, .int x4)] dX0_unpaidOf_34 rfl rfl rfl rfl ?_
        refine z_iinc (pc' := 38) C 3 [(4, .int (x4 + (1 : Int32))), (2, .long (x2 + v_32)), (0, .ref (zo w + a)), (1, .int x1)] dX0_unpaidOf_35 rfl zk_iconst_1 rfl rfl rfl ?_
        refine z_goto C 5 dX0_unpaidOf_38 rfl ?_
        refine z_pick (lv' := [(0, .ref (zo w + a)), (1, .int x1), (2, .long (x2 + v_32)), (4, .int (x4 + (1 : Int32)))]) [2, 3, 1, 0] rfl ?_
        exact ih hf
set_option maxRecDepth 20000 in
theorem c_X0_unpaidOf {w : zV} {N : Nat} {h : zH} {a : Nat} {ce_count : Int32} {ce_contract : Nat → Int32} {ce_open : Nat → Int64} {p1 : Int32} (h_a0 : zc N h (a + 0) (.inr (0, [.int ce_count, .ref (zo w + (a + 1)), .ref (zo w + (a + 2)), .ref (zo w + (a + 3)), .ref (zo w + (a + 4)), .ref (zo w + (a + 5))]))) (h_a1 : zc N h (a + 1) (.inl (w.2.2.1 0, 40, .inl ce_contract))) (h_a3 : zc N h (a + 3) (.inl (w.2.2.1 1, 40, .inr (.inl ce_open)))) {r : Int64} (hf : f_X0_unpaidOf ce_count ce_contract ce_open p1 = some r) : zM w yX0_unpaidOf cX0_unpaidOf 5 (some .long) (zr 0 0) false N N h [.ref (zo w + a), .int p1] (some (.long r)) h := by
  unfold f_X0_unpaidOf at hf
  refine zM_of (by decide) rfl (fun X C _ => ?_)
  refine z_pick (lv' := [(0, .ref (zo w + a)), (1, .int p1)]) [0, 1] rfl ?_
  refine z_lconst (pc' := 1) C dX0_unpaidOf_0 zl_0 rfl ?_
  refine z_lstore_n (pc' := 2) C [(2, .long (0 : Int64)), (0, .ref (zo w + a)), (1, .int p1)] dX0_unpaidOf_1 rfl rfl rfl rfl ?_
  refine z_iconst (pc' := 3) C dX0_unpaidOf_2 zk_iconst_0 rfl ?_
  refine z_istore (pc' := 5) C [(4, .int (0 : Int32)), (2, .long (0 : Int64)), (0, .ref (zo w + a)), (1, .int p1)] dX0_unpaidOf_3 rfl rfl rfl ?_
  refine z_pick (lv' := [(0, .ref (zo w + a)), (1, .int p1), (2, .long (0 : Int64)), (4, .int (0 : Int32))]) [2, 3, 1, 0] rfl ?_
  exact w_X0_unpaidOf_5 C h_a0 h_a1 h_a3  FU hf
set_option maxRecDepth 20000 in
theorem w_X0_overdueOf_5 {X : zC} {w : zV} {N : Nat} {h : zH} {a : Nat} {ce_count : Int32} {ce_contract : Nat → Int32} {ce_open : Nat → Int64} {ce_due : Nat → Int32} (C : zK X w RX0 cX0_overdueOf 6 (some .long) (zr 0 0)) (h_a0 : zc N h (a + 0) (.inr (0, [.int ce_count, .ref (zo w + (a + 1)), .ref (zo w + (a + 2)), .ref (zo w + (a + 3)), .ref (zo w + (a + 4)), .ref (zo w + (a + 5))]))) (h_a1 : zc N h (a + 1) (.inl (w.2.2.1 0, 40, .inl ce_contract))) (h_a3 : zc N h (a + 3) (.inl (w.2.2.1 1, 40, .inr (.inl ce_open)))) (h_a5 : zc N h (a + 5) (.inl (w.2.2.1 0, 40, .inl ce_due))) {r : Int64} (n : Nat) : ∀ {x1 : Int32} {x2 : Int32} {x3 : Int64} {x5 : Int32}, f_X0_overdueOf_5  n ce_count ce_contract ce_open ce_due x1 x2 x3 x5 = some r → zZ X w (zQ X w (zr 0 0) (some (.long r)) false N h) 0 0 false N h 5 [(0, .ref (zo w + a)), (1, .int x1), (2, .int x2), (3, .long x3), (5, .int x5)] [] := by
  induction n with
  | zero =>
    intro x1 x2 x3 x5 hf
    have hf : (none : Option (Int64)) = some r := hf
    cases hf
  | succ z ih =>
    intro x1 x2 x3 x5 hf
    rw [f_X0_overdueOf_5] at hf
    refine z_iload (pc' := 7) C 4 dX0_overdueOf_5 rfl rfl ?_
    refine z_aload_n (pc' := 8) C 0 dX0_overdueOf_7 rfl rfl rfl ?_
    refine z_getf (pc' := 11) C zci_0 zw_176 (j := 0) rfl h_a0 rfl rfl dX0_overdueOf_8 rfl ?_
    refine z_icmp_ge (pc' := 14) C 52 hf dX0_overdueOf_11 rfl rfl (fun g_11 hf => ?_) (fun g_11 hf => ?_)
    · refine z_lload_n (pc' := 53) C 3 dX0_overdueOf_52 rfl rfl rfl ?_
      cases hf
      exact z_lret C rfl rfl dX0_overdueOf_53
    · refine z_aload_n (pc' := 15) C 0 dX0_overdueOf_14 rfl rfl rfl ?_
      refine z_getf (pc' := 18) C zci_0 zw_179 (j := 1) rfl h_a0 rfl rfl dX0_overdueOf_15 rfl ?_
      refine z_iload (pc' := 20) C 4 dX0_overdueOf_18 rfl rfl ?_
      refine z_iald (pc' := 21) C hf h_a1 dX0_overdueOf_20 rfl (fun v_20 hf => ?_)
      refine z_iload_n (pc' := 22) C 1 dX0_overdueOf_21 rfl rfl rfl ?_
      refine z_icmp_ne (pc' := 25) C 46 hf dX0_overdueOf_22 rfl rfl (fun g_22 hf => ?_) (fun g_22 hf => ?_)
      · refine z_iinc (pc' := 49) C 4 [(5, .int (x5 + (1 : Int32))), (0, .ref (zo w + a)), (1, .int x1), (2, .int x2), (3, .long x3)] dX0_overdueOf_46 rfl zk_iconst_1 rfl rfl rfl ?_
        refine z_goto C 5 dX0_overdueOf_49 rfl ?_
        refine z_pick (lv' := [(0, .ref (zo w + a)), (1, .int x1), (2, .int x2), (3, .long x3), (5, .int (x5 + (1 : Int32)))]) [1, 2, 3, 4, 0] rfl ?_
        exact ih hf
      · refine z_aload_n (pc' := 26) C 0 dX0_overdueOf_25 rfl rfl rfl ?_
        refine z_getf (pc' := 29) C zci_0 zw_189 (j := 5) rfl h_a0 rfl rfl dX0_overdueOf_26 rfl ?_
        refine z_iload (pc' := 31) C 4 dX0_overdueOf_29 rfl rfl ?_
        refine z_iald (pc' := 32) C hf h_a5 dX0_overdueOf_31 rfl (fun v_31 hf => ?_)
        refine z_iload_n (pc' := 33) C 2 dX0_overdueOf_32 rfl rfl rfl ?_
        refine z_icmp_ge (pc' := 36) C 46 hf dX0_overdueOf_33 rfl rfl (fun g_33 hf => ?_) (fun g_33 hf => ?_)
        · refine z_iinc (pc' := 49) C 4 [(5, .int (x5 + (1 : Int32))), (0, .ref (zo w + a)), (1, .int x1), (2, .int x2), (3, .long x3)] dX0_overdueOf_46 rfl zk_iconst_1 rfl rfl rfl ?_
          refine z_goto C 5 dX0_overdueOf_49 rfl ?_
          refine z_pick (lv' := [(0, .ref (zo w + a)), (1, .int x1), (2, .int x2), (3, .long x3), (5, .int (x5 + (1 : Int32)))]) [1, 2, 3, 4, 0] rfl ?_
          exact ih hf
        · refine z_lload_n (pc' := 37) C 3 dX0_overdueOf_36 rfl rfl rfl ?_
          refine z_aload_n (pc' := 38) C 0 dX0_overdueOf_37 rfl rfl rfl ?_
          refine z_getf (pc' := 41) C zci_0 zw_184 (j := 3) rfl h_a0 rfl rfl dX0_overdueOf_38 rfl ?_
          refine z_iload (pc' := 43) C 4 dX0_overdueOf_41 rfl rfl ?_
          refine z_lald (pc' := 44) C hf h_a3 dX0_overdueOf_43 rfl (fun v_43 hf => ?_)
          refine z_ladd (pc' := 45) C dX0_overdueOf_44 rfl ?_
          refine z_lstore_n (pc' := 46) C [(3, .long (x3 + v_43)), (0, .ref (zo w + a)), (1, .int x1), (2, .int x2), (5, .int x5)] dX0_overdueOf_45 rfl rfl rfl rfl ?_
          refine z_iinc (pc' := 49) C 4 [(5, .int (x5 + (1 : Int32))), (3, .long (x3 + v_43)), (0, .ref (zo w + a)), (1, .int x1), (2, .int x2)] dX0_overdueOf_46 rfl zk_iconst_1 rfl rfl rfl ?_
          refine z_goto C 5 dX0_overdueOf_49 rfl ?_
          refine z_pick (lv' := [(0, .ref (zo w + a)), (1, .int x1), (2, .int x2), (3, .long (x3 + v_43)), (5, .int (x5 + (1 : Int32)))]) [2, 3, 4, 1, 0] rfl ?_
          exact ih hf
set_option maxRecDepth 20000 in
theorem c_X0_overdueOf {w : zV} {N : Nat} {h : zH} {a : Nat} {ce_count : Int32} {ce_contract : Nat → Int32} {ce_open : Nat → Int64} {ce_due : Nat → Int32} {p1 : Int32} {p2 : Int32} (h_a0 : zc N h (a + 0) (.inr (0, [.int ce_count, .ref (zo w + (a + 1)), .ref (zo w + (a + 2)), .ref (zo w + (a + 3)), .ref (zo w + (a + 4)), .ref (zo w + (a + 5))]))) (h_a1 : zc N h (a + 1) (.inl (w.2.2.1 0, 40, .inl ce_contract))) (h_a3 : zc N h (a + 3) (.inl (w.2.2.1 1, 40, .inr (.inl ce_open)))) (h_a5 : zc N h (a + 5) (.inl (w.2.2.1 0, 40, .inl ce_due))) {r : Int64} (hf : f_X0_overdueOf ce_count ce_contract ce_open ce_due p1 p2 = some r) : zM w yX0_overdueOf cX0_overdueOf 6 (some .long) (zr 0 0) false N N h [.ref (zo w + a), .int p1, .int p2] (some (.long r)) h := by
  unfold f_X0_overdueOf at hf
  refine zM_of (by decide) rfl (fun X C _ => ?_)
  refine z_pick (lv' := [(0, .ref (zo w + a)), (1, .int p1), (2, .int p2)]) [0, 1, 2] rfl ?_
  refine z_lconst (pc' := 1) C dX0_overdueOf_0 zl_0 rfl ?_
  refine z_lstore_n (pc' := 2) C [(3, .long (0 : Int64)), (0, .ref (zo w + a)), (1, .int p1), (2, .int p2)] dX0_overdueOf_1 rfl rfl rfl rfl ?_
  refine z_iconst (pc' := 3) C dX0_overdueOf_2 zk_iconst_0 rfl ?_
  refine z_istore (pc' := 5) C [(5, .int (0 : Int32)), (3, .long (0 : Int64)), (0, .ref (zo w + a)), (1, .int p1), (2, .int p2)] dX0_overdueOf_3 rfl rfl rfl ?_
  refine z_pick (lv' := [(0, .ref (zo w + a)), (1, .int p1), (2, .int p2), (3, .long (0 : Int64)), (5, .int (0 : Int32))]) [2, 3, 4, 1, 0] rfl ?_
  exact w_X0_overdueOf_5 C h_a0 h_a1 h_a3 h_a5  FU hf
set_option maxRecDepth 20000 in
theorem w_X0_openDueBetween_5 {X : zC} {w : zV} {N : Nat} {h : zH} {a : Nat} {ce_count : Int32} {ce_open : Nat → Int64} {ce_due : Nat → Int32} (C : zK X w RX0 cX0_openDueBetween 6 (some .long) (zr 0 0)) (h_a0 : zc N h (a + 0) (.inr (0, [.int ce_count, .ref (zo w + (a + 1)), .ref (zo w + (a + 2)), .ref (zo w + (a + 3)), .ref (zo w + (a + 4)), .ref (zo w + (a + 5))]))) (h_a3 : zc N h (a + 3) (.inl (w.2.2.1 1, 40, .inr (.inl ce_open)))) (h_a5 : zc N h (a + 5) (.inl (w.2.2.1 0, 40, .inl ce_due))) {r : Int64} (n : Nat) : ∀ {x1 : Int32} {x2 : Int32} {x3 : Int64} {x5 : Int32}, f_X0_openDueBetween_5  n ce_count ce_open ce_due x1 x2 x3 x5 = some r → zZ X w (zQ X w (zr 0 0) (some (.long r)) false N h) 0 0 false N h 5 [(0, .ref (zo w + a)), (1, .int x1), (2, .int x2), (3, .long x3), (5, .int x5)] [] := by
  induction n with
  | zero =>
    intro x1 x2 x3 x5 hf
    have hf : (none : Option (Int64)) = some r := hf
    cases hf
  | succ z ih =>
    intro x1 x2 x3 x5 hf
    rw [f_X0_openDueBetween_5] at hf
    refine z_iload (pc' := 7) C 4 dX0_openDueBetween_5 rfl rfl ?_
    refine z_aload_n (pc' := 8) C 0 dX0_openDueBetween_7 rfl rfl rfl ?_
    refine z_getf (pc' := 11) C zci_0 zw_176 (j := 0) rfl h_a0 rfl rfl dX0_openDueBetween_8 rfl ?_
    refine z_icmp_ge (pc' := 14) C 52 hf dX0_openDueBetween_11 rfl rfl (fun g_11 hf => ?_) (fun g_11 hf => ?_)
    · refine z_lload_n (pc' := 53) C 3 dX0_openDueBetween_52 rfl rfl rfl ?_
      cases hf
      exact z_lret C rfl rfl dX0_openDueBetween_53
    · refine z_iload_n (pc' := 15) C 1 dX0_openDueBetween_14 rfl rfl rfl ?_
      refine z_aload_n (pc' := 16) C 0 dX0_openDueBetween_15 rfl rfl rfl ?_
      refine z_getf (pc' := 19) C zci_0 zw_189 (j := 5) rfl h_a0 rfl rfl dX0_openDueBetween_16 rfl ?_
      refine z_iload (pc' := 21) C 4 dX0_openDueBetween_19 rfl rfl ?_
      refine z_iald (pc' := 22) C hf h_a5 dX0_openDueBetween_21 rfl (fun v_21 hf => ?_)
      refine z_icmp_gt (pc' := 25) C 46 hf dX0_openDueBetween_22 rfl rfl (fun g_22 hf => ?_) (fun g_22 hf => ?_)
      · refine z_iinc (pc' := 49) C 4 [(5, .int (x5 + (1 : Int32))), (0, .ref (zo w + a)), (1, .int x1), (2, .int x2), (3, .long x3)] dX0_openDueBetween_46 rfl zk_iconst_1 rfl rfl rfl ?_
        refine z_goto C 5 dX0_openDueBetween_49 rfl ?_
        refine z_pick (lv' := [(0, .ref (zo w + a)), (1, .int x1), (2, .int x2), (3, .long x3), (5, .int (x5 + (1 : Int32)))]) [1, 2, 3, 4, 0] rfl ?_
        exact ih hf
      · refine z_aload_n (pc' := 26) C 0 dX0_openDueBetween_25 rfl rfl rfl ?_
        refine z_getf (pc' := 29) C zci_0 zw_189 (j := 5) rfl h_a0 rfl rfl dX0_openDueBetween_26 rfl ?_
        refine z_iload (pc' := 31) C 4 dX0_openDueBetween_29 rfl rfl ?_
        refine z_iald (pc' := 32) C hf h_a5 dX0_openDueBetween_31 rfl (fun v_31 hf => ?_)
        refine z_iload_n (pc' := 33) C 2 dX0_openDueBetween_32 rfl rfl rfl ?_
        refine z_icmp_gt (pc' := 36) C 46 hf dX0_openDueBetween_33 rfl rfl (fun g_33 hf => ?_) (fun g_33 hf => ?_)
        · refine z_iinc (pc' := 49) C 4 [(5, .int (x5 + (1 : Int32))), (0, .ref (zo w + a)), (1, .int x1), (2, .int x2), (3, .long x3)] dX0_openDueBetween_46 rfl zk_iconst_1 rfl rfl rfl ?_
          refine z_goto C 5 dX0_openDueBetween_49 rfl ?_
          refine z_pick (lv' := [(0, .ref (zo w + a)), (1, .int x1), (2, .int x2), (3, .long x3), (5, .int (x5 + (1 : Int32)))]) [1, 2, 3, 4, 0] rfl ?_
          exact ih hf
        · refine z_lload_n (pc' := 37) C 3 dX0_openDueBetween_36 rfl rfl rfl ?_
          refine z_aload_n (pc' := 38) C 0 dX0_openDueBetween_37 rfl rfl rfl ?_
          refine z_getf (pc' := 41) C zci_0 zw_184 (j := 3) rfl h_a0 rfl rfl dX0_openDueBetween_38 rfl ?_
          refine z_iload (pc' := 43) C 4 dX0_openDueBetween_41 rfl rfl ?_
          refine z_lald (pc' := 44) C hf h_a3 dX0_openDueBetween_43 rfl (fun v_43 hf => ?_)
          refine z_ladd (pc' := 45) C dX0_openDueBetween_44 rfl ?_
          refine z_lstore_n (pc' := 46) C [(3, .long (x3 + v_43)), (0, .ref (zo w + a)), (1, .int x1), (2, .int x2), (5, .int x5)] dX0_openDueBetween_45 rfl rfl rfl rfl ?_
          refine z_iinc (pc' := 49) C 4 [(5, .int (x5 + (1 : Int32))), (3, .long (x3 + v_43)), (0, .ref (zo w + a)), (1, .int x1), (2, .int x2)] dX0_openDueBetween_46 rfl zk_iconst_1 rfl rfl rfl ?_
          refine z_goto C 5 dX0_openDueBetween_49 rfl ?_
          refine z_pick (lv' := [(0, .ref (zo w + a)), (1, .int x1), (2, .int x2), (3, .long (x3 + v_43)), (5, .int (x5 + (1 : Int32)))]) [2, 3, 4, 1, 0] rfl ?_
          exact ih hf
set_option maxRecDepth 20000 in
theorem c_X0_openDueBetween {w : zV} {N : Nat} {h : zH} {a : Nat} {ce_count : Int32} {ce_open : Nat → Int64} {ce_due : Nat → Int32} {p1 : Int32} {p2 : Int32} (h_a0 : zc N h (a + 0) (.inr (0, [.int ce_count, .ref (zo w + (a + 1)), .ref (zo w + (a + 2)), .ref (zo w + (a + 3)), .ref (zo w + (a + 4)), .ref (zo w + (a + 5))]))) (h_a3 : zc N h (a + 3) (.inl (w.2.2.1 1, 40, .inr (.inl ce_open)))) (h_a5 : zc N h (a + 5) (.inl (w.2.2.1 0, 40, .inl ce_due))) {r : Int64} (hf : f_X0_openDueBetween ce_count ce_open ce_due p1 p2 = some r) : zM w yX0_openDueBetween cX0_openDueBetween 6 (some .long) (zr 0 0) false N N h [.ref (zo w + a), .int p1, .int p2] (some (.long r)) h := by
  unfold f_X0_openDueBetween at hf
  refine zM_of (by decide) rfl (fun X C _ => ?_)
  refine z_pick (lv' := [(0, .ref (zo w + a)), (1, .int p1), (2, .int p2)]) [0, 1, 2] rfl ?_
  refine z_lconst (pc' := 1) C dX0_openDueBetween_0 zl_0 rfl ?_
  refine z_lstore_n (pc' := 2) C [(3, .long (0 : Int64)), (0, .ref (zo w + a)), (1, .int p1), (2, .int p2)] dX0_openDueBetween_1 rfl rfl rfl rfl ?_
  refine z_iconst (pc' := 3) C dX0_openDueBetween_2 zk_iconst_0 rfl ?_
  refine z_istore (pc' := 5) C [(5, .int (0 : Int32)), (3, .long (0 : Int64)), (0, .ref (zo w + a)), (1, .int p1), (2, .int p2)] dX0_openDueBetween_3 rfl rfl rfl ?_
  refine z_pick (lv' := [(0, .ref (zo w + a)), (1, .int p1), (2, .int p2), (3, .long (0 : Int64)), (5, .int (0 : Int32))]) [2, 3, 4, 1, 0] rfl ?_
  exact w_X0_openDueBetween_5 C h_a0 h_a3 h_a5  FU hf
set_option maxRecDepth 20000 in
theorem w_X0_hasOpenUpTo_2 {X : zC} {w : zV} {N : Nat} {h : zH} {a : Nat} {ce_count : Int32} {ce_contract : Nat → Int32} {ce_open : Nat → Int64} {ce_issued : Nat → Int32} (C : zK X w RX0 cX0_hasOpenUpTo 4 (some .boolean) (zr 0 0)) (h_a0 : zc N h (a + 0) (.inr (0, [.int ce_count, .ref (zo w + (a + 1)), .ref (zo w + (a + 2)), .ref (zo w + (a + 3)), .ref (zo w + (a + 4)), .ref (zo w + (a + 5))]))) (h_a1 : zc N h (a + 1) (.inl (w.2.2.1 0, 40, .inl ce_contract))) (h_a3 : zc N h (a + 3) (.inl (w.2.2.1 1, 40, .inr (.inl ce_open)))) (h_a4 : zc N h (a + 4) (.inl (w.2.2.1 0, 40, .inl ce_issued))) {r : Int32} (n : Nat) : ∀ {x1 : Int32} {x2 : Int32} {x3 : Int32}, f_X0_hasOpenUpTo_2  n ce_count ce_contract ce_open ce_issued x1 x2 x3 = some r → zZ X w (zQ X w (zr 0 0) (some (.int r)) false N h) 0 0 false N h 2 [(0, .ref (zo w + a)), (1, .int x1), (2, .int x2), (3, .int x3)] [] := by
  induction n with
  | zero =>
    intro x1 x2 x3 hf
    have hf : (none : Option (Int32)) = some r := hf
    cases hf
  | succ z ih =>
    intro x1 x2 x3 hf
    rw [f_X0_hasOpenUpTo_2] at hf
    refine z_iload_n (pc' := 3) C 3 dX0_hasOpenUpTo_2 rfl rfl rfl ?_
    refine z_aload_n (pc' := 4) C 0 dX0_hasOpenUpTo_3 rfl rfl rfl ?_
    refine z_getf (pc' := 7) C zci_0 zw_176 (j := 0) rfl h_a0 rfl rfl dX0_hasOpenUpTo_4 rfl ?_
    refine z_icmp_ge (pc' := 10) C 49 hf dX0_hasOpenUpTo_7 rfl rfl (fun g_7 hf => ?_) (fun g_7 hf => ?_)
    · refine z_iconst (pc' := 50) C dX0_hasOpenUpTo_49 zk_iconst_0 rfl ?_
      cases hf
      exact z_zret C zb_0 rfl rfl dX0_hasOpenUpTo_50
    · refine z_aload_n (pc' := 11) C 0 dX0_hasOpenUpTo_10 rfl rfl rfl ?_
      refine z_getf (pc' := 14) C zci_0 zw_179 (j := 1) rfl h_a0 rfl rfl dX0_hasOpenUpTo_11 rfl ?_
      refine z_iload_n (pc' := 15) C 3 dX0_hasOpenUpTo_14 rfl rfl rfl ?_
      refine z_iald (pc' := 16) C hf h_a1 dX0_hasOpenUpTo_15 rfl (fun v_15 hf => ?_)
      refine z_iload_n (pc' := 17) C 1 dX0_hasOpenUpTo_16 rfl rfl rfl ?_
      refine z_icmp_ne (pc' := 20) C 43 hf dX0_hasOpenUpTo_17 rfl rfl (fun g_17 hf => ?_) (fun g_17 hf => ?_)
      · refine z_iinc (pc' := 46) C 3 [(3, .int (x3 + (1 : Int32))), (0, .ref (zo w + a)), (1, .int x1), (2, .int x2)] dX0_hasOpenUpTo_43 rfl zk_iconst_1 rfl rfl rfl ?_
        refine z_goto C 2 dX0_hasOpenUpTo_46 rfl ?_
        refine z_pick (lv' := [(0, .ref (zo w + a)), (1, .int x1), (2, .int x2), (3, .int (x3 + (1 : Int32)))]) [1, 2, 3, 0] rfl ?_
        exact ih hf
      · refine z_aload_n (pc' := 21) C 0 dX0_hasOpenUpTo_20 rfl rfl rfl ?_
        refine z_getf (pc' := 24) C zci_0 zw_184 (j := 3) rfl h_a0 rfl rfl dX0_hasOpenUpTo_21 rfl ?_
        refine z_iload_n (pc' := 25) C 3 dX0_hasOpenUpTo_24 rfl rfl rfl ?_
        refine z_lald (pc' := 26) C hf h_a3 dX0_hasOpenUpTo_25 rfl (fun v_25 hf => ?_)
        refine z_lconst (pc' := 27) C dX0_hasOpenUpTo_26 zl_0 rfl ?_
        refine z_lcmp_le (pc' := 31) C 43 hf dX0_hasOpenUpTo_27 rfl dX0_hasOpenUpTo_28 rfl rfl (fun g_27 hf => ?_) (fun g_27 hf => ?_)
        · refine z_iinc (pc' := 46) C 3 [(3, .int (x3 + (1 : Int32))), (0, .ref (zo w + a)), (1, .int x1), (2, .int x2)] dX0_hasOpenUpTo_43 rfl zk_iconst_1 rfl rfl rfl ?_
          refine z_goto C 2 dX0_hasOpenUpTo_46 rfl ?_
          refine z_pick (lv' := [(0, .ref (zo w + a)), (1, .int x1), (2, .int x2), (3, .int (x3 + (1 : Int32)))]) [1, 2, 3, 0] rfl ?_
          exact ih hf
        · refine z_aload_n (pc' := 32) C 0 dX0_hasOpenUpTo_31 rfl rfl rfl ?_
          refine z_getf (pc' := 35) C zci_0 zw_187 (j := 4) rfl h_a0 rfl rfl dX0_hasOpenUpTo_32 rfl ?_
          refine z_iload_n (pc' := 36) C 3 dX0_hasOpenUpTo_35 rfl rfl rfl ?_
          refine z_iald (pc' := 37) C hf h_a4 dX0_hasOpenUpTo_36 rfl (fun v_36 hf => ?_)
          refine z_iload_n (pc' := 38) C 2 dX0_hasOpenUpTo_37 rfl rfl rfl ?_
          refine z_icmp_gt (pc' := 41) C 43 hf dX0_hasOpenUpTo_38 rfl rfl (fun g_38 hf => ?_) (fun g_38 hf => ?_)
          · refine z_iinc (pc' := 46) C 3 [(3, .int (x3 + (1 : Int32))), (0, .ref (zo w + a)), (1, .int x1), (2, .int x2)] dX0_hasOpenUpTo_43 rfl zk_iconst_1 rfl rfl rfl ?_
            refine z_goto C 2 dX0_hasOpenUpTo_46 rfl ?_
            refine z_pick (lv' := [(0, .ref (zo w + a)), (1, .int x1), (2, .int x2), (3, .int (x3 + (1 : Int32)))]) [1, 2, 3, 0] rfl ?_
            exact ih hf
          · refine z_iconst (pc' := 42) C dX0_hasOpenUpTo_41 zk_iconst_1 rfl ?_
            cases hf
            exact z_zret C zb_1 rfl rfl dX0_hasOpenUpTo_42
set_option maxRecDepth 20000 in
theorem c_X0_hasOpenUpTo {w : zV} {N : Nat} {h : zH} {a : Nat} {ce_count : Int32} {ce_contract : Nat → Int32} {ce_open : Nat → Int64} {ce_issued : Nat → Int32} {p1 : Int32} {p2 : Int32} (h_a0 : zc N h (a + 0) (.inr (0, [.int ce_count, .ref (zo w + (a + 1)), .ref (zo w + (a + 2)), .ref (zo w + (a + 3)), .ref (zo w + (a + 4)), .ref (zo w + (a + 5))]))) (h_a1 : zc N h (a + 1) (.inl (w.2.2.1 0, 40, .inl ce_contract))) (h_a3 : zc N h (a + 3) (.inl (w.2.2.1 1, 40, .inr (.inl ce_open)))) (h_a4 : zc N h (a + 4) (.inl (w.2.2.1 0, 40, .inl ce_issued))) {r : Int32} (hf : f_X0_hasOpenUpTo ce_count ce_contract ce_open ce_issued p1 p2 = some r) : zM w yX0_hasOpenUpTo cX0_hasOpenUpTo 4 (some .boolean) (zr 0 0) false N N h [.ref (zo w + a), .int p1, .int p2] (some (.int r)) h := by
  unfold f_X0_hasOpenUpTo at hf
  refine zM_of (by decide) rfl (fun X C _ => ?_)
  refine z_pick (lv' := [(0, .ref (zo w + a)), (1, .int p1), (2, .int p2)]) [0, 1, 2] rfl ?_
  refine z_iconst (pc' := 1) C dX0_hasOpenUpTo_0 zk_iconst_0 rfl ?_
  refine z_istore_n (pc' := 2) C [(3, .int (0 : Int32)), (0, .ref (zo w + a)), (1, .int p1), (2, .int p2)] dX0_hasOpenUpTo_1 rfl rfl rfl rfl ?_
  refine z_pick (lv' := [(0, .ref (zo w + a)), (1, .int p1), (2, .int p2), (3, .int (0 : Int32))]) [1, 2, 3, 0] rfl ?_
  exact w_X0_hasOpenUpTo_2 C h_a0 h_a1 h_a3 h_a4  FU hf
set_option maxRecDepth 20000 in
theorem c_X0_isPaid {w : zV} {N : Nat} {h : zH} {a : Nat} {ce_count : Int32} {ce_open : Nat → Int64} {p1 : Int32} (h_a0 : zc N h (a + 0) (.inr (0, [.int ce_count, .ref (zo w + (a + 1)), .ref (zo w + (a + 2)), .ref (zo w + (a + 3)), .ref (zo w + (a + 4)), .ref (zo w + (a + 5))]))) (h_a3 : zc N h (a + 3) (.inl (w.2.2.1 1, 40, .inr (.inl ce_open)))) {r : Int32} (hf : f_X0_isPaid ce_count ce_open p1 = some r) : zM w yX0_isPaid cX0_isPaid 2 (some .boolean) (zr 0 0) false N N h [.ref (zo w + a), .int p1] (some (.int r)) h := by
  unfold f_X0_isPaid at hf
  refine zM_of (by decide) rfl (fun X C _ => ?_)
  refine z_pick (lv' := [(0, .ref (zo w + a)), (1, .int p1)]) [0, 1] rfl ?_
  refine z_iload_n (pc' := 1) C 1 dX0_isPaid_0 rfl rfl rfl ?_
  refine z_if_lt (pc' := 4) C 27 hf dX0_isPaid_1 rfl rfl (fun g_1 hf => ?_) (fun g_1 hf => ?_)
  · refine z_iconst (pc' := 28) C dX0_isPaid_27 zk_iconst_0 rfl ?_
    cases hf
    exact z_zret C zb_0 rfl rfl dX0_isPaid_28
  · refine z_iload_n (pc' := 5) C 1 dX0_isPaid_4 rfl rfl rfl ?_
    refine z_aload_n (pc' := 6) C 0 dX0_isPaid_5 rfl rfl rfl ?_
    refine z_getf (pc' := 9) C zci_0 zw_176 (j := 0) rfl h_a0 rfl rfl dX0_isPaid_6 rfl ?_
    refine z_icmp_ge (pc' := 12) C 27 hf dX0_isPaid_9 rfl rfl (fun g_9 hf => ?_) (fun g_9 hf => ?_)
    · refine z_iconst (pc' := 28) C dX0_isPaid_27 zk_iconst_0 rfl ?_
      cases hf
      exact z_zret C zb_0 rfl rfl dX0_isPaid_28
    · refine z_aload_n (pc' := 13) C 0 dX0_isPaid_12 rfl rfl rfl ?_
      refine z_getf (pc' := 16) C zci_0 zw_184 (j := 3) rfl h_a0 rfl rfl dX0_isPaid_13 rfl ?_
      refine z_iload_n (pc' := 17) C 1 dX0_isPaid_16 rfl rfl rfl ?_
      refine z_lald (pc' := 18) C hf h_a3 dX0_isPaid_17 rfl (fun v_17 hf => ?_)
      refine z_lconst (pc' := 19) C dX0_isPaid_18 zl_0 rfl ?_
      refine z_lcmp_ne (pc' := 23) C 27 hf dX0_isPaid_19 rfl dX0_isPaid_20 rfl rfl (fun g_19 hf => ?_) (fun g_19 hf => ?_)
      · refine z_iconst (pc' := 28) C dX0_isPaid_27 zk_iconst_0 rfl ?_
        cases hf
        exact z_zret C zb_0 rfl rfl dX0_isPaid_28
      · refine z_iconst (pc' := 24) C dX0_isPaid_23 zk_iconst_1 rfl ?_
        refine z_goto C 28 dX0_isPaid_24 rfl ?_
        cases hf
        exact z_zret C zb_1 rfl rfl dX0_isPaid_28
set_option maxRecDepth 20000 in
theorem w_X0_nextDueDay_5 {X : zC} {w : zV} {N : Nat} {h : zH} {a : Nat} {ce_count : Int32} {ce_due : Nat → Int32} (C : zK X w RX0 cX0_nextDueDay 5 (some .int) (zr 0 0)) (h_a0 : zc N h (a + 0) (.inr (0, [.int ce_count, .ref (zo w + (a + 1)), .ref (zo w + (a + 2)), .ref (zo w + (a + 3)), .ref (zo w + (a + 4)), .ref (zo w + (a + 5))]))) (h_a5 : zc N h (a + 5) (.inl (w.2.2.1 0, 40, .inl ce_due))) {r : Int32} (n : Nat) : ∀ {x1 : Int32} {x3 : Int32} {x4 : Int32}, f_X0_nextDueDay_5  n ce_count ce_due x1 x3 x4 = some r → zZ X w (zQ X w (zr 0 0) (some (.int r)) false N h) 0 0 false N h 5 [(0, .ref (zo w + a)), (1, .int x1), (3, .int x3), (4, .int x4)] [] := by
  induction n with
  | zero =>
    intro x1 x3 x4 hf
    have hf : (none : Option (Int32)) = some r := hf
    cases hf
  | succ z ih =>
    intro x1 x3 x4 hf
    rw [f_X0_nextDueDay_5] at hf
    refine z_iload (pc' := 7) C 3 dX0_nextDueDay_5 rfl rfl ?_
    refine z_aload_n (pc' := 8) C 0 dX0_nextDueDay_7 rfl rfl rfl ?_
    refine z_getf (pc' := 11) C zci_0 zw_176 (j := 0) rfl h_a0 rfl rfl dX0_nextDueDay_8 rfl ?_
    refine z_icmp_ge (pc' := 14) C 50 hf dX0_nextDueDay_11 rfl rfl (fun g_11 hf => ?_) (fun g_11 hf => ?_)
    · refine z_iload_n (pc' := 51) C 2 dX0_nextDueDay_50 rfl rfl rfl ?_
      cases hf
      exact z_iret C rfl rfl dX0_nextDueDay_51
    · refine z_aload_n (pc' := 15) C 0 dX0_nextDueDay_14 rfl rfl rfl ?_
      refine z_getf (pc' := 18) C zci_0 zw_189 (j := 5) rfl h_a0 rfl rfl dX0_nextDueDay_15 rfl ?_
      refine z_iload (pc' := 20) C 3 dX0_nextDueDay_18 rfl rfl ?_
      refine z_iald (pc' := 21) C hf h_a5 dX0_nextDueDay_20 rfl (fun v_20 hf => ?_)
      refine z_iload_n (pc' := 22) C 1 dX0_nextDueDay_21 rfl rfl rfl ?_
      refine z_icmp_lt (pc' := 25) C 44 hf dX0_nextDueDay_22 rfl rfl (fun g_22 hf => ?_) (fun g_22 hf => ?_)
      · refine z_iinc (pc' := 47) C 3 [(4, .int (x4 + (1 : Int32))), (0, .ref (zo w + a)), (1, .int x1), (3, .int x3)] dX0_nextDueDay_44 rfl zk_iconst_1 rfl rfl rfl ?_
        refine z_goto C 5 dX0_nextDueDay_47 rfl ?_
        refine z_pick (lv' := [(0, .ref (zo w + a)), (1, .int x1), (3, .int x3), (4, .int (x4 + (1 : Int32)))]) [1, 2, 3, 0] rfl ?_
        exact ih hf
      · refine z_aload_n (pc' := 26) C 0 dX0_nextDueDay_25 rfl rfl rfl ?_
        refine z_getf (pc' := 29) C zci_0 zw_189 (j := 5) rfl h_a0 rfl rfl dX0_nextDueDay_26 rfl ?_
        refine z_iload (pc' := 31) C 3 dX0_nextDueDay_29 rfl rfl ?_
        refine z_iald (pc' := 32) C hf h_a5 dX0_nextDueDay_31 rfl (fun v_31 hf => ?_)
        refine z_iload_n (pc' := 33) C 2 dX0_nextDueDay_32 rfl rfl rfl ?_
        refine z_icmp_ge (pc' := 36) C 44 hf dX0_nextDueDay_33 rfl rfl (fun g_33 hf => ?_) (fun g_33 hf => ?_)
        · refine z_iinc (pc' := 47) C 3 [(4, .int (x4 + (1 : Int32))), (0, .ref (zo w + a)), (1, .int x1), (3, .int x3)] dX0_nextDueDay_44 rfl zk_iconst_1 rfl rfl rfl ?_
          refine z_goto C 5 dX0_nextDueDay_47 rfl ?_
          refine z_pick (lv' := [(0, .ref (zo w + a)), (1, .int x1), (3, .int x3), (4, .int (x4 + (1 : Int32)))]) [1, 2, 3, 0] rfl ?_
          exact ih hf
        · refine z_aload_n (pc' := 37) C 0 dX0_nextDueDay_36 rfl rfl rfl ?_
          refine z_getf (pc' := 40) C zci_0 zw_189 (j := 5) rfl h_a0 rfl rfl dX0_nextDueDay_37 rfl ?_
          refine z_iload (pc' := 42) C 3 dX0_nextDueDay_40 rfl rfl ?_
          refine z_iald (pc' := 43) C hf h_a5 dX0_nextDueDay_42 rfl (fun v_42 hf => ?_)
          refine z_istore_n (pc' := 44) C [(3, .int v_42), (0, .ref (zo w + a)), (1, .int x1), (4, .int x4)] dX0_nextDueDay_43 rfl rfl rfl rfl ?_
          refine z_iinc (pc' := 47) C 3 [(4, .int (x4 + (1 : Int32))), (3, .int v_42), (0, .ref (zo w + a)), (1, .int x1)] dX0_nextDueDay_44 rfl zk_iconst_1 rfl rfl rfl ?_
          refine z_goto C 5 dX0_nextDueDay_47 rfl ?_
          refine z_pick (lv' := [(0, .ref (zo w + a)), (1, .int x1), (3, .int v_42), (4, .int (x4 + (1 : Int32)))]) [2, 3, 1, 0] rfl ?_
          exact ih hf
set_option maxRecDepth 20000 in
theorem c_X0_nextDueDay {w : zV} {N : Nat} {h : zH} {a : Nat} {ce_count : Int32} {ce_due : Nat → Int32} {p1 : Int32} {p2 : Int32} (h_a0 : zc N h (a + 0) (.inr (0, [.int ce_count, .ref (zo w + (a + 1)), .ref (zo w + (a + 2)), .ref (zo w + (a + 3)), .ref (zo w + (a + 4)), .ref (zo w + (a + 5))]))) (h_a5 : zc N h (a + 5) (.inl (w.2.2.1 0, 40, .inl ce_due))) {r : Int32} (hf : f_X0_nextDueDay ce_count ce_due p1 p2 = some r) : zM w yX0_nextDueDay cX0_nextDueDay 5 (some .int) (zr 0 0) false N N h [.ref (zo w + a), .int p1, .int p2] (some (.int r)) h := by
  unfold f_X0_nextDueDay at hf
  refine zM_of (by decide) rfl (fun X C _ => ?_)
  refine z_pick (lv' := [(0, .ref (zo w + a)), (1, .int p1), (2, .int p2)]) [0, 1, 2] rfl ?_
  refine z_iload_n (pc' := 1) C 2 dX0_nextDueDay_0 rfl rfl rfl ?_
  refine z_istore_n (pc' := 2) C [(3, .int p2), (0, .ref (zo w + a)), (1, .int p1), (2, .int p2)] dX0_nextDueDay_1 rfl rfl rfl rfl ?_
  refine z_iconst (pc' := 3) C dX0_nextDueDay_2 zk_iconst_0 rfl ?_
  refine z_istore (pc' := 5) C [(4, .int (0 : Int32)), (3, .int p2), (0, .ref (zo w + a)), (1, .int p1), (2, .int p2)] dX0_nextDueDay_3 rfl rfl rfl ?_
  refine z_pick (lv' := [(0, .ref (zo w + a)), (1, .int p1), (3, .int p2), (4, .int (0 : Int32))]) [2, 3, 1, 0] rfl ?_
  exact w_X0_nextDueDay_5 C h_a0 h_a5  FU hf
set_option maxRecDepth 20000 in
theorem w_X0_sortByDueDay_18 {X : zC} {w : zV} {N : Nat} {h : zH} {a b1 : Nat} {ce_count : Int32} {ce_due : Nat → Int32} (C : zK X w RX0 cX0_sortByDueDay 4 none (zr 0 0)) (h_a0 : zc N h (a + 0) (.inr (0, [.int ce_count, .ref (zo w + (a + 1)), .ref (zo w + (a + 2)), .ref (zo w + (a + 3)), .ref (zo w + (a + 4)), .ref (zo w + (a + 5))]))) (h_a5 : zc N h (a + 5) (.inl (w.2.2.1 0, 40, .inl ce_due))) (n_b10 : b1 + 0 < N) (far_a : a + 6 ≤ b1 ∨ b1 + 1 ≤ a) {r : (Nat → Int32)} {k2 : Int32 → (Nat → Int32) → (Nat → Int32) → Int32 → Option ((Nat → Int32))} (hk2 : ∀ {arr_b1 : Nat → Int32} {x2 : Int32}, k2 ce_count ce_due arr_b1 x2 = some r → zZ X w (zQ X w (zr 0 0) (none) false N (zu h b1 [(0, .inl (w.2.2.1 0, 40, .inl r))])) 0 0 false N (zu h b1 [(0, .inl (w.2.2.1 0, 40, .inl arr_b1))]) 2 [(0, .ref (zo w + a)), (1, .ref (zo w + b1)), (2, .int x2)] []) (n : Nat) : ∀ {arr_b1 : Nat → Int32} {x2 : Int32} {x3 : Int32}, f_X0_sortByDueDay_18 k2 n ce_count ce_due arr_b1 x2 x3 = some r → zZ X w (zQ X w (zr 0 0) (none) false N (zu h b1 [(0, .inl (w.2.2.1 0, 40, .inl r))])) 0 0 false N (zu h b1 [(0, .inl (w.2.2.1 0, 40, .inl arr_b1))]) 18 [(0, .ref (zo w + a)), (1, .ref (zo w + b1)), (2, .int x2), (3, .int x3)] [] := by
  induction n with
  | zero =>
    intro arr_b1 x2 x3 hf
    have hf : (none : Option ((Nat → Int32))) = some r := hf
    cases hf
  | succ z ih =>
    intro arr_b1 x2 x3 hf
    rw [f_X0_sortByDueDay_18] at hf
    refine z_iload_n (pc' := 19) C 3 dX0_sortByDueDay_18 rfl rfl rfl ?_
    refine z_if_le (pc' := 22) C 55 hf dX0_sortByDueDay_19 rfl rfl (fun g_19 hf => ?_) (fun g_19 hf => ?_)
    · refine z_aload_n (pc' := 56) C 1 dX0_sortByDueDay_55 rfl rfl rfl ?_
      refine z_iload_n (pc' := 57) C 3 dX0_sortByDueDay_56 rfl rfl rfl ?_
      refine z_iload_n (pc' := 58) C 2 dX0_sortByDueDay_57 rfl rfl rfl ?_
      refine z_iast (pc' := 59) C hf (zc_i (o := 0) n_b10 rfl) (h' := fun v_58 => (zu h b1 [(0, .inl (w.2.2.1 0, 40, .inl v_58))])) (fun _ => zu_put (o := 0) rfl) dX0_sortByDueDay_58 rfl (fun v_58 hf => ?_)
      refine z_iinc (pc' := 62) C 2 [(2, .int (x2 + (1 : Int32))), (0, .ref (zo w + a)), (1, .ref (zo w + b1)), (3, .int x3)] dX0_sortByDueDay_59 rfl zk_iconst_1 rfl rfl rfl ?_
      refine z_goto C 2 dX0_sortByDueDay_62 rfl ?_
      refine z_pick (lv' := [(0, .ref (zo w + a)), (1, .ref (zo w + b1)), (2, .int (x2 + (1 : Int32)))]) [1, 2, 0] rfl ?_
      exact hk2 hf
    · refine z_aload_n (pc' := 23) C 0 dX0_sortByDueDay_22 rfl rfl rfl ?_
      refine z_getf (pc' := 26) C zci_0 zw_189 (j := 5) rfl (zc_f (m := 1) h_a0 (by omega) rfl) rfl rfl dX0_sortByDueDay_23 rfl ?_
      refine z_aload_n (pc' := 27) C 1 dX0_sortByDueDay_26 rfl rfl rfl ?_
      refine z_iload_n (pc' := 28) C 3 dX0_sortByDueDay_27 rfl rfl rfl ?_
      refine z_iconst (pc' := 29) C dX0_sortByDueDay_28 zk_iconst_1 rfl ?_
      refine z_isub (pc' := 30) C dX0_sortByDueDay_29 rfl ?_
      refine z_iald (pc' := 31) C hf (zc_i (o := 0) n_b10 rfl) dX0_sortByDueDay_30 rfl (fun v_30 hf => ?_)
      refine z_iald (pc' := 32) C hf (zc_f (m := 1) h_a5 (by omega) rfl) dX0_sortByDueDay_31 rfl (fun v_31 hf => ?_)
      refine z_aload_n (pc' := 33) C 0 dX0_sortByDueDay_32 rfl rfl rfl ?_
      refine z_getf (pc' := 36) C zci_0 zw_189 (j := 5) rfl (zc_f (m := 1) h_a0 (by omega) rfl) rfl rfl dX0_sortByDueDay_33 rfl ?_
      refine z_iload_n (pc' := 37) C 2 dX0_sortByDueDay_36 rfl rfl rfl ?_
      refine z_iald (pc' := 38) C hf (zc_f (m := 1) h_a5 (by omega) rfl) dX0_sortByDueDay_37 rfl (fun v_37 hf => ?_)
      refine z_icmp_le (pc' := 41) C 55 hf dX0_sortByDueDay_38 rfl rfl (fun g_38 hf => ?_) (fun g_38 hf => ?_)
      · refine z_aload_n (pc' := 56) C 1 dX0_sortByDueDay_55 rfl rfl rfl ?_
        refine z_iload_n (pc' := 57) C 3 dX0_sortByDueDay_56 rfl rfl rfl ?_
        refine z_iload_n (pc' := 58) C 2 dX0_sortByDueDay_57 rfl rfl rfl ?_
        refine z_iast (pc' := 59) C hf (zc_i (o := 0) n_b10 rfl) (h' := fun v_58 => (zu h b1 [(0, .inl (w.2.2.1 0, 40, .inl v_58))])) (fun _ => zu_put (o := 0) rfl) dX0_sortByDueDay_58 rfl (fun v_58 hf => ?_)
        refine z_iinc (pc' := 62) C 2 [(2, .int (x2 + (1 : Int32))), (0, .ref (zo w + a)), (1, .ref (zo w + b1)), (3, .int x3)] dX0_sortByDueDay_59 rfl zk_iconst_1 rfl rfl rfl ?_
        refine z_goto C 2 dX0_sortByDueDay_62 rfl ?_
        refine z_pick (lv' := [(0, .ref (zo w + a)), (1, .ref (zo w + b1)), (2, .int (x2 + (1 : Int32)))]) [1, 2, 0] rfl ?_
        exact hk2 hf
      · refine z_aload_n (pc' := 42) C 1 dX0_sortByDueDay_41 rfl rfl rfl ?_
        refine z_iload_n (pc' := 43) C 3 dX0_sortByDueDay_42 rfl rfl rfl ?_
        refine z_aload_n (pc' := 44) C 1 dX0_sortByDueDay_43 rfl rfl rfl ?_
        refine z_iload_n (pc' := 45) C 3 dX0_sortByDueDay_44 rfl rfl rfl ?_
        refine z_iconst (pc' := 46) C dX0_sortByDueDay_45 zk_iconst_1 rfl ?_
        refine z_isub (pc' := 47) C dX0_sortByDueDay_46 rfl ?_
        refine z_iald (pc' := 48) C hf (zc_i (o := 0) n_b10 rfl) dX0_sortByDueDay_47 rfl (fun v_47 hf => ?_)
        refine z_iast (pc' := 49) C hf (zc_i (o := 0) n_b10 rfl) (h' := fun v_48 => (zu h b1 [(0, .inl (w.2.2.1 0, 40, .inl v_48))])) (fun _ => zu_put (o := 0) rfl) dX0_sortByDueDay_48 rfl (fun v_48 hf => ?_)
        refine z_iinc (pc' := 52) C 3 [(3, .int (x3 + (-1 : Int32))), (0, .ref (zo w + a)), (1, .ref (zo w + b1)), (2, .int x2)] dX0_sortByDueDay_49 rfl zk_iconst_m1 rfl rfl rfl ?_
        refine z_goto C 18 dX0_sortByDueDay_52 rfl ?_
        refine z_pick (lv' := [(0, .ref (zo w + a)), (1, .ref (zo w + b1)), (2, .int x2), (3, .int (x3 + (-1 : Int32)))]) [1, 2, 3, 0] rfl ?_
        exact ih hf
set_option maxRecDepth 20000 in
theorem w_X0_sortByDueDay_2 {X : zC} {w : zV} {N : Nat} {h : zH} {a b1 : Nat} {ce_count : Int32} {ce_due : Nat → Int32} (C : zK X w RX0 cX0_sortByDueDay 4 none (zr 0 0)) (h_a0 : zc N h (a + 0) (.inr (0, [.int ce_count, .ref (zo w + (a + 1)), .ref (zo w + (a + 2)), .ref (zo w + (a + 3)), .ref (zo w + (a + 4)), .ref (zo w + (a + 5))]))) (h_a5 : zc N h (a + 5) (.inl (w.2.2.1 0, 40, .inl ce_due))) (n_b10 : b1 + 0 < N) (far_a : a + 6 ≤ b1 ∨ b1 + 1 ≤ a) {r : (Nat → Int32)} (n : Nat) : ∀ {arr_b1 : Nat → Int32} {x2 : Int32}, f_X0_sortByDueDay_2  n ce_count ce_due arr_b1 x2 = some r → zZ X w (zQ X w (zr 0 0) (none) false N (zu h b1 [(0, .inl (w.2.2.1 0, 40, .inl r))])) 0 0 false N (zu h b1 [(0, .inl (w.2.2.1 0, 40, .inl arr_b1))]) 2 [(0, .ref (zo w + a)), (1, .ref (zo w + b1)), (2, .int x2)] [] := by
  induction n with
  | zero =>
    intro arr_b1 x2 hf
    have hf : (none : Option ((Nat → Int32))) = some r := hf
    cases hf
  | succ z ih =>
    intro arr_b1 x2 hf
    rw [f_X0_sortByDueDay_2] at hf
    refine z_iload_n (pc' := 3) C 2 dX0_sortByDueDay_2 rfl rfl rfl ?_
    refine z_aload_n (pc' := 4) C 0 dX0_sortByDueDay_3 rfl rfl rfl ?_
    refine z_getf (pc' := 7) C zci_0 zw_176 (j := 0) rfl (zc_f (m := 1) h_a0 (by omega) rfl) rfl rfl dX0_sortByDueDay_4 rfl ?_
    refine z_icmp_ge (pc' := 10) C 65 hf dX0_sortByDueDay_7 rfl rfl (fun g_7 hf => ?_) (fun g_7 hf => ?_)
    · cases hf
      exact z_vret C rfl rfl dX0_sortByDueDay_65
    · refine z_iload_n (pc' := 11) C 2 dX0_sortByDueDay_10 rfl rfl rfl ?_
      refine z_aload_n (pc' := 12) C 1 dX0_sortByDueDay_11 rfl rfl rfl ?_
      refine z_alen (pc' := 13) C 0 (zc_i (o := 0) n_b10 rfl) rfl (v := (40 : Int32)) zk_len_40 dX0_sortByDueDay_12 rfl ?_
      refine z_icmp_ge (pc' := 16) C 65 hf dX0_sortByDueDay_13 rfl rfl (fun g_13 hf => ?_) (fun g_13 hf => ?_)
      · cases hf
        exact z_vret C rfl rfl dX0_sortByDueDay_65
      · refine z_iload_n (pc' := 17) C 2 dX0_sortByDueDay_16 rfl rfl rfl ?_
        refine z_istore_n (pc' := 18) C [(3, .int x2), (0, .ref (zo w + a)), (1, .ref (zo w + b1)), (2, .int x2)] dX0_sortByDueDay_17 rfl rfl rfl rfl ?_
        refine z_pick (lv' := [(0, .ref (zo w + a)), (1, .ref (zo w + b1)), (2, .int x2), (3, .int x2)]) [1, 2, 3, 0] rfl ?_
        exact w_X0_sortByDueDay_18 C h_a0 h_a5 n_b10 far_a (fun hf => ih hf) FU hf
set_option maxRecDepth 20000 in
theorem c_X0_sortByDueDay {w : zV} {N : Nat} {h : zH} {a b1 : Nat} {ce_count : Int32} {ce_due : Nat → Int32} {arr_b1 : Nat → Int32} (h_a0 : zc N h (a + 0) (.inr (0, [.int ce_count, .ref (zo w + (a + 1)), .ref (zo w + (a + 2)), .ref (zo w + (a + 3)), .ref (zo w + (a + 4)), .ref (zo w + (a + 5))]))) (h_a5 : zc N h (a + 5) (.inl (w.2.2.1 0, 40, .inl ce_due))) (h_b10 : zc N h (b1 + 0) (.inl (w.2.2.1 0, 40, .inl arr_b1))) (far_a : a + 6 ≤ b1 ∨ b1 + 1 ≤ a) {r : (Nat → Int32)} (hf : f_X0_sortByDueDay ce_count ce_due arr_b1 = some r) : zM w yX0_sortByDueDay cX0_sortByDueDay 4 none (zr 0 0) false N N h [.ref (zo w + a), .ref (zo w + b1)] (none) (zu h b1 [(0, .inl (w.2.2.1 0, 40, .inl r))]) := by
  unfold f_X0_sortByDueDay at hf
  refine zM_of (by decide) rfl (fun X C _ => ?_)
  refine z_eq (h' := (zu h b1 [(0, .inl (w.2.2.1 0, 40, .inl arr_b1))])) (zu_s h_b10 zu_0).symm ?_
  have n_b10 := h_b10.1
  refine z_pick (lv' := [(0, .ref (zo w + a)), (1, .ref (zo w + b1))]) [0, 1] rfl ?_
  refine z_iconst (pc' := 1) C dX0_sortByDueDay_0 zk_iconst_0 rfl ?_
  refine z_istore_n (pc' := 2) C [(2, .int (0 : Int32)), (0, .ref (zo w + a)), (1, .ref (zo w + b1))] dX0_sortByDueDay_1 rfl rfl rfl rfl ?_
  refine z_pick (lv' := [(0, .ref (zo w + a)), (1, .ref (zo w + b1)), (2, .int (0 : Int32))]) [1, 2, 0] rfl ?_
  exact w_X0_sortByDueDay_2 C h_a0 h_a5 n_b10 far_a  FU hf
set_option maxRecDepth 20000 in
theorem c_X1_add {w : zV} {N : Nat} {h : zH} {a : Nat} {co_count : Int32} {co_parent : Nat → Int32} {co_retentionPercent : Nat → Int32} {co_limitPercent : Nat → Int32} {co_paymentDays : Nat → Int32} {co_rank : Nat → Int32} {co_linked : Nat → Int32} {co_stage : Nat → Int32} {p1 : Int32} {p2 : Int32} {p3 : Int32} {p4 : Int32} {p5 : Int32} {p6 : Int32} (h_a0 : zc N h (a + 0) (.inr (1, [.int co_count, .ref (zo w + (a + 1)), .ref (zo w + (a + 2)), .ref (zo w + (a + 3)), .ref (zo w + (a + 4)), .ref (zo w + (a + 5)), .ref (zo w + (a + 6)), .ref (zo w + (a + 7))]))) (h_a1 : zc N h (a + 1) (.inl (w.2.2.1 0, 8, .inl co_parent))) (h_a2 : zc N h (a + 2) (.inl (w.2.2.1 0, 8, .inl co_retentionPercent))) (h_a3 : zc N h (a + 3) (.inl (w.2.2.1 0, 8, .inl co_limitPercent))) (h_a4 : zc N h (a + 4) (.inl (w.2.2.1 0, 8, .inl co_paymentDays))) (h_a5 : zc N h (a + 5) (.inl (w.2.2.1 0, 8, .inl co_rank))) (h_a6 : zc N h (a + 6) (.inl (w.2.2.1 3, 8, .inl co_linked))) (h_a7 : zc N h (a + 7) (.inl (w.2.2.1 0, 8, .inl co_stage))) {r : Int32 × (Nat → Int32) × (Nat → Int32) × (Nat → Int32) × (Nat → Int32) × (Nat → Int32) × (Nat → Int32) × (Nat → Int32)} (hf : f_X1_add co_count co_parent co_retentionPercent co_limitPercent co_paymentDays co_rank co_linked co_stage p1 p2 p3 p4 p5 p6 = some r) : zM w yX1_add cX1_add 7 none (zr 0 0) false N N h [.ref (zo w + a), .int p1, .int p2, .int p3, .int p4, .int p5, .int p6] (none) (zu h a [(0, .inr (1, [.int r.1, .ref (zo w + (a + 1)), .ref (zo w + (a + 2)), .ref (zo w + (a + 3)), .ref (zo w + (a + 4)), .ref (zo w + (a + 5)), .ref (zo w + (a + 6)), .ref (zo w + (a + 7))])), (1, .inl (w.2.2.1 0, 8, .inl r.2.1)), (2, .inl (w.2.2.1 0, 8, .inl r.2.2.1)), (3, .inl (w.2.2.1 0, 8, .inl r.2.2.2.1)), (4, .inl (w.2.2.1 0, 8, .inl r.2.2.2.2.1)), (5, .inl (w.2.2.1 0, 8, .inl r.2.2.2.2.2.1)), (6, .inl (w.2.2.1 3, 8, .inl r.2.2.2.2.2.2.1)), (7, .inl (w.2.2.1 0, 8, .inl r.2.2.2.2.2.2.2))]) := by
  unfold f_X1_add at hf
  refine zM_of (by decide) rfl (fun X C _ => ?_)
  refine z_eq (h' := (zu h a [(0, .inr (1, [.int co_count, .ref (zo w + (a + 1)), .ref (zo w + (a + 2)), .ref (zo w + (a + 3)), .ref (zo w + (a + 4)), .ref (zo w + (a + 5)), .ref (zo w + (a + 6)), .ref (zo w + (a + 7))])), (1, .inl (w.2.2.1 0, 8, .inl co_parent)), (2, .inl (w.2.2.1 0, 8, .inl co_retentionPercent)), (3, .inl (w.2.2.1 0, 8, .inl co_limitPercent)), (4, .inl (w.2.2.1 0, 8, .inl co_paymentDays)), (5, .inl (w.2.2.1 0, 8, .inl co_rank)), (6, .inl (w.2.2.1 3, 8, .inl co_linked)), (7, .inl (w.2.2.1 0, 8, .inl co_stage))])) (zu_s h_a0 (zu_s h_a1 (zu_s h_a2 (zu_s h_a3 (zu_s h_a4 (zu_s h_a5 (zu_s h_a6 (zu_s h_a7 zu_0)))))))).symm ?_
  have n_a0 := h_a0.1
  have n_a1 := h_a1.1
  have n_a2 := h_a2.1
  have n_a3 := h_a3.1
  have n_a4 := h_a4.1
  have n_a5 := h_a5.1
  have n_a6 := h_a6.1
  have n_a7 := h_a7.1
  refine z_pick (lv' := [(0, .ref (zo w + a)), (1, .int p1), (2, .int p2), (3, .int p3), (4, .int p4), (5, .int p5), (6, .int p6)]) [0, 1, 2, 3, 4, 5, 6] rfl ?_
  refine z_aload_n (pc' := 1) C 0 dX1_add_0 rfl rfl rfl ?_
  refine z_getf (pc' := 4) C zci_1 zw_49 (j := 0) rfl (zc_i (o := 0) n_a0 rfl) rfl rfl dX1_add_1 rfl ?_
  refine z_bipush (pc' := 6) C dX1_add_4 zk_bipush_8 rfl ?_
  refine z_icmp_lt (pc' := 9) C 10 hf dX1_add_6 rfl rfl (fun g_6 hf => ?_) (fun g_6 hf => ?_)
  · refine z_aload_n (pc' := 11) C 0 dX1_add_10 rfl rfl rfl ?_
    refine z_getf (pc' := 14) C zci_1 zw_53 (j := 1) rfl (zc_i (o := 0) n_a0 rfl) rfl rfl dX1_add_11 rfl ?_
    refine z_aload_n (pc' := 15) C 0 dX1_add_14 rfl rfl rfl ?_
    refine z_getf (pc' := 18) C zci_1 zw_49 (j := 0) rfl (zc_i (o := 0) n_a0 rfl) rfl rfl dX1_add_15 rfl ?_
    refine z_iload_n (pc' := 19) C 1 dX1_add_18 rfl rfl rfl ?_
    refine z_iast (pc' := 20) C hf (zc_i (o := 1) n_a1 rfl) (h' := fun v_19 => (zu h a [(0, .inr (1, [.int co_count, .ref (zo w + (a + 1)), .ref (zo w + (a + 2)), .ref (zo w + (a + 3)), .ref (zo w + (a + 4)), .ref (zo w + (a + 5)), .ref (zo w + (a + 6)), .ref (zo w + (a + 7))])), (1, .inl (w.2.2.1 0, 8, .inl v_19)), (2, .inl (w.2.2.1 0, 8, .inl co_retentionPercent)), (3, .inl (w.2.2.1 0, 8, .inl co_limitPercent)), (4, .inl (w.2.2.1 0, 8, .inl co_paymentDays)), (5, .inl (w.2.2.1 0, 8, .inl co_rank)), (6, .inl (w.2.2.1 3, 8, .inl co_linked)), (7, .inl (w.2.2.1 0, 8, .inl co_stage))])) (fun _ => zu_put (o := 1) rfl) dX1_add_19 rfl (fun v_19 hf => ?_)
    refine z_aload_n (pc' := 21) C 0 dX1_add_20 rfl rfl rfl ?_
    refine z_getf (pc' := 24) C zci_1 zw_56 (j := 2) rfl (zc_i (o := 0) n_a0 rfl) rfl rfl dX1_add_21 rfl ?_
    refine z_aload_n (pc' := 25) C 0 dX1_add_24 rfl rfl rfl ?_
    refine z_getf (pc' := 28) C zci_1 zw_49 (j := 0) rfl (zc_i (o := 0) n_a0 rfl) rfl rfl dX1_add_25 rfl ?_
    refine z_iload_n (pc' := 29) C 2 dX1_add_28 rfl rfl rfl ?_
    refine z_iast (pc' := 30) C hf (zc_i (o := 2) n_a2 rfl) (h' := fun v_29 => (zu h a [(0, .inr (1, [.int co_count, .ref (zo w + (a + 1)), .ref (zo w + (a + 2)), .ref (zo w + (a + 3)), .ref (zo w + (a + 4)), .ref (zo w + (a + 5)), .ref (zo w + (a + 6)), .ref (zo w + (a + 7))])), (1, .inl (w.2.2.1 0, 8, .inl v_19)), (2, .inl (w.2.2.1 0, 8, .inl v_29)), (3, .inl (w.2.2.1 0, 8, .inl co_limitPercent)), (4, .inl (w.2.2.1 0, 8, .inl co_paymentDays)), (5, .inl (w.2.2.1 0, 8, .inl co_rank)), (6, .inl (w.2.2.1 3, 8, .inl co_linked)), (7, .inl (w.2.2.1 0, 8, .inl co_stage))])) (fun _ => zu_put (o := 2) rfl) dX1_add_29 rfl (fun v_29 hf => ?_)
    refine z_aload_n (pc' := 31) C 0 dX1_add_30 rfl rfl rfl ?_
    refine z_getf (pc' := 34) C zci_1 zw_58 (j := 3) rfl (zc_i (o := 0) n_a0 rfl) rfl rfl dX1_add_31 rfl ?_
    refine z_aload_n (pc' := 35) C 0 dX1_add_34 rfl rfl rfl ?_
    refine z_getf (pc' := 38) C zci_1 zw_49 (j := 0) rfl (zc_i (o := 0) n_a0 rfl) rfl rfl dX1_add_35 rfl ?_
    refine z_iload_n (pc' := 39) C 3 dX1_add_38 rfl rfl rfl ?_
    refine z_iast (pc' := 40) C hf (zc_i (o := 3) n_a3 rfl) (h' := fun v_39 => (zu h a [(0, .inr (1, [.int co_count, .ref (zo w + (a + 1)), .ref (zo w + (a + 2)), .ref (zo w + (a + 3)), .ref (zo w + (a + 4)), .ref (zo w + (a + 5)), .ref (zo w + (a + 6)), .ref (zo w + (a + 7))])), (1, .inl (w.2.2.1 0, 8, .inl v_19)), (2, .inl (w.2.2.1 0, 8, .inl v_29)), (3, .inl (w.2.2.1 0, 8, .inl v_39)), (4, .inl (w.2.2.1 0, 8, .inl co_paymentDays)), (5, .inl (w.2.2.1 0, 8, .inl co_rank)), (6, .inl (w.2.2.1 3, 8, .inl co_linked)), (7, .inl (w.2.2.1 0, 8, .inl co_stage))])) (fun _ => zu_put (o := 3) rfl) dX1_add_39 rfl (fun v_39 hf => ?_)
    refine z_aload_n (pc' := 41) C 0 dX1_add_40 rfl rfl rfl ?_
    refine z_getf (pc' := 44) C zci_1 zw_60 (j := 4) rfl (zc_i (o := 0) n_a0 rfl) rfl rfl dX1_add_41 rfl ?_
    refine z_aload_n (pc' := 45) C 0 dX1_add_44 rfl rfl rfl ?_
    refine z_getf (pc' := 48) C zci_1 zw_49 (j := 0) rfl (zc_i (o := 0) n_a0 rfl) rfl rfl dX1_add_45 rfl ?_
    refine z_iload (pc' := 50) C 4 dX1_add_48 rfl rfl ?_
    refine z_iast (pc' := 51) C hf (zc_i (o := 4) n_a4 rfl) (h' := fun v_50 => (zu h a [(0, .inr (1, [.int co_count, .ref (zo w + (a + 1)), .ref (zo w + (a + 2)), .ref (zo w + (a + 3)), .ref (zo w + (a + 4)), .ref (zo w + (a + 5)), .ref (zo w + (a + 6)), .ref (zo w + (a + 7))])), (1, .inl (w.2.2.1 0, 8, .inl v_19)), (2, .inl (w.2.2.1 0, 8, .inl v_29)), (3, .inl (w.2.2.1 0, 8, .inl v_39)), (4, .inl (w.2.2.1 0, 8, .inl v_50)), (5, .inl (w.2.2.1 0, 8, .inl co_rank)), (6, .inl (w.2.2.1 3, 8, .inl co_linked)), (7, .inl (w.2.2.1 0, 8, .inl co_stage))])) (fun _ => zu_put (o := 4) rfl) dX1_add_50 rfl (fun v_50 hf => ?_)
    refine z_aload_n (pc' := 52) C 0 dX1_add_51 rfl rfl rfl ?_
    refine z_getf (pc' := 55) C zci_1 zw_62 (j := 5) rfl (zc_i (o := 0) n_a0 rfl) rfl rfl dX1_add_52 rfl ?_
    refine z_aload_n (pc' := 56) C 0 dX1_add_55 rfl rfl rfl ?_
    refine z_getf (pc' := 59) C zci_1 zw_49 (j := 0) rfl (zc_i (o := 0) n_a0 rfl) rfl rfl dX1_add_56 rfl ?_
    refine z_iload (pc' := 61) C 5 dX1_add_59 rfl rfl ?_
    refine z_iast (pc' := 62) C hf (zc_i (o := 5) n_a5 rfl) (h' := fun v_61 => (zu h a [(0, .inr (1, [.int co_count, .ref (zo w + (a + 1)), .ref (zo w + (a + 2)), .ref (zo w + (a + 3)), .ref (zo w + (a + 4)), .ref (zo w + (a + 5)), .ref (zo w + (a + 6)), .ref (zo w + (a + 7))])), (1, .inl (w.2.2.1 0, 8, .inl v_19)), (2, .inl (w.2.2.1 0, 8, .inl v_29)), (3, .inl (w.2.2.1 0, 8, .inl v_39)), (4, .inl (w.2.2.1 0, 8, .inl v_50)), (5, .inl (w.2.2.1 0, 8, .inl v_61)), (6, .inl (w.2.2.1 3, 8, .inl co_linked)), (7, .inl (w.2.2.1 0, 8, .inl co_stage))])) (fun _ => zu_put (o := 5) rfl) dX1_add_61 rfl (fun v_61 hf => ?_)
    refine z_aload_n (pc' := 63) C 0 dX1_add_62 rfl rfl rfl ?_
    refine z_getf (pc' := 66) C zci_1 zw_64 (j := 6) rfl (zc_i (o := 0) n_a0 rfl) rfl rfl dX1_add_63 rfl ?_
    refine z_aload_n (pc' := 67) C 0 dX1_add_66 rfl rfl rfl ?_
    refine z_getf (pc' := 70) C zci_1 zw_49 (j := 0) rfl (zc_i (o := 0) n_a0 rfl) rfl rfl dX1_add_67 rfl ?_
    refine z_iload (pc' := 72) C 6 dX1_add_70 rfl rfl ?_
    refine z_zast (pc' := 73) C hf (zc_i (o := 6) n_a6 rfl) (h' := fun v_72 => (zu h a [(0, .inr (1, [.int co_count, .ref (zo w + (a + 1)), .ref (zo w + (a + 2)), .ref (zo w + (a + 3)), .ref (zo w + (a + 4)), .ref (zo w + (a + 5)), .ref (zo w + (a + 6)), .ref (zo w + (a + 7))])), (1, .inl (w.2.2.1 0, 8, .inl v_19)), (2, .inl (w.2.2.1 0, 8, .inl v_29)), (3, .inl (w.2.2.1 0, 8, .inl v_39)), (4, .inl (w.2.2.1 0, 8, .inl v_50)), (5, .inl (w.2.2.1 0, 8, .inl v_61)), (6, .inl (w.2.2.1 3, 8, .inl v_72)), (7, .inl (w.2.2.1 0, 8, .inl co_stage))])) (fun _ => zu_put (o := 6) rfl) dX1_add_72 rfl (fun v_72 hf => ?_)
    refine z_aload_n (pc' := 74) C 0 dX1_add_73 rfl rfl rfl ?_
    refine z_getf (pc' := 77) C zci_1 zw_66 (j := 7) rfl (zc_i (o := 0) n_a0 rfl) rfl rfl dX1_add_74 rfl ?_
    refine z_aload_n (pc' := 78) C 0 dX1_add_77 rfl rfl rfl ?_
    refine z_getf (pc' := 81) C zci_1 zw_49 (j := 0) rfl (zc_i (o := 0) n_a0 rfl) rfl rfl dX1_add_78 rfl ?_
    refine z_iconst (pc' := 82) C dX1_add_81 zk_iconst_0 rfl ?_
    refine z_iast (pc' := 83) C hf (zc_i (o := 7) n_a7 rfl) (h' := fun v_82 => (zu h a [(0, .inr (1, [.int co_count, .ref (zo w + (a + 1)), .ref (zo w + (a + 2)), .ref (zo w + (a + 3)), .ref (zo w + (a + 4)), .ref (zo w + (a + 5)), .ref (zo w + (a + 6)), .ref (zo w + (a + 7))])), (1, .inl (w.2.2.1 0, 8, .inl v_19)), (2, .inl (w.2.2.1 0, 8, .inl v_29)), (3, .inl (w.2.2.1 0, 8, .inl v_39)), (4, .inl (w.2.2.1 0, 8, .inl v_50)), (5, .inl (w.2.2.1 0, 8, .inl v_61)), (6, .inl (w.2.2.1 3, 8, .inl v_72)), (7, .inl (w.2.2.1 0, 8, .inl v_82))])) (fun _ => zu_put (o := 7) rfl) dX1_add_82 rfl (fun v_82 hf => ?_)
    refine z_aload_n (pc' := 84) C 0 dX1_add_83 rfl rfl rfl ?_
    refine z_dup (pc' := 85) C dX1_add_84 rfl rfl ?_
    refine z_getf (pc' := 88) C zci_1 zw_49 (j := 0) rfl (zc_i (o := 0) n_a0 rfl) rfl rfl dX1_add_85 rfl ?_
    refine z_iconst (pc' := 89) C dX1_add_88 zk_iconst_1 rfl ?_
    refine z_iadd (pc' := 90) C dX1_add_89 rfl ?_
    refine z_putf (pc' := 93) C zci_1 zw_49 (j := 0) rfl (zc_i (o := 0) n_a0 rfl) (fs' := [.int (co_count + (1 : Int32)), .ref (zo w + (a + 1)), .ref (zo w + (a + 2)), .ref (zo w + (a + 3)), .ref (zo w + (a + 4)), .ref (zo w + (a + 5)), .ref (zo w + (a + 6)), .ref (zo w + (a + 7))]) rfl rfl rfl rfl rfl (zu_put (o := 0) (L' := [(0, .inr (1, [.int (co_count + (1 : Int32)), .ref (zo w + (a + 1)), .ref (zo w + (a + 2)), .ref (zo w + (a + 3)), .ref (zo w + (a + 4)), .ref (zo w + (a + 5)), .ref (zo w + (a + 6)), .ref (zo w + (a + 7))])), (1, .inl (w.2.2.1 0, 8, .inl v_19)), (2, .inl (w.2.2.1 0, 8, .inl v_29)), (3, .inl (w.2.2.1 0, 8, .inl v_39)), (4, .inl (w.2.2.1 0, 8, .inl v_50)), (5, .inl (w.2.2.1 0, 8, .inl v_61)), (6, .inl (w.2.2.1 3, 8, .inl v_72)), (7, .inl (w.2.2.1 0, 8, .inl v_82))]) rfl) dX1_add_90 rfl ?_
    cases hf
    exact z_vret C rfl rfl dX1_add_93
  · cases hf
    exact z_vret C rfl rfl dX1_add_9
set_option maxRecDepth 20000 in
theorem w_X1_copyFrom_95 {X : zC} {w : zV} {N : Nat} {h : zH} {a b1 : Nat} {co_count_b1 : Int32} {co_parent_b1 : Nat → Int32} {co_retentionPercent_b1 : Nat → Int32} {co_limitPercent_b1 : Nat → Int32} {co_paymentDays_b1 : Nat → Int32} {co_rank_b1 : Nat → Int32} {co_linked_b1 : Nat → Int32} {co_stage_b1 : Nat → Int32} (C : zK X w RX1 cX1_copyFrom 3 none (zr 1 40)) (n_a0 : a + 0 < N) (n_a1 : a + 1 < N) (n_a2 : a + 2 < N) (n_a3 : a + 3 < N) (n_a4 : a + 4 < N) (n_a5 : a + 5 < N) (n_a6 : a + 6 < N) (n_a7 : a + 7 < N) (h_b10 : zc N h (b1 + 0) (.inr (1, [.int co_count_b1, .ref (zo w + (b1 + 1)), .ref (zo w + (b1 + 2)), .ref (zo w + (b1 + 3)), .ref (zo w + (b1 + 4)), .ref (zo w + (b1 + 5)), .ref (zo w + (b1 + 6)), .ref (zo w + (b1 + 7))]))) (h_b11 : zc N h (b1 + 1) (.inl (w.2.2.1 0, 8, .inl co_parent_b1))) (h_b12 : zc N h (b1 + 2) (.inl (w.2.2.1 0, 8, .inl co_retentionPercent_b1))) (h_b13 : zc N h (b1 + 3) (.inl (w.2.2.1 0, 8, .inl co_limitPercent_b1))) (h_b14 : zc N h (b1 + 4) (.inl (w.2.2.1 0, 8, .inl co_paymentDays_b1))) (h_b15 : zc N h (b1 + 5) (.inl (w.2.2.1 0, 8, .inl co_rank_b1))) (h_b16 : zc N h (b1 + 6) (.inl (w.2.2.1 3, 8, .inl co_linked_b1))) (h_b17 : zc N h (b1 + 7) (.inl (w.2.2.1 0, 8, .inl co_stage_b1))) (far_b1 : b1 + 8 ≤ a ∨ a + 8 ≤ b1) {r : Int32 × (Nat → Int32) × (Nat → Int32) × (Nat → Int32) × (Nat → Int32) × (Nat → Int32) × (Nat → Int32) × (Nat → Int32)} (n : Nat) : ∀ {co_count : Int32} {co_parent : Nat → Int32} {co_retentionPercent : Nat → Int32} {co_limitPercent : Nat → Int32} {co_paymentDays : Nat → Int32} {co_rank : Nat → Int32} {co_linked : Nat → Int32} {co_stage : Nat → Int32} {x2 : Int32}, f_X1_copyFrom_95  n co_count co_parent co_retentionPercent co_limitPercent co_paymentDays co_rank co_linked co_stage co_linked_b1 co_stage_b1 x2 = some r → zZ X w (zQ X w (zr 1 40) (none) false N (zu h a [(0, .inr (1, [.int r.1, .ref (zo w + (a + 1)), .ref (zo w + (a + 2)), .ref (zo w + (a + 3)), .ref (zo w + (a + 4)), .ref (zo w + (a + 5)), .ref (zo w + (a + 6)), .ref (zo w + (a + 7))])), (1, .inl (w.2.2.1 0, 8, .inl r.2.1)), (2, .inl (w.2.2.1 0, 8, .inl r.2.2.1)), (3, .inl (w.2.2.1 0, 8, .inl r.2.2.2.1)), (4, .inl (w.2.2.1 0, 8, .inl r.2.2.2.2.1)), (5, .inl (w.2.2.1 0, 8, .inl r.2.2.2.2.2.1)), (6, .inl (w.2.2.1 3, 8, .inl r.2.2.2.2.2.2.1)), (7, .inl (w.2.2.1 0, 8, .inl r.2.2.2.2.2.2.2))])) 0 0 false N (zu h a [(0, .inr (1, [.int co_count, .ref (zo w + (a + 1)), .ref (zo w + (a + 2)), .ref (zo w + (a + 3)), .ref (zo w + (a + 4)), .ref (zo w + (a + 5)), .ref (zo w + (a + 6)), .ref (zo w + (a + 7))])), (1, .inl (w.2.2.1 0, 8, .inl co_parent)), (2, .inl (w.2.2.1 0, 8, .inl co_retentionPercent)), (3, .inl (w.2.2.1 0, 8, .inl co_limitPercent)), (4, .inl (w.2.2.1 0, 8, .inl co_paymentDays)), (5, .inl (w.2.2.1 0, 8, .inl co_rank)), (6, .inl (w.2.2.1 3, 8, .inl co_linked)), (7, .inl (w.2.2.1 0, 8, .inl co_stage))]) 95 [(0, .ref (zo w + a)), (1, .ref (zo w + b1)), (2, .int x2)] [] := by
  induction n with
  | zero =>
    intro co_count co_parent co_retentionPercent co_limitPercent co_paymentDays co_rank co_linked co_stage x2 hf
    have hf : (none : Option (Int32 × (Nat → Int32) × (Nat → Int32) × (Nat → Int32) × (Nat → Int32) × (Nat → Int32) × (Nat → Int32) × (Nat → Int32))) = some r := hf
    cases hf
  | succ z ih =>
    intro co_count co_parent co_retentionPercent co_limitPercent co_paymentDays co_rank co_linked co_stage x2 hf
    rw [f_X1_copyFrom_95] at hf
    refine z_iload_n (pc' := 96) C 2 dX1_copyFrom_95 rfl rfl rfl ?_
    refine z_aload_n (pc' := 97) C 0 dX1_copyFrom_96 rfl rfl rfl ?_
    refine z_getf (pc' := 100) C zci_1 zw_49 (j := 0) rfl (zc_i (o := 0) n_a0 rfl) rfl rfl dX1_copyFrom_97 rfl ?_
    refine z_icmp_ge (pc' := 103) C 121 hf dX1_copyFrom_100 rfl rfl (fun g_100 hf => ?_) (fun g_100 hf => ?_)
    · refine z_aload_n (pc' := 122) C 1 dX1_copyFrom_121 rfl rfl rfl ?_
      refine z_getf (pc' := 125) C zci_1 zw_66 (j := 7) rfl (zc_f (m := 8) h_b10 (by omega) rfl) rfl rfl dX1_copyFrom_122 rfl ?_
      refine z_iconst (pc' := 126) C dX1_copyFrom_125 zk_iconst_0 rfl ?_
      refine z_aload_n (pc' := 127) C 0 dX1_copyFrom_126 rfl rfl rfl ?_
      refine z_getf (pc' := 130) C zci_1 zw_66 (j := 7) rfl (zc_i (o := 0) n_a0 rfl) rfl rfl dX1_copyFrom_127 rfl ?_
      refine z_iconst (pc' := 131) C dX1_copyFrom_130 zk_iconst_0 rfl ?_
      refine z_aload_n (pc' := 132) C 0 dX1_copyFrom_131 rfl rfl rfl ?_
      refine z_getf (pc' := 135) C zci_1 zw_49 (j := 0) rfl (zc_i (o := 0) n_a0 rfl) rfl rfl dX1_copyFrom_132 rfl ?_
      refine z_cpi (pc' := 138) C hf (zc_f (m := 8) h_b17 (by omega) rfl) (zc_i (o := 7) n_a7 rfl) (h' := fun v_135 => (zu h a [(0, .inr (1, [.int co_count, .ref (zo w + (a + 1)), .ref (zo w + (a + 2)), .ref (zo w + (a + 3)), .ref (zo w + (a + 4)), .ref (zo w + (a + 5)), .ref (zo w + (a + 6)), .ref (zo w + (a + 7))])), (1, .inl (w.2.2.1 0, 8, .inl co_parent)), (2, .inl (w.2.2.1 0, 8, .inl co_retentionPercent)), (3, .inl (w.2.2.1 0, 8, .inl co_limitPercent)), (4, .inl (w.2.2.1 0, 8, .inl co_paymentDays)), (5, .inl (w.2.2.1 0, 8, .inl co_rank)), (6, .inl (w.2.2.1 3, 8, .inl co_linked)), (7, .inl (w.2.2.1 0, 8, .inl v_135))])) (fun _ => zu_put (o := 7) rfl) zw_678 rfl rfl dX1_copyFrom_135 rfl (fun v_135 hf => ?_)
      cases hf
      exact z_vret C rfl rfl dX1_copyFrom_138
    · refine z_aload_n (pc' := 104) C 0 dX1_copyFrom_103 rfl rfl rfl ?_
      refine z_getf (pc' := 107) C zci_1 zw_64 (j := 6) rfl (zc_i (o := 0) n_a0 rfl) rfl rfl dX1_copyFrom_104 rfl ?_
      refine z_iload_n (pc' := 108) C 2 dX1_copyFrom_107 rfl rfl rfl ?_
      refine z_aload_n (pc' := 109) C 1 dX1_copyFrom_108 rfl rfl rfl ?_
      refine z_getf (pc' := 112) C zci_1 zw_64 (j := 6) rfl (zc_f (m := 8) h_b10 (by omega) rfl) rfl rfl dX1_copyFrom_109 rfl ?_
      refine z_iload_n (pc' := 113) C 2 dX1_copyFrom_112 rfl rfl rfl ?_
      refine z_zald (pc' := 114) C hf (zc_f (m := 8) h_b16 (by omega) rfl) dX1_copyFrom_113 rfl (fun v_113 hf => ?_)
      refine z_zast (pc' := 115) C hf (zc_i (o := 6) n_a6 rfl) (h' := fun v_114 => (zu h a [(0, .inr (1, [.int co_count, .ref (zo w + (a + 1)), .ref (zo w + (a + 2)), .ref (zo w + (a + 3)), .ref (zo w + (a + 4)), .ref (zo w + (a + 5)), .ref (zo w + (a + 6)), .ref (zo w + (a + 7))])), (1, .inl (w.2.2.1 0, 8, .inl co_parent)), (2, .inl (w.2.2.1 0, 8, .inl co_retentionPercent)), (3, .inl (w.2.2.1 0, 8, .inl co_limitPercent)), (4, .inl (w.2.2.1 0, 8, .inl co_paymentDays)), (5, .inl (w.2.2.1 0, 8, .inl co_rank)), (6, .inl (w.2.2.1 3, 8, .inl v_114)), (7, .inl (w.2.2.1 0, 8, .inl co_stage))])) (fun _ => zu_put (o := 6) rfl) dX1_copyFrom_114 rfl (fun v_114 hf => ?_)
      refine z_iinc (pc' := 118) C 2 [(2, .int (x2 + (1 : Int32))), (0, .ref (zo w + a)), (1, .ref (zo w + b1))] dX1_copyFrom_115 rfl zk_iconst_1 rfl rfl rfl ?_
      refine z_goto C 95 dX1_copyFrom_118 rfl ?_
      refine z_pick (lv' := [(0, .ref (zo w + a)), (1, .ref (zo w + b1)), (2, .int (x2 + (1 : Int32)))]) [1, 2, 0] rfl ?_
      exact ih hf
set_option maxRecDepth 20000 in
theorem c_X1_copyFrom {w : zV} {N : Nat} {h : zH} {a b1 : Nat} {co_count : Int32} {co_parent : Nat → Int32} {co_retentionPercent : Nat → Int32} {co_limitPercent : Nat → Int32} {co_paymentDays : Nat → Int32} {co_rank : Nat → Int32} {co_linked : Nat → Int32} {co_stage : Nat → Int32} {co_count_b1 : Int32} {co_parent_b1 : Nat → Int32} {co_retentionPercent_b1 : Nat → Int32} {co_limitPercent_b1 : Nat → Int32} {co_paymentDays_b1 : Nat → Int32} {co_rank_b1 : Nat → Int32} {co_linked_b1 : Nat → Int32} {co_stage_b1 : Nat → Int32} (h_a0 : zc N h (a + 0) (.inr (1, [.int co_count, .ref (zo w + (a + 1)), .ref (zo w + (a + 2)), .ref (zo w + (a + 3)), .ref (zo w + (a + 4)), .ref (zo w + (a + 5)), .ref (zo w + (a + 6)), .ref (zo w + (a + 7))]))) (h_a1 : zc N h (a + 1) (.inl (w.2.2.1 0, 8, .inl co_parent))) (h_a2 : zc N h (a + 2) (.inl (w.2.2.1 0, 8, .inl co_retentionPercent))) (h_a3 : zc N h (a + 3) (.inl (w.2.2.1 0, 8, .inl co_limitPercent))) (h_a4 : zc N h (a + 4) (.inl (w.2.2.1 0, 8, .inl co_paymentDays))) (h_a5 : zc N h (a + 5) (.inl (w.2.2.1 0, 8, .inl co_rank))) (h_a6 : zc N h (a + 6) (.inl (w.2.2.1 3, 8, .inl co_linked))) (h_a7 : zc N h (a + 7) (.inl (w.2.2.1 0, 8, .inl co_stage))) (h_b10 : zc N h (b1 + 0) (.inr (1, [.int co_count_b1, .ref (zo w + (b1 + 1)), .ref (zo w + (b1 + 2)), .ref (zo w + (b1 + 3)), .ref (zo w + (b1 + 4)), .ref (zo w + (b1 + 5)), .ref (zo w + (b1 + 6)), .ref (zo w + (b1 + 7))]))) (h_b11 : zc N h (b1 + 1) (.inl (w.2.2.1 0, 8, .inl co_parent_b1))) (h_b12 : zc N h (b1 + 2) (.inl (w.2.2.1 0, 8, .inl co_retentionPercent_b1))) (h_b13 : zc N h (b1 + 3) (.inl (w.2.2.1 0, 8, .inl co_limitPercent_b1))) (h_b14 : zc N h (b1 + 4) (.inl (w.2.2.1 0, 8, .inl co_paymentDays_b1))) (h_b15 : zc N h (b1 + 5) (.inl (w.2.2.1 0, 8, .inl co_rank_b1))) (h_b16 : zc N h (b1 + 6) (.inl (w.2.2.1 3, 8, .inl co_linked_b1))) (h_b17 : zc N h (b1 + 7) (.inl (w.2.2.1 0, 8, .inl co_stage_b1))) (far_b1 : b1 + 8 ≤ a ∨ a + 8 ≤ b1) {r : Int32 × (Nat → Int32) × (Nat → Int32) × (Nat → Int32) × (Nat → Int32) × (Nat → Int32) × (Nat → Int32) × (Nat → Int32)} (hf : f_X1_copyFrom co_count co_parent co_retentionPercent co_limitPercent co_paymentDays co_rank co_linked co_stage co_count_b1 co_parent_b1 co_retentionPercent_b1 co_limitPercent_b1 co_paymentDays_b1 co_rank_b1 co_linked_b1 co_stage_b1 = some r) : zM w yX1_copyFrom cX1_copyFrom 3 none (zr 1 40) false N N h [.ref (zo w + a), .ref (zo w + b1)] (none) (zu h a [(0, .inr (1, [.int r.1, .ref (zo w + (a + 1)), .ref (zo w + (a + 2)), .ref (zo w + (a + 3)), .ref (zo w + (a + 4)), .ref (zo w + (a + 5)), .ref (zo w + (a + 6)), .ref (zo w + (a + 7))])), (1, .inl (w.2.2.1 0, 8, .inl r.2.1)), (2, .inl (w.2.2.1 0, 8, .inl r.2.2.1)), (3, .inl (w.2.2.1 0, 8, .inl r.2.2.2.1)), (4, .inl (w.2.2.1 0, 8, .inl r.2.2.2.2.1)), (5, .inl (w.2.2.1 0, 8, .inl r.2.2.2.2.2.1)), (6, .inl (w.2.2.1 3, 8, .inl r.2.2.2.2.2.2.1)), (7, .inl (w.2.2.1 0, 8, .inl r.2.2.2.2.2.2.2))]) := by
  unfold f_X1_copyFrom at hf
  refine zM_of (by decide) rfl (fun X C _ => ?_)
  refine z_eq (h' := (zu h a [(0, .inr (1, [.int co_count, .ref (zo w + (a + 1)), .ref (zo w + (a + 2)), .ref (zo w + (a + 3)), .ref (zo w + (a + 4)), .ref (zo w + (a + 5)), .ref (zo w + (a + 6)), .ref (zo w + (a + 7))])), (1, .inl (w.2.2.1 0, 8, .inl co_parent)), (2, .inl (w.2.2.1 0, 8, .inl co_retentionPercent)), (3, .inl (w.2.2.1 0, 8, .inl co_limitPercent)), (4, .inl (w.2.2.1 0, 8, .inl co_paymentDays)), (5, .inl (w.2.2.1 0, 8, .inl co_rank)), (6, .inl (w.2.2.1 3, 8, .inl co_linked)), (7, .inl (w.2.2.1 0, 8, .inl co_stage))])) (zu_s h_a0 (zu_s h_a1 (zu_s h_a2 (zu_s h_a3 (zu_s h_a4 (zu_s h_a5 (zu_s h_a6 (zu_s h_a7 zu_0)))))))).symm ?_
  have n_a0 := h_a0.1
  have n_a1 := h_a1.1
  have n_a2 := h_a2.1
  have n_a3 := h_a3.1
  have n_a4 := h_a4.1
  have n_a5 := h_a5.1
  have n_a6 := h_a6.1
  have n_a7 := h_a7.1
  refine z_pick (lv' := [(0, .ref (zo w + a)), (1, .ref (zo w + b1))]) [0, 1] rfl ?_
  refine z_aload_n (pc' := 1) C 0 dX1_copyFrom_0 rfl rfl rfl ?_
  refine z_aload_n (pc' := 2) C 1 dX1_copyFrom_1 rfl rfl rfl ?_
  refine z_getf (pc' := 5) C zci_1 zw_49 (j := 0) rfl (zc_f (m := 8) h_b10 (by omega) rfl) rfl rfl dX1_copyFrom_2 rfl ?_
  refine z_putf (pc' := 8) C zci_1 zw_49 (j := 0) rfl (zc_i (o := 0) n_a0 rfl) (fs' := [.int co_count_b1, .ref (zo w + (a + 1)), .ref (zo w + (a + 2)), .ref (zo w + (a + 3)), .ref (zo w + (a + 4)), .ref (zo w + (a + 5)), .ref (zo w + (a + 6)), .ref (zo w + (a + 7))]) rfl rfl rfl rfl rfl (zu_put (o := 0) (L' := [(0, .inr (1, [.int co_count_b1, .ref (zo w + (a + 1)), .ref (zo w + (a + 2)), .ref (zo w + (a + 3)), .ref (zo w + (a + 4)), .ref (zo w + (a + 5)), .ref (zo w + (a + 6)), .ref (zo w + (a + 7))])), (1, .inl (w.2.2.1 0, 8, .inl co_parent)), (2, .inl (w.2.2.1 0, 8, .inl co_retentionPercent)), (3, .inl (w.2.2.1 0, 8, .inl co_limitPercent)), (4, .inl (w.2.2.1 0, 8, .inl co_paymentDays)), (5, .inl (w.2.2.1 0, 8, .inl co_rank)), (6, .inl (w.2.2.1 3, 8, .inl co_linked)), (7, .inl (w.2.2.1 0, 8, .inl co_stage))]) rfl) dX1_copyFrom_5 rfl ?_
  refine z_aload_n (pc' := 9) C 1 dX1_copyFrom_8 rfl rfl rfl ?_
  refine z_getf (pc' := 12) C zci_1 zw_53 (j := 1) rfl (zc_f (m := 8) h_b10 (by omega) rfl) rfl rfl dX1_copyFrom_9 rfl ?_
  refine z_iconst (pc' := 13) C dX1_copyFrom_12 zk_iconst_0 rfl ?_
  refine z_aload_n (pc' := 14) C 0 dX1_copyFrom_13 rfl rfl rfl ?_
  refine z_getf (pc' := 17) C zci_1 zw_53 (j := 1) rfl (zc_i (o := 0) n_a0 rfl) rfl rfl dX1_copyFrom_14 rfl ?_
  refine z_iconst (pc' := 18) C dX1_copyFrom_17 zk_iconst_0 rfl ?_
  refine z_aload_n (pc' := 19) C 0 dX1_copyFrom_18 rfl rfl rfl ?_
  refine z_getf (pc' := 22) C zci_1 zw_49 (j := 0) rfl (zc_i (o := 0) n_a0 rfl) rfl rfl dX1_copyFrom_19 rfl ?_
  refine z_cpi (pc' := 25) C hf (zc_f (m := 8) h_b11 (by omega) rfl) (zc_i (o := 1) n_a1 rfl) (h' := fun v_22 => (zu h a [(0, .inr (1, [.int co_count_b1, .ref (zo w + (a + 1)), .ref (zo w + (a + 2)), .ref (zo w + (a + 3)), .ref (zo w + (a + 4)), .ref (zo w + (a + 5)), .ref (zo w + (a + 6)), .ref (zo w + (a + 7))])), (1, .inl (w.2.2.1 0, 8, .inl v_22)), (2, .inl (w.2.2.1 0, 8, .inl co_retentionPercent)), (3, .inl (w.2.2.1 0, 8, .inl co_limitPercent)), (4, .inl (w.2.2.1 0, 8, .inl co_paymentDays)), (5, .inl (w.2.2.1 0, 8, .inl co_rank)), (6, .inl (w.2.2.1 3, 8, .inl co_linked)), (7, .inl (w.2.2.1 0, 8, .inl co_stage))])) (fun _ => zu_put (o := 1) rfl) zw_678 rfl rfl dX1_copyFrom_22 rfl (fun v_22 hf => ?_)
  refine z_aload_n (pc' := 26) C 1 dX1_copyFrom_25 rfl rfl rfl ?_
  refine z_getf (pc' := 29) C zci_1 zw_56 (j := 2) rfl (zc_f (m := 8) h_b10 (by omega) rfl) rfl rfl dX1_copyFrom_26 rfl ?_
  refine z_iconst (pc' := 30) C dX1_copyFrom_29 zk_iconst_0 rfl ?_
  refine z_aload_n (pc' := 31) C 0 dX1_copyFrom_30 rfl rfl rfl ?_
  refine z_getf (pc' := 34) C zci_1 zw_56 (j := 2) rfl (zc_i (o := 0) n_a0 rfl) rfl rfl dX1_copyFrom_31 rfl ?_
  refine z_iconst (pc' := 35) C dX1_copyFrom_34 zk_iconst_0 rfl ?_
  refine z_aload_n (pc' := 36) C 0 dX1_copyFrom_35 rfl rfl rfl ?_
  refine z_getf (pc' := 39) C zci_1 zw_49 (j := 0) rfl (zc_i (o := 0) n_a0 rfl) rfl rfl dX1_copyFrom_36 rfl ?_
  refine z_cpi (pc' := 42) C hf (zc_f (m := 8) h_b12 (by omega) rfl) (zc_i (o := 2) n_a2 rfl) (h' := fun v_39 => (zu h a [(0, .inr (1, [.int co_count_b1, .ref (zo w + (a + 1)), .ref (zo w + (a + 2)), .ref (zo w + (a + 3)), .ref (zo w + (a + 4)), .ref (zo w + (a + 5)), .ref (zo w + (a + 6)), .ref (zo w + (a + 7))])), (1, .inl (w.2.2.1 0, 8, .inl v_22)), (2, .inl (w.2.2.1 0, 8, .inl v_39)), (3, .inl (w.2.2.1 0, 8, .inl co_limitPercent)), (4, .inl (w.2.2.1 0, 8, .inl co_paymentDays)), (5, .inl (w.2.2.1 0, 8, .inl co_rank)), (6, .inl (w.2.2.1 3, 8, .inl co_linked)), (7, .inl (w.2.2.1 0, 8, .inl co_stage))])) (fun _ => zu_put (o := 2) rfl) zw_678 rfl rfl dX1_copyFrom_39 rfl (fun v_39 hf => ?_)
  refine z_aload_n (pc' := 43) C 1 dX1_copyFrom_42 rfl rfl rfl ?_
  refine z_getf (pc' := 46) C zci_1 zw_58 (j := 3) rfl (zc_f (m := 8) h_b10 (by omega) rfl) rfl rfl dX1_copyFrom_43 rfl ?_
  refine z_iconst (pc' := 47) C dX1_copyFrom_46 zk_iconst_0 rfl ?_
  refine z_aload_n (pc' := 48) C 0 dX1_copyFrom_47 rfl rfl rfl ?_
  refine z_getf (pc' := 51) C zci_1 zw_58 (j := 3) rfl (zc_i (o := 0) n_a0 rfl) rfl rfl dX1_copyFrom_48 rfl ?_
  refine z_iconst (pc' := 52) C dX1_copyFrom_51 zk_iconst_0 rfl ?_
  refine z_aload_n (pc' := 53) C 0 dX1_copyFrom_52 rfl rfl rfl ?_
  refine z_getf (pc' := 56) C zci_1 zw_49 (j := 0) rfl (zc_i (o := 0) n_a0 rfl) rfl rfl dX1_copyFrom_53 rfl ?_
  refine z_cpi (pc' := 59) C hf (zc_f (m := 8) h_b13 (by omega) rfl) (zc_i (o := 3) n_a3 rfl) (h' := fun v_56 => (zu h a [(0, .inr (1, [.int co_count_b1, .ref (zo w + (a + 1)), .ref (zo w + (a + 2)), .ref (zo w + (a + 3)), .ref (zo w + (a + 4)), .ref (zo w + (a + 5)), .ref (zo w + (a + 6)), .ref (zo w + (a + 7))])), (1, .inl (w.2.2.1 0, 8, .inl v_22)), (2, .inl (w.2.2.1 0, 8, .inl v_39)), (3, .inl (w.2.2.1 0, 8, .inl v_56)), (4, .inl (w.2.2.1 0, 8, .inl co_paymentDays)), (5, .inl (w.2.2.1 0, 8, .inl co_rank)), (6, .inl (w.2.2.1 3, 8, .inl co_linked)), (7, .inl (w.2.2.1 0, 8, .inl co_stage))])) (fun _ => zu_put (o := 3) rfl) zw_678 rfl rfl dX1_copyFrom_56 rfl (fun v_56 hf => ?_)
  refine z_aload_n (pc' := 60) C 1 dX1_copyFrom_59 rfl rfl rfl ?_
  refine z_getf (pc' := 63) C zci_1 zw_60 (j := 4) rfl (zc_f (m := 8) h_b10 (by omega) rfl) rfl rfl dX1_copyFrom_60 rfl ?_
  refine z_iconst (pc' := 64) C dX1_copyFrom_63 zk_iconst_0 rfl ?_
  refine z_aload_n (pc' := 65) C 0 dX1_copyFrom_64 rfl rfl rfl ?_
  refine z_getf (pc' := 68) C zci_1 zw_60 (j := 4) rfl (zc_i (o := 0) n_a0 rfl) rfl rfl dX1_copyFrom_65 rfl ?_
  refine z_iconst (pc' := 69) C dX1_copyFrom_68 zk_iconst_0 rfl ?_
  refine z_aload_n (pc' := 70) C 0 dX1_copyFrom_69 rfl rfl rfl ?_
  refine z_getf (pc' := 73) C zci_1 zw_49 (j := 0) rfl (zc_i (o := 0) n_a0 rfl) rfl rfl dX1_copyFrom_70 rfl ?_
  refine z_cpi (pc' := 76) C hf (zc_f (m := 8) h_b14 (by omega) rfl) (zc_i (o := 4) n_a4 rfl) (h' := fun v_73 => (zu h a [(0, .inr (1, [.int co_count_b1, .ref (zo w + (a + 1)), .ref (zo w + (a + 2)), .ref (zo w + (a + 3)), .ref (zo w + (a + 4)), .ref (zo w + (a + 5)), .ref (zo w + (a + 6)), .ref (zo w + (a + 7))])), (1, .inl (w.2.2.1 0, 8, .inl v_22)), (2, .inl (w.2.2.1 0, 8, .inl v_39)), (3, .inl (w.2.2.1 0, 8, .inl v_56)), (4, .inl (w.2.2.1 0, 8, .inl v_73)), (5, .inl (w.2.2.1 0, 8, .inl co_rank)), (6, .inl (w.2.2.1 3, 8, .inl co_linked)), (7, .inl (w.2.2.1 0, 8, .inl co_stage))])) (fun _ => zu_put (o := 4) rfl) zw_678 rfl rfl dX1_copyFrom_73 rfl (fun v_73 hf => ?_)
  refine z_aload_n (pc' := 77) C 1 dX1_copyFrom_76 rfl rfl rfl ?_
  refine z_getf (pc' := 80) C zci_1 zw_62 (j := 5) rfl (zc_f (m := 8) h_b10 (by omega) rfl) rfl rfl dX1_copyFrom_77 rfl ?_
  refine z_iconst (pc' := 81) C dX1_copyFrom_80 zk_iconst_0 rfl ?_
  refine z_aload_n (pc' := 82) C 0 dX1_copyFrom_81 rfl rfl rfl ?_
  refine z_getf (pc' := 85) C zci_1 zw_62 (j := 5) rfl (zc_i (o := 0) n_a0 rfl) rfl rfl dX1_copyFrom_82 rfl ?_
  refine z_iconst (pc' := 86) C dX1_copyFrom_85 zk_iconst_0 rfl ?_
  refine z_aload_n (pc' := 87) C 0 dX1_copyFrom_86 rfl rfl rfl ?_
  refine z_getf (pc' := 90) C zci_1 zw_49 (j := 0) rfl (zc_i (o := 0) n_a0 rfl) rfl rfl dX1_copyFrom_87 rfl ?_
  refine z_cpi (pc' := 93) C hf (zc_f (m := 8) h_b15 (by omega) rfl) (zc_i (o := 5) n_a5 rfl) (h' := fun v_90 => (zu h a [(0, .inr (1, [.int co_count_b1, .ref (zo w + (a + 1)), .ref (zo w + (a + 2)), .ref (zo w + (a + 3)), .ref (zo w + (a + 4)), .ref (zo w + (a + 5)), .ref (zo w + (a + 6)), .ref (zo w + (a + 7))])), (1, .inl (w.2.2.1 0, 8, .inl v_22)), (2, .inl (w.2.2.1 0, 8, .inl v_39)), (3, .inl (w.2.2.1 0, 8, .inl v_56)), (4, .inl (w.2.2.1 0, 8, .inl v_73)), (5, .inl (w.2.2.1 0, 8, .inl v_90)), (6, .inl (w.2.2.1 3, 8, .inl co_linked)), (7, .inl (w.2.2.1 0, 8, .inl co_stage))])) (fun _ => zu_put (o := 5) rfl) zw_678 rfl rfl dX1_copyFrom_90 rfl (fun v_90 hf => ?_)
  refine z_iconst (pc' := 94) C dX1_copyFrom_93 zk_iconst_0 rfl ?_
  refine z_istore_n (pc' := 95) C [(2, .int (0 : Int32)), (0, .ref (zo w + a)), (1, .ref (zo w + b1))] dX1_copyFrom_94 rfl rfl rfl rfl ?_
  refine z_pick (lv' := [(0, .ref (zo w + a)), (1, .ref (zo w + b1)), (2, .int (0 : Int32))]) [1, 2, 0] rfl ?_
  exact w_X1_copyFrom_95 C n_a0 n_a1 n_a2 n_a3 n_a4 n_a5 n_a6 n_a7 h_b10 h_b11 h_b12 h_b13 h_b14 h_b15 h_b16 h_b17 far_b1  FU hf
set_option maxRecDepth 20000 in
theorem c_X3_add {w : zV} {N : Nat} {h : zH} {a : Nat} {li_count : Int32} {li_contract : Nat → Int32} {li_amount : Nat → Int64} {li_filed : Nat → Int32} {li_withdrawn : Nat → Int32} {p1 : Int32} {p2 : Int64} {p4 : Int32} (h_a0 : zc N h (a + 0) (.inr (3, [.int li_count, .ref (zo w + (a + 1)), .ref (zo w + (a + 2)), .ref (zo w + (a + 3)), .ref (zo w + (a + 4))]))) (h_a1 : zc N h (a + 1) (.inl (w.2.2.1 0, 12, .inl li_contract))) (h_a2 : zc N h (a + 2) (.inl (w.2.2.1 1, 12, .inr (.inl li_amount)))) (h_a3 : zc N h (a + 3) (.inl (w.2.2.1 0, 12, .inl li_filed))) (h_a4 : zc N h (a + 4) (.inl (w.2.2.1 3, 12, .inl li_withdrawn))) {r : Int32 × Int32 × (Nat → Int32) × (Nat → Int64) × (Nat → Int32) × (Nat → Int32)} (hf : f_X3_add li_count li_contract li_amount li_filed li_withdrawn p1 p2 p4 = some r) : zM w yX3_add cX3_add 5 (some .int) (zr 0 0) false N N h [.ref (zo w + a), .int p1, .long p2, .int p4] (some (.int r.1)) (zu h a [(0, .inr (3, [.int r.2.1, .ref (zo w + (a + 1)), .ref (zo w + (a + 2)), .ref (zo w + (a + 3)), .ref (zo w + (a + 4))])), (1, .inl (w.2.2.1 0, 12, .inl r.2.2.1)), (2, .inl (w.2.2.1 1, 12, .inr (.inl r.2.2.2.1))), (3, .inl (w.2.2.1 0, 12, .inl r.2.2.2.2.1)), (4, .inl (w.2.2.1 3, 12, .inl r.2.2.2.2.2))]) := by
  unfold f_X3_add at hf
  refine zM_of (by decide) rfl (fun X C _ => ?_)
  refine z_eq (h' := (zu h a [(0, .inr (3, [.int li_count, .ref (zo w + (a + 1)), .ref (zo w + (a + 2)), .ref (zo w + (a + 3)), .ref (zo w + (a + 4))])), (1, .inl (w.2.2.1 0, 12, .inl li_contract)), (2, .inl (w.2.2.1 1, 12, .inr (.inl li_amount))), (3, .inl (w.2.2.1 0, 12, .inl li_filed)), (4, .inl (w.2.2.1 3, 12, .inl li_withdrawn))])) (zu_s h_a0 (zu_s h_a1 (zu_s h_a2 (zu_s h_a3 (zu_s h_a4 zu_0))))).symm ?_
  have n_a0 := h_a0.1
  have n_a1 := h_a1.1
  have n_a2 := h_a2.1
  have n_a3 := h_a3.1
  have n_a4 := h_a4.1
  refine z_pick (lv' := [(0, .ref (zo w + a)), (1, .int p1), (2, .long p2), (4, .int p4)]) [0, 1, 2, 3] rfl ?_
  refine z_aload_n (pc' := 1) C 0 dX3_add_0 rfl rfl rfl ?_
  refine z_getf (pc' := 4) C zci_3 zw_211 (j := 0) rfl (zc_i (o := 0) n_a0 rfl) rfl rfl dX3_add_1 rfl ?_
  refine z_bipush (pc' := 6) C dX3_add_4 zk_bipush_12 rfl ?_
  refine z_icmp_lt (pc' := 9) C 11 hf dX3_add_6 rfl rfl (fun g_6 hf => ?_) (fun g_6 hf => ?_)
  · refine z_aload_n (pc' := 12) C 0 dX3_add_11 rfl rfl rfl ?_
    refine z_getf (pc' := 15) C zci_3 zw_214 (j := 1) rfl (zc_i (o := 0) n_a0 rfl) rfl rfl dX3_add_12 rfl ?_
    refine z_aload_n (pc' := 16) C 0 dX3_add_15 rfl rfl rfl ?_
    refine z_getf (pc' := 19) C zci_3 zw_211 (j := 0) rfl (zc_i (o := 0) n_a0 rfl) rfl rfl dX3_add_16 rfl ?_
    refine z_iload_n (pc' := 20) C 1 dX3_add_19 rfl rfl rfl ?_
    refine z_iast (pc' := 21) C hf (zc_i (o := 1) n_a1 rfl) (h' := fun v_20 => (zu h a [(0, .inr (3, [.int li_count, .ref (zo w + (a + 1)), .ref (zo w + (a + 2)), .ref (zo w + (a + 3)), .ref (zo w + (a + 4))])), (1, .inl (w.2.2.1 0, 12, .inl v_20)), (2, .inl (w.2.2.1 1, 12, .inr (.inl li_amount))), (3, .inl (w.2.2.1 0, 12, .inl li_filed)), (4, .inl (w.2.2.1 3, 12, .inl li_withdrawn))])) (fun _ => zu_put (o := 1) rfl) dX3_add_20 rfl (fun v_20 hf => ?_)
    refine z_aload_n (pc' := 22) C 0 dX3_add_21 rfl rfl rfl ?_
    refine z_getf (pc' := 25) C zci_3 zw_216 (j := 2) rfl (zc_i (o := 0) n_a0 rfl) rfl rfl dX3_add_22 rfl ?_
    refine z_aload_n (pc' := 26) C 0 dX3_add_25 rfl rfl rfl ?_
    refine z_getf (pc' := 29) C zci_3 zw_211 (j := 0) rfl (zc_i (o := 0) n_a0 rfl) rfl rfl dX3_add_26 rfl ?_
    refine z_lload_n (pc' := 30) C 2 dX3_add_29 rfl rfl rfl ?_
    refine z_last (pc' := 31) C hf (zc_i (o := 2) n_a2 rfl) (h' := fun v_30 => (zu h a [(0, .inr (3, [.int li_count, .ref (zo w + (a + 1)), .ref (zo w + (a + 2)), .ref (zo w + (a + 3)), .ref (zo w + (a + 4))])), (1, .inl (w.2.2.1 0, 12, .inl v_20)), (2, .inl (w.2.2.1 1, 12, .inr (.inl v_30))), (3, .inl (w.2.2.1 0, 12, .inl li_filed)), (4, .inl (w.2.2.1 3, 12, .inl li_withdrawn))])) (fun _ => zu_put (o := 2) rfl) dX3_add_30 rfl (fun v_30 hf => ?_)
    refine z_aload_n (pc' := 32) C 0 dX3_add_31 rfl rfl rfl ?_
    refine z_getf (pc' := 35) C zci_3 zw_218 (j := 3) rfl (zc_i (o := 0) n_a0 rfl) rfl rfl dX3_add_32 rfl ?_
    refine z_aload_n (pc' := 36) C 0 dX3_add_35 rfl rfl rfl ?_
    refine z_getf (pc' := 39) C zci_3 zw_211 (j := 0) rfl (zc_i (o := 0) n_a0 rfl) rfl rfl dX3_add_36 rfl ?_
    refine z_iload (pc' := 41) C 3 dX3_add_39 rfl rfl ?_
    refine z_iast (pc' := 42) C hf (zc_i (o := 3) n_a3 rfl) (h' := fun v_41 => (zu h a [(0, .inr (3, [.int li_count, .ref (zo w + (a + 1)), .ref (zo w + (a + 2)), .ref (zo w + (a + 3)), .ref (zo w + (a + 4))])), (1, .inl (w.2.2.1 0, 12, .inl v_20)), (2, .inl (w.2.2.1 1, 12, .inr (.inl v_30))), (3, .inl (w.2.2.1 0, 12, .inl v_41)), (4, .inl (w.2.2.1 3, 12, .inl li_withdrawn))])) (fun _ => zu_put (o := 3) rfl) dX3_add_41 rfl (fun v_41 hf => ?_)
    refine z_aload_n (pc' := 43) C 0 dX3_add_42 rfl rfl rfl ?_
    refine z_getf (pc' := 46) C zci_3 zw_220 (j := 4) rfl (zc_i (o := 0) n_a0 rfl) rfl rfl dX3_add_43 rfl ?_
    refine z_aload_n (pc' := 47) C 0 dX3_add_46 rfl rfl rfl ?_
    refine z_getf (pc' := 50) C zci_3 zw_211 (j := 0) rfl (zc_i (o := 0) n_a0 rfl) rfl rfl dX3_add_47 rfl ?_
    refine z_iconst (pc' := 51) C dX3_add_50 zk_iconst_0 rfl ?_
    refine z_zast (pc' := 52) C hf (zc_i (o := 4) n_a4 rfl) (h' := fun v_51 => (zu h a [(0, .inr (3, [.int li_count, .ref (zo w + (a + 1)), .ref (zo w + (a + 2)), .ref (zo w + (a + 3)), .ref (zo w + (a + 4))])), (1, .inl (w.2.2.1 0, 12, .inl v_20)), (2, .inl (w.2.2.1 1, 12, .inr (.inl v_30))), (3, .inl (w.2.2.1 0, 12, .inl v_41)), (4, .inl (w.2.2.1 3, 12, .inl v_51))])) (fun _ => zu_put (o := 4) rfl) dX3_add_51 rfl (fun v_51 hf => ?_)
    refine z_aload_n (pc' := 53) C 0 dX3_add_52 rfl rfl rfl ?_
    refine z_dup (pc' := 54) C dX3_add_53 rfl rfl ?_
    refine z_getf (pc' := 57) C zci_3 zw_211 (j := 0) rfl (zc_i (o := 0) n_a0 rfl) rfl rfl dX3_add_54 rfl ?_
    refine z_iconst (pc' := 58) C dX3_add_57 zk_iconst_1 rfl ?_
    refine z_iadd (pc' := 59) C dX3_add_58 rfl ?_
    refine z_putf (pc' := 62) C zci_3 zw_211 (j := 0) rfl (zc_i (o := 0) n_a0 rfl) (fs' := [.int (li_count + (1 : Int32)), .ref (zo w + (a + 1)), .ref (zo w + (a + 2)), .ref (zo w + (a + 3)), .ref (zo w + (a + 4))]) rfl rfl rfl rfl rfl (zu_put (o := 0) (L' := [(0, .inr (3, [.int (li_count + (1 : Int32)), .ref (zo w + (a + 1)), .ref (zo w + (a + 2)), .ref (zo w + (a + 3)), .ref (zo w + (a + 4))])), (1, .inl (w.2.2.1 0, 12, .inl v_20)), (2, .inl (w.2.2.1 1, 12, .inr (.inl v_30))), (3, .inl (w.2.2.1 0, 12, .inl v_41)), (4, .inl (w.2.2.1 3, 12, .inl v_51))]) rfl) dX3_add_59 rfl ?_
    refine z_aload_n (pc' := 63) C 0 dX3_add_62 rfl rfl rfl ?_
    refine z_getf (pc' := 66) C zci_3 zw_211 (j := 0) rfl (zc_i (o := 0) n_a0 rfl) rfl rfl dX3_add_63 rfl ?_
    refine z_iconst (pc' := 67) C dX3_add_66 zk_iconst_1 rfl ?_
    refine z_isub (pc' := 68) C dX3_add_67 rfl ?_
    cases hf
    exact z_iret C rfl rfl dX3_add_68
  · refine z_iconst (pc' := 10) C dX3_add_9 zk_iconst_m1 rfl ?_
    cases hf
    exact z_iret C rfl rfl dX3_add_10
set_option maxRecDepth 20000 in
theorem w_X3_copyFrom_61 {X : zC} {w : zV} {N : Nat} {h : zH} {a b1 : Nat} {li_count_b1 : Int32} {li_contract_b1 : Nat → Int32} {li_amount_b1 : Nat → Int64} {li_filed_b1 : Nat → Int32} {li_withdrawn_b1 : Nat → Int32} (C : zK X w RX3 cX3_copyFrom 3 none (zr 1 40)) (n_a0 : a + 0 < N) (n_a1 : a + 1 < N) (n_a2 : a + 2 < N) (n_a3 : a + 3 < N) (n_a4 : a + 4 < N) (h_b10 : zc N h (b1 + 0) (.inr (3, [.int li_count_b1, .ref (zo w + (b1 + 1)), .ref (zo w + (b1 + 2)), .ref (zo w + (b1 + 3)), .ref (zo w + (b1 + 4))]))) (h_b11 : zc N h (b1 + 1) (.inl (w.2.2.1 0, 12, .inl li_contract_b1))) (h_b12 : zc N h (b1 + 2) (.inl (w.2.2.1 1, 12, .inr (.inl li_amount_b1)))) (h_b13 : zc N h (b1 + 3) (.inl (w.2.2.1 0, 12, .inl li_filed_b1))) (h_b14 : zc N h (b1 + 4) (.inl (w.2.2.1 3, 12, .inl li_withdrawn_b1))) (far_b1 : b1 + 5 ≤ a ∨ a + 5 ≤ b1) {r : Int32 × (Nat → Int32) × (Nat → Int64) × (Nat → Int32) × (Nat → Int32)} (n : Nat) : ∀ {li_count : Int32} {li_contract : Nat → Int32} {li_amount : Nat → Int64} {li_filed : Nat → Int32} {li_withdrawn : Nat → Int32} {x2 : Int32}, f_X3_copyFrom_61  n li_count li_contract li_amount li_filed li_withdrawn li_withdrawn_b1 x2 = some r → zZ X w (zQ X w (zr 1 40) (none) false N (zu h a [(0, .inr (3, [.int r.1, .ref (zo w + (a + 1)), .ref (zo w + (a + 2)), .ref (zo w + (a + 3)), .ref (zo w + (a + 4))])), (1, .inl (w.2.2.1 0, 12, .inl r.2.1)), (2, .inl (w.2.2.1 1, 12, .inr (.inl r.2.2.1))), (3, .inl (w.2.2.1 0, 12, .inl r.2.2.2.1)), (4, .inl (w.2.2.1 3, 12, .inl r.2.2.2.2))])) 0 0 false N (zu h a [(0, .inr (3, [.int li_count, .ref (zo w + (a + 1)), .ref (zo w + (a + 2)), .ref (zo w + (a + 3)), .ref (zo w + (a + 4))])), (1, .inl (w.2.2.1 0, 12, .inl li_contract)), (2, .inl (w.2.2.1 1, 12, .inr (.inl li_amount))), (3, .inl (w.2.2.1 0, 12, .inl li_filed)), (4, .inl (w.2.2.1 3, 12, .inl li_withdrawn))]) 61 [(0, .ref (zo w + a)), (1, .ref (zo w + b1)), (2, .int x2)] [] := by
  induction n with
  | zero =>
    intro li_count li_contract li_amount li_filed li_withdrawn x2 hf
    have hf : (none : Option (Int32 × (Nat → Int32) × (Nat → Int64) × (Nat → Int32) × (Nat → Int32))) = some r := hf
    cases hf
  | succ z ih =>
    intro li_count li_contract li_amount li_filed li_withdrawn x2 hf
    rw [f_X3_copyFrom_61] at hf
    refine z_iload_n (pc' := 62) C 2 dX3_copyFrom_61 rfl rfl rfl ?_
    refine z_aload_n (pc' := 63) C 0 dX3_copyFrom_62 rfl rfl rfl ?_
    refine z_getf (pc' := 66) C zci_3 zw_211 (j := 0) rfl (zc_i (o := 0) n_a0 rfl) rfl rfl dX3_copyFrom_63 rfl ?_
    refine z_icmp_ge (pc' := 69) C 87 hf dX3_copyFrom_66 rfl rfl (fun g_66 hf => ?_) (fun g_66 hf => ?_)
    · cases hf
      exact z_vret C rfl rfl dX3_copyFrom_87
    · refine z_aload_n (pc' := 70) C 0 dX3_copyFrom_69 rfl rfl rfl ?_
      refine z_getf (pc' := 73) C zci_3 zw_220 (j := 4) rfl (zc_i (o := 0) n_a0 rfl) rfl rfl dX3_copyFrom_70 rfl ?_
      refine z_iload_n (pc' := 74) C 2 dX3_copyFrom_73 rfl rfl rfl ?_
      refine z_aload_n (pc' := 75) C 1 dX3_copyFrom_74 rfl rfl rfl ?_
      refine z_getf (pc' := 78) C zci_3 zw_220 (j := 4) rfl (zc_f (m := 5) h_b10 (by omega) rfl) rfl rfl dX3_copyFrom_75 rfl ?_
      refine z_iload_n (pc' := 79) C 2 dX3_copyFrom_78 rfl rfl rfl ?_
      refine z_zald (pc' := 80) C hf (zc_f (m := 5) h_b14 (by omega) rfl) dX3_copyFrom_79 rfl (fun v_79 hf => ?_)
      refine z_zast (pc' := 81) C hf (zc_i (o := 4) n_a4 rfl) (h' := fun v_80 => (zu h a [(0, .inr (3, [.int li_count, .ref (zo w + (a + 1)), .ref (zo w + (a + 2)), .ref (zo w + (a + 3)), .ref (zo w + (a + 4))])), (1, .inl (w.2.2.1 0, 12, .inl li_contract)), (2, .inl (w.2.2.1 1, 12, .inr (.inl li_amount))), (3, .inl (w.2.2.1 0, 12, .inl li_filed)), (4, .inl (w.2.2.1 3, 12, .inl v_80))])) (fun _ => zu_put (o := 4) rfl) dX3_copyFrom_80 rfl (fun v_80 hf => ?_)
      refine z_iinc (pc' := 84) C 2 [(2, .int (x2 + (1 : Int32))), (0, .ref (zo w + a)), (1, .ref (zo w + b1))] dX3_copyFrom_81 rfl zk_iconst_1 rfl rfl rfl ?_
      refine z_goto C 61 dX3_copyFrom_84 rfl ?_
      refine z_pick (lv' := [(0, .ref (zo w + a)), (1, .ref (zo w + b1)), (2, .int (x2 + (1 : Int32)))]) [1, 2, 0] rfl ?_
      exact ih hf
set_option maxRecDepth 20000 in
theorem c_X3_copyFrom {w : zV} {N : Nat} {h : zH} {a b1 : Nat} {li_count : Int32} {li_contract : Nat → Int32} {li_amount : Nat → Int64} {li_filed : Nat → Int32} {li_withdrawn : Nat → Int32} {li_count_b1 : Int32} {li_contract_b1 : Nat → Int32} {li_amount_b1 : Nat → Int64} {li_filed_b1 : Nat → Int32} {li_withdrawn_b1 : Nat → Int32} (h_a0 : zc N h (a + 0) (.inr (3, [.int li_count, .ref (zo w + (a + 1)), .ref (zo w + (a + 2)), .ref (zo w + (a + 3)), .ref (zo w + (a + 4))]))) (h_a1 : zc N h (a + 1) (.inl (w.2.2.1 0, 12, .inl li_contract))) (h_a2 : zc N h (a + 2) (.inl (w.2.2.1 1, 12, .inr (.inl li_amount)))) (h_a3 : zc N h (a + 3) (.inl (w.2.2.1 0, 12, .inl li_filed))) (h_a4 : zc N h (a + 4) (.inl (w.2.2.1 3, 12, .inl li_withdrawn))) (h_b10 : zc N h (b1 + 0) (.inr (3, [.int li_count_b1, .ref (zo w + (b1 + 1)), .ref (zo w + (b1 + 2)), .ref (zo w + (b1 + 3)), .ref (zo w + (b1 + 4))]))) (h_b11 : zc N h (b1 + 1) (.inl (w.2.2.1 0, 12, .inl li_contract_b1))) (h_b12 : zc N h (b1 + 2) (.inl (w.2.2.1 1, 12, .inr (.inl li_amount_b1)))) (h_b13 : zc N h (b1 + 3) (.inl (w.2.2.1 0, 12, .inl li_filed_b1))) (h_b14 : zc N h (b1 + 4) (.inl (w.2.2.1 3, 12, .inl li_withdrawn_b1))) (far_b1 : b1 + 5 ≤ a ∨ a + 5 ≤ b1) {r : Int32 × (Nat → Int32) × (Nat → Int64) × (Nat → Int32) × (Nat → Int32)} (hf : f_X3_copyFrom li_count li_contract li_amount li_filed li_withdrawn li_count_b1 li_contract_b1 li_amount_b1 li_filed_b1 li_withdrawn_b1 = some r) : zM w yX3_copyFrom cX3_copyFrom 3 none (zr 1 40) false N N h [.ref (zo w + a), .ref (zo w + b1)] (none) (zu h a [(0, .inr (3, [.int r.1, .ref (zo w + (a + 1)), .ref (zo w + (a + 2)), .ref (zo w + (a + 3)), .ref (zo w + (a + 4))])), (1, .inl (w.2.2.1 0, 12, .inl r.2.1)), (2, .inl (w.2.2.1 1, 12, .inr (.inl r.2.2.1))), (3, .inl (w.2.2.1 0, 12, .inl r.2.2.2.1)), (4, .inl (w.2.2.1 3, 12, .inl r.2.2.2.2))]) := by
  unfold f_X3_copyFrom at hf
  refine zM_of (by decide) rfl (fun X C _ => ?_)
  refine z_eq (h' := (zu h a [(0, .inr (3, [.int li_count, .ref (zo w + (a + 1)), .ref (zo w + (a + 2)), .ref (zo w + (a + 3)), .ref (zo w + (a + 4))])), (1, .inl (w.2.2.1 0, 12, .inl li_contract)), (2, .inl (w.2.2.1 1, 12, .inr (.inl li_amount))), (3, .inl (w.2.2.1 0, 12, .inl li_filed)), (4, .inl (w.2.2.1 3, 12, .inl li_withdrawn))])) (zu_s h_a0 (zu_s h_a1 (zu_s h_a2 (zu_s h_a3 (zu_s h_a4 zu_0))))).symm ?_
  have n_a0 := h_a0.1
  have n_a1 := h_a1.1
  have n_a2 := h_a2.1
  have n_a3 := h_a3.1
  have n_a4 := h_a4.1
  refine z_pick (lv' := [(0, .ref (zo w + a)), (1, .ref (zo w + b1))]) [0, 1] rfl ?_
  refine z_aload_n (pc' := 1) C 0 dX3_copyFrom_0 rfl rfl rfl ?_
  refine z_aload_n (pc' := 2) C 1 dX3_copyFrom_1 rfl rfl rfl ?_
  refine z_getf (pc' := 5) C zci_3 zw_211 (j := 0) rfl (zc_f (m := 5) h_b10 (by omega) rfl) rfl rfl dX3_copyFrom_2 rfl ?_
  refine z_putf (pc' := 8) C zci_3 zw_211 (j := 0) rfl (zc_i (o := 0) n_a0 rfl) (fs' := [.int li_count_b1, .ref (zo w + (a + 1)), .ref (zo w + (a + 2)), .ref (zo w + (a + 3)), .ref (zo w + (a + 4))]) rfl rfl rfl rfl rfl (zu_put (o := 0) (L' := [(0, .inr (3, [.int li_count_b1, .ref (zo w + (a + 1)), .ref (zo w + (a + 2)), .ref (zo w + (a + 3)), .ref (zo w + (a + 4))])), (1, .inl (w.2.2.1 0, 12, .inl li_contract)), (2, .inl (w.2.2.1 1, 12, .inr (.inl li_amount))), (3, .inl (w.2.2.1 0, 12, .inl li_filed)), (4, .inl (w.2.2.1 3, 12, .inl li_withdrawn))]) rfl) dX3_copyFrom_5 rfl ?_
  refine z_aload_n (pc' := 9) C 1 dX3_copyFrom_8 rfl rfl rfl ?_
  refine z_getf (pc' := 12) C zci_3 zw_214 (j := 1) rfl (zc_f (m := 5) h_b10 (by omega) rfl) rfl rfl dX3_copyFrom_9 rfl ?_
  refine z_iconst (pc' := 13) C dX3_copyFrom_12 zk_iconst_0 rfl ?_
  refine z_aload_n (pc' := 14) C 0 dX3_copyFrom_13 rfl rfl rfl ?_
  refine z_getf (pc' := 17) C zci_3 zw_214 (j := 1) rfl (zc_i (o := 0) n_a0 rfl) rfl rfl dX3_copyFrom_14 rfl ?_
  refine z_iconst (pc' := 18) C dX3_copyFrom_17 zk_iconst_0 rfl ?_
  refine z_aload_n (pc' := 19) C 0 dX3_copyFrom_18 rfl rfl rfl ?_
  refine z_getf (pc' := 22) C zci_3 zw_211 (j := 0) rfl (zc_i (o := 0) n_a0 rfl) rfl rfl dX3_copyFrom_19 rfl ?_
  refine z_cpi (pc' := 25) C hf (zc_f (m := 5) h_b11 (by omega) rfl) (zc_i (o := 1) n_a1 rfl) (h' := fun v_22 => (zu h a [(0, .inr (3, [.int li_count_b1, .ref (zo w + (a + 1)), .ref (zo w + (a + 2)), .ref (zo w + (a + 3)), .ref (zo w + (a + 4))])), (1, .inl (w.2.2.1 0, 12, .inl v_22)), (2, .inl (w.2.2.1 1, 12, .inr (.inl li_amount))), (3, .inl (w.2.2.1 0, 12, .inl li_filed)), (4, .inl (w.2.2.1 3, 12, .inl li_withdrawn))])) (fun _ => zu_put (o := 1) rfl) zw_698 rfl rfl dX3_copyFrom_22 rfl (fun v_22 hf => ?_)
  refine z_aload_n (pc' := 26) C 1 dX3_copyFrom_25 rfl rfl rfl ?_
  refine z_getf (pc' := 29) C zci_3 zw_216 (j := 2) rfl (zc_f (m := 5) h_b10 (by omega) rfl) rfl rfl dX3_copyFrom_26 rfl ?_
  refine z_iconst (pc' := 30) C dX3_copyFrom_29 zk_iconst_0 rfl ?_
  refine z_aload_n (pc' := 31) C 0 dX3_copyFrom_30 rfl rfl rfl ?_
  refine z_getf (pc' := 34) C zci_3 zw_216 (j := 2) rfl (zc_i (o := 0) n_a0 rfl) rfl rfl dX3_copyFrom_31 rfl ?_
  refine z_iconst (pc' := 35) C dX3_copyFrom_34 zk_iconst_0 rfl ?_
  refine z_aload_n (pc' := 36) C 0 dX3_copyFrom_35 rfl rfl rfl ?_
  refine z_getf (pc' := 39) C zci_3 zw_211 (j := 0) rfl (zc_i (o := 0) n_a0 rfl) rfl rfl dX3_copyFrom_36 rfl ?_
  refine z_cpl (pc' := 42) C hf (zc_f (m := 5) h_b12 (by omega) rfl) (zc_i (o := 2) n_a2 rfl) (h' := fun v_39 => (zu h a [(0, .inr (3, [.int li_count_b1, .ref (zo w + (a + 1)), .ref (zo w + (a + 2)), .ref (zo w + (a + 3)), .ref (zo w + (a + 4))])), (1, .inl (w.2.2.1 0, 12, .inl v_22)), (2, .inl (w.2.2.1 1, 12, .inr (.inl v_39))), (3, .inl (w.2.2.1 0, 12, .inl li_filed)), (4, .inl (w.2.2.1 3, 12, .inl li_withdrawn))])) (fun _ => zu_put (o := 2) rfl) zw_698 rfl rfl dX3_copyFrom_39 rfl (fun v_39 hf => ?_)
  refine z_aload_n (pc' := 43) C 1 dX3_copyFrom_42 rfl rfl rfl ?_
  refine z_getf (pc' := 46) C zci_3 zw_218 (j := 3) rfl (zc_f (m := 5) h_b10 (by omega) rfl) rfl rfl dX3_copyFrom_43 rfl ?_
  refine z_iconst (pc' := 47) C dX3_copyFrom_46 zk_iconst_0 rfl ?_
  refine z_aload_n (pc' := 48) C 0 dX3_copyFrom_47 rfl rfl rfl ?_
  refine z_getf (pc' := 51) C zci_3 zw_218 (j := 3) rfl (zc_i (o := 0) n_a0 rfl) rfl rfl dX3_copyFrom_48 rfl ?_
  refine z_iconst (pc' := 52) C dX3_copyFrom_51 zk_iconst_0 rfl ?_
  refine z_aload_n (pc' := 53) C 0 dX3_copyFrom_52 rfl rfl rfl ?_
  refine z_getf (pc' := 56) C zci_3 zw_211 (j := 0) rfl (zc_i (o := 0) n_a0 rfl) rfl rfl dX3_copyFrom_53 rfl ?_
  refine z_cpi (pc' := 59) C hf (zc_f (m := 5) h_b13 (by omega) rfl) (zc_i (o := 3) n_a3 rfl) (h' := fun v_56 => (zu h a [(0, .inr (3, [.int li_count_b1, .ref (zo w + (a + 1)), .ref (zo w + (a + 2)), .ref (zo w + (a + 3)), .ref (zo w + (a + 4))])), (1, .inl (w.2.2.1 0, 12, .inl v_22)), (2, .inl (w.2.2.1 1, 12, .inr (.inl v_39))), (3, .inl (w.2.2.1 0, 12, .inl v_56)), (4, .inl (w.2.2.1 3, 12, .inl li_withdrawn))])) (fun _ => zu_put (o := 3) rfl) zw_698 rfl rfl dX3_copyFrom_56 rfl (fun v_56 hf => ?_)
  refine z_iconst (pc' := 60) C dX3_copyFrom_59 zk_iconst_0 rfl ?_
  refine z_istore_n (pc' := 61) C [(2, .int (0 : Int32)), (0, .ref (zo w + a)), (1, .ref (zo w + b1))] dX3_copyFrom_60 rfl rfl rfl rfl ?_
  refine z_pick (lv' := [(0, .ref (zo w + a)), (1, .ref (zo w + b1)), (2, .int (0 : Int32))]) [1, 2, 0] rfl ?_
  exact w_X3_copyFrom_61 C n_a0 n_a1 n_a2 n_a3 n_a4 h_b10 h_b11 h_b12 h_b13 h_b14 far_b1  FU hf
set_option maxRecDepth 20000 in
theorem c_X4_add {w : zV} {N : Nat} {h : zH} {a : Nat} {pg_threshold : Int32} {pg_length : Int32} {pg_clen : Nat} {pg_code : Nat → Int32} {p1 : Int32} (h_a0 : zc N h (a + 0) (.inr (4, [.int pg_threshold, .int pg_length, .ref (zo w + (a + 2)), .ref (zo w + (a + 1))]))) (h_a2 : zc N h (a + 2) (.inl (w.2.2.1 0, pg_clen, .inl pg_code))) {r : Int32 × (Nat → Int32)} (hf : f_X4_add pg_length pg_clen pg_code p1 = some r) : zM w yX4_add cX4_add 2 none (zr 0 0) false N N h [.ref (zo w + a), .int p1] (none) (zu h a [(0, .inr (4, [.int pg_threshold, .int r.1, .ref (zo w + (a + 2)), .ref (zo w + (a + 1))])), (2, .inl (w.2.2.1 0, pg_clen, .inl r.2))]) := by
  unfold f_X4_add at hf
  refine zM_of (by decide) rfl (fun X C _ => ?_)
  refine z_eq (h' := (zu h a [(0, .inr (4, [.int pg_threshold, .int pg_length, .ref (zo w + (a + 2)), .ref (zo w + (a + 1))])), (2, .inl (w.2.2.1 0, pg_clen, .inl pg_code))])) (zu_s h_a0 (zu_s h_a2 zu_0)).symm ?_
  have n_a0 := h_a0.1
  have n_a2 := h_a2.1
  refine z_pick (lv' := [(0, .ref (zo w + a)), (1, .int p1)]) [0, 1] rfl ?_
  refine z_aload_n (pc' := 1) C 0 dX4_add_0 rfl rfl rfl ?_
  refine z_getf (pc' := 4) C zci_4 zw_104 (j := 1) rfl (zc_i (o := 0) n_a0 rfl) rfl rfl dX4_add_1 rfl ?_
  refine z_aload_n (pc' := 5) C 0 dX4_add_4 rfl rfl rfl ?_
  refine z_getf (pc' := 8) C zci_4 zw_105 (j := 2) rfl (zc_i (o := 0) n_a0 rfl) rfl rfl dX4_add_5 rfl ?_
  refine z_alen (pc' := 9) C 0 (zc_i (o := 2) n_a2 rfl) rfl (v := (Int32.ofNat pg_clen)) rfl dX4_add_8 rfl ?_
  refine z_icmp_ge (pc' := 12) C 32 hf dX4_add_9 rfl rfl (fun g_9 hf => ?_) (fun g_9 hf => ?_)
  · cases hf
    exact z_vret C rfl rfl dX4_add_32
  · refine z_aload_n (pc' := 13) C 0 dX4_add_12 rfl rfl rfl ?_
    refine z_getf (pc' := 16) C zci_4 zw_105 (j := 2) rfl (zc_i (o := 0) n_a0 rfl) rfl rfl dX4_add_13 rfl ?_
    refine z_aload_n (pc' := 17) C 0 dX4_add_16 rfl rfl rfl ?_
    refine z_getf (pc' := 20) C zci_4 zw_104 (j := 1) rfl (zc_i (o := 0) n_a0 rfl) rfl rfl dX4_add_17 rfl ?_
    refine z_iload_n (pc' := 21) C 1 dX4_add_20 rfl rfl rfl ?_
    refine z_iast (pc' := 22) C hf (zc_i (o := 2) n_a2 rfl) (h' := fun v_21 => (zu h a [(0, .inr (4, [.int pg_threshold, .int pg_length, .ref (zo w + (a + 2)), .ref (zo w + (a + 1))])), (2, .inl (w.2.2.1 0, pg_clen, .inl v_21))])) (fun _ => zu_put (o := 2) rfl) dX4_add_21 rfl (fun v_21 hf => ?_)
    refine z_aload_n (pc' := 23) C 0 dX4_add_22 rfl rfl rfl ?_
    refine z_dup (pc' := 24) C dX4_add_23 rfl rfl ?_
    refine z_getf (pc' := 27) C zci_4 zw_104 (j := 1) rfl (zc_i (o := 0) n_a0 rfl) rfl rfl dX4_add_24 rfl ?_
    refine z_iconst (pc' := 28) C dX4_add_27 zk_iconst_1 rfl ?_
    refine z_iadd (pc' := 29) C dX4_add_28 rfl ?_
    refine z_putf (pc' := 32) C zci_4 zw_104 (j := 1) rfl (zc_i (o := 0) n_a0 rfl) (fs' := [.int pg_threshold, .int (pg_length + (1 : Int32)), .ref (zo w + (a + 2)), .ref (zo w + (a + 1))]) rfl rfl rfl rfl rfl (zu_put (o := 0) (L' := [(0, .inr (4, [.int pg_threshold, .int (pg_length + (1 : Int32)), .ref (zo w + (a + 2)), .ref (zo w + (a + 1))])), (2, .inl (w.2.2.1 0, pg_clen, .inl v_21))]) rfl) dX4_add_29 rfl ?_
    cases hf
    exact z_vret C rfl rfl dX4_add_32
set_option maxRecDepth 20000 in
theorem c_X4_boundOf {w : zV} {N : Nat} {h : zH} {a : Nat} {pg_threshold : Int32} {pg_length : Int32} {p1 : Int32} (h_a0 : zc N h (a + 0) (.inr (4, [.int pg_threshold, .int pg_length, .ref (zo w + (a + 2)), .ref (zo w + (a + 1))]))) {r : Int32} (hf : f_X4_boundOf pg_threshold p1 = some r) : zM w yX4_boundOf cX4_boundOf 2 (some .int) (zr 0 0) false N N h [.ref (zo w + a), .int p1] (some (.int r)) h := by
  unfold f_X4_boundOf at hf
  refine zM_of (by decide) rfl (fun X C _ => ?_)
  refine z_pick (lv' := [(0, .ref (zo w + a)), (1, .int p1)]) [0, 1] rfl ?_
  refine z_iload_n (pc' := 1) C 1 dX4_boundOf_0 rfl rfl rfl ?_
  refine z_iload_n (pc' := 2) C 1 dX4_boundOf_1 rfl rfl rfl ?_
  refine z_aload_n (pc' := 3) C 0 dX4_boundOf_2 rfl rfl rfl ?_
  refine z_getf (pc' := 6) C zci_4 zw_102 (j := 0) rfl h_a0 rfl rfl dX4_boundOf_3 rfl ?_
  refine z_imul (pc' := 7) C dX4_boundOf_6 rfl ?_
  refine z_bipush (pc' := 9) C dX4_boundOf_7 zk_bipush_100 rfl ?_
  refine z_idiv (pc' := 10) C dX4_boundOf_9 (by decide) rfl ?_
  refine z_iadd (pc' := 11) C dX4_boundOf_10 rfl ?_
  cases hf
  exact z_iret C rfl rfl dX4_boundOf_11
set_option maxRecDepth 20000 in
theorem c_X4_operand {w : zV} {N : Nat} {h : zH} {p0 : Int32} {p1 : Int32} {p2 : Int32} {p3 : Int32} {r : Int32} (hf : f_X4_operand p0 p1 p2 p3 = some r) : zM w yX4_operand cX4_operand 4 (some .int) (zr 0 0) false N N h [.int p0, .int p1, .int p2, .int p3] (some (.int r)) h := by
  unfold f_X4_operand at hf
  refine zM_of (by decide) rfl (fun X C _ => ?_)
  refine z_pick (lv' := [(0, .int p0), (1, .int p1), (2, .int p2), (3, .int p3)]) [0, 1, 2, 3] rfl ?_
  refine z_iload_n (pc' := 1) C 0 dX4_operand_0 rfl rfl rfl ?_
  refine z_tab3 C 32 30 28 34 hf dX4_operand_1 (by decide) (by decide) (by decide) (by decide) (by decide) (by decide) (by decide) (by decide) (fun hf => ?_) (fun hf => ?_) (fun hf => ?_) (fun _ _ _ hf => ?_)
  · refine z_iload_n (pc' := 33) C 3 dX4_operand_32 rfl rfl rfl ?_
    cases hf
    exact z_iret C rfl rfl dX4_operand_33
  · refine z_iload_n (pc' := 31) C 2 dX4_operand_30 rfl rfl rfl ?_
    cases hf
    exact z_iret C rfl rfl dX4_operand_31
  · refine z_iload_n (pc' := 29) C 1 dX4_operand_28 rfl rfl rfl ?_
    cases hf
    exact z_iret C rfl rfl dX4_operand_29
  · refine z_iload_n (pc' := 35) C 0 dX4_operand_34 rfl rfl rfl ?_
    cases hf
    exact z_iret C rfl rfl dX4_operand_35
set_option maxRecDepth 20000 in
theorem w_X4_result_67 {X : zC} {w : zV} {N : Nat} {h : zH} (C : zK X w RX4 cX4_result 5 (some .int) (zr 1 40)) {r : Int32} {s0 : Int64} (hf : f_X4_result_67  s0 = some r) : zZ X w (zQ X w (zr 1 40) (some (.int r)) false N h) 0 0 false N h 67 [] [.long s0] := by
  unfold f_X4_result_67 at hf
  refine z_lstore_n (pc' := 68) C [(3, .long s0)] dX4_result_67 rfl rfl rfl rfl ?_
  refine z_ldc2 (pc' := 71) C zw_419 dX4_result_68 rfl ?_
  refine z_ldc2 (pc' := 74) C zw_420 dX4_result_71 rfl ?_
  refine z_lload_n (pc' := 75) C 0 dX4_result_74 rfl rfl rfl ?_
  refine z_lmin (pc' := 78) C zw_421 rfl rfl dX4_result_75 rfl ?_
  refine z_lmax (pc' := 81) C zw_424 rfl rfl dX4_result_78 rfl ?_
  refine z_l2i (pc' := 82) C dX4_result_81 rfl ?_
  cases hf
  exact z_iret C rfl rfl dX4_result_82
set_option maxRecDepth 20000 in
theorem c_X4_result {w : zV} {N : Nat} {h : zH} {p0 : Int32} {p1 : Int32} {p2 : Int32} {r : Int32} (hf : f_X4_result p0 p1 p2 = some r) : zM w yX4_result cX4_result 5 (some .int) (zr 1 40) false N N h [.int p0, .int p1, .int p2] (some (.int r)) h := by
  unfold f_X4_result at hf
  refine zM_of (by decide) rfl (fun X C _ => ?_)
  refine z_pick (lv' := [(0, .int p0), (1, .int p1), (2, .int p2)]) [0, 1, 2] rfl ?_
  refine z_iload_n (pc' := 1) C 0 dX4_result_0 rfl rfl rfl ?_
  refine z_tab3 C 46 37 28 55 hf dX4_result_1 (by decide) (by decide) (by decide) (by decide) (by decide) (by decide) (by decide) (by decide) (fun hf => ?_) (fun hf => ?_) (fun hf => ?_) (fun _ _ _ hf => ?_)
  · refine z_iload_n (pc' := 47) C 1 dX4_result_46 rfl rfl rfl ?_
    refine z_i2l (pc' := 48) C dX4_result_47 rfl ?_
    refine z_iload_n (pc' := 49) C 2 dX4_result_48 rfl rfl rfl ?_
    refine z_i2l (pc' := 50) C dX4_result_49 rfl ?_
    refine z_lmul (pc' := 51) C dX4_result_50 rfl ?_
    refine z_lstore_n (pc' := 52) C [(3, .long ((p1).toInt64 * (p2).toInt64)), (0, .int p0), (1, .int p1), (2, .int p2)] dX4_result_51 rfl rfl rfl rfl ?_
    refine z_goto C 68 dX4_result_52 rfl ?_
    refine z_ldc2 (pc' := 71) C zw_419 dX4_result_68 rfl ?_
    refine z_ldc2 (pc' := 74) C zw_420 dX4_result_71 rfl ?_
    refine z_lload_n (pc' := 75) C 0 dX4_result_74 rfl rfl rfl ?_
    refine z_lmin (pc' := 78) C zw_421 rfl rfl dX4_result_75 rfl ?_
    refine z_lmax (pc' := 81) C zw_424 rfl rfl dX4_result_78 rfl ?_
    refine z_l2i (pc' := 82) C dX4_result_81 rfl ?_
    cases hf
    exact z_iret C rfl rfl dX4_result_82
  · refine z_iload_n (pc' := 38) C 1 dX4_result_37 rfl rfl rfl ?_
    refine z_i2l (pc' := 39) C dX4_result_38 rfl ?_
    refine z_iload_n (pc' := 40) C 2 dX4_result_39 rfl rfl rfl ?_
    refine z_i2l (pc' := 41) C dX4_result_40 rfl ?_
    refine z_lsub (pc' := 42) C dX4_result_41 rfl ?_
    refine z_lstore_n (pc' := 43) C [(3, .long ((p1).toInt64 - (p2).toInt64)), (0, .int p0), (1, .int p1), (2, .int p2)] dX4_result_42 rfl rfl rfl rfl ?_
    refine z_goto C 68 dX4_result_43 rfl ?_
    refine z_ldc2 (pc' := 71) C zw_419 dX4_result_68 rfl ?_
    refine z_ldc2 (pc' := 74) C zw_420 dX4_result_71 rfl ?_
    refine z_lload_n (pc' := 75) C 0 dX4_result_74 rfl rfl rfl ?_
    refine z_lmin (pc' := 78) C zw_421 rfl rfl dX4_result_75 rfl ?_
    refine z_lmax (pc' := 81) C zw_424 rfl rfl dX4_result_78 rfl ?_
    refine z_l2i (pc' := 82) C dX4_result_81 rfl ?_
    cases hf
    exact z_iret C rfl rfl dX4_result_82
  · refine z_iload_n (pc' := 29) C 1 dX4_result_28 rfl rfl rfl ?_
    refine z_i2l (pc' := 30) C dX4_result_29 rfl ?_
    refine z_iload_n (pc' := 31) C 2 dX4_result_30 rfl rfl rfl ?_
    refine z_i2l (pc' := 32) C dX4_result_31 rfl ?_
    refine z_ladd (pc' := 33) C dX4_result_32 rfl ?_
    refine z_lstore_n (pc' := 34) C [(3, .long ((p1).toInt64 + (p2).toInt64)), (0, .int p0), (1, .int p1), (2, .int p2)] dX4_result_33 rfl rfl rfl rfl ?_
    refine z_goto C 68 dX4_result_34 rfl ?_
    refine z_ldc2 (pc' := 71) C zw_419 dX4_result_68 rfl ?_
    refine z_ldc2 (pc' := 74) C zw_420 dX4_result_71 rfl ?_
    refine z_lload_n (pc' := 75) C 0 dX4_result_74 rfl rfl rfl ?_
    refine z_lmin (pc' := 78) C zw_421 rfl rfl dX4_result_75 rfl ?_
    refine z_lmax (pc' := 81) C zw_424 rfl rfl dX4_result_78 rfl ?_
    refine z_l2i (pc' := 82) C dX4_result_81 rfl ?_
    cases hf
    exact z_iret C rfl rfl dX4_result_82
  · refine z_iload_n (pc' := 56) C 2 dX4_result_55 rfl rfl rfl ?_
    refine z_if_ne (pc' := 59) C 63 hf dX4_result_56 rfl rfl (fun g_56 hf => ?_) (fun g_56 hf => ?_)
    · refine z_iload_n (pc' := 64) C 1 dX4_result_63 rfl rfl rfl ?_
      refine z_iload_n (pc' := 65) C 2 dX4_result_64 rfl rfl rfl ?_
      obtain ⟨g_65, hf⟩ := zG1_s hf
      refine z_idiv (pc' := 66) C dX4_result_65 g_65 rfl ?_
      refine z_i2l (pc' := 67) C dX4_result_66 rfl ?_
      refine z_pick (lv' := []) [] rfl ?_
      exact w_X4_result_67 C   hf
    · refine z_lconst (pc' := 60) C dX4_result_59 zl_0 rfl ?_
      refine z_goto C 67 dX4_result_60 rfl ?_
      refine z_pick (lv' := []) [] rfl ?_
      exact w_X4_result_67 C   hf
set_option maxRecDepth 20000 in
theorem w_X4_rate_68 {X : zC} {w : zV} {N : Nat} {h : zH} {a : Nat} {pg_threshold : Int32} {pg_length : Int32} {pg_clen : Nat} {pg_code : Nat → Int32} (C : zK X w RX4 cX4_rate 7 (some .int) (zr 2 72)) (h_a0 : zc N h (a + 0) (.inr (4, [.int pg_threshold, .int pg_length, .ref (zo w + (a + 2)), .ref (zo w + (a + 1))]))) (n_a1 : a + 1 < N) (h_a2 : zc N h (a + 2) (.inl (w.2.2.1 0, pg_clen, .inl pg_code))) {r : Int32 × (Nat → Int32)} {k15 : Int32 → Nat → (Nat → Int32) → (Nat → Int32) → Int32 → Int32 → Int32 → Int32 → Int32 → Option (Int32 × (Nat → Int32))} (hk15 : ∀ {pg_stack : Nat → Int32} {x1 : Int32} {x2 : Int32} {x3 : Int32} {x4 : Int32} {x5 : Int32}, k15 pg_length pg_clen pg_code pg_stack x1 x2 x3 x4 x5 = some r → zZ X w (zQ X w (zr 2 72) (some (.int r.1)) false N (zu h a [(1, .inl (w.2.2.1 0, 16, .inl r.2))])) 0 0 false N (zu h a [(1, .inl (w.2.2.1 0, 16, .inl pg_stack))]) 15 [(0, .ref (zo w + a)), (1, .int x1), (2, .int x2), (3, .int x3), (4, .int x4), (5, .int x5)] []) {pg_stack : Nat → Int32} {x1 : Int32} {x2 : Int32} {x3 : Int32} {x4 : Int32} {x5 : Int32} {x6 : Int32} (hf : f_X4_rate_68 k15 pg_length pg_clen pg_code pg_stack x1 x2 x3 x4 x5 x6 = some r) : zZ X w (zQ X w (zr 2 72) (some (.int r.1)) false N (zu h a [(1, .inl (w.2.2.1 0, 16, .inl r.2))])) 0 0 false N (zu h a [(1, .inl (w.2.2.1 0, 16, .inl pg_stack))]) 68 [(0, .ref (zo w + a)), (1, .int x1), (2, .int x2), (3, .int x3), (4, .int x4), (5, .int x5), (6, .int x6)] [] := by
  unfold f_X4_rate_68 at hf
  refine z_iload (pc' := 70) C 6 dX4_rate_68 rfl rfl ?_
  refine z_bipush (pc' := 72) C dX4_rate_70 zk_bipush_m4 rfl ?_
  refine z_icmp_gt (pc' := 75) C 114 hf dX4_rate_72 rfl rfl (fun g_72 hf => ?_) (fun g_72 hf => ?_)
  · refine z_iinc (pc' := 117) C 5 [(5, .int (x5 + (1 : Int32))), (0, .ref (zo w + a)), (1, .int x1), (2, .int x2), (3, .int x3), (4, .int x4), (6, .int x6)] dX4_rate_114 rfl zk_iconst_1 rfl rfl rfl ?_
    refine z_goto C 15 dX4_rate_117 rfl ?_
    refine z_pick (lv' := [(0, .ref (zo w + a)), (1, .int x1), (2, .int x2), (3, .int x3), (4, .int x4), (5, .int (x5 + (1 : Int32)))]) [1, 2, 3, 4, 5, 0] rfl ?_
    exact hk15 hf
  · refine z_iload (pc' := 77) C 4 dX4_rate_75 rfl rfl ?_
    refine z_iconst (pc' := 78) C dX4_rate_77 zk_iconst_2 rfl ?_
    refine z_icmp_lt (pc' := 81) C 114 hf dX4_rate_78 rfl rfl (fun g_78 hf => ?_) (fun g_78 hf => ?_)
    · refine z_iinc (pc' := 117) C 5 [(5, .int (x5 + (1 : Int32))), (0, .ref (zo w + a)), (1, .int x1), (2, .int x2), (3, .int x3), (4, .int x4), (6, .int x6)] dX4_rate_114 rfl zk_iconst_1 rfl rfl rfl ?_
      refine z_goto C 15 dX4_rate_117 rfl ?_
      refine z_pick (lv' := [(0, .ref (zo w + a)), (1, .int x1), (2, .int x2), (3, .int x3), (4, .int x4), (5, .int (x5 + (1 : Int32)))]) [1, 2, 3, 4, 5, 0] rfl ?_
      exact hk15 hf
    · refine z_iinc (pc' := 84) C 4 [(4, .int (x4 + (-1 : Int32))), (0, .ref (zo w + a)), (1, .int x1), (2, .int x2), (3, .int x3), (5, .int x5), (6, .int x6)] dX4_rate_81 rfl zk_iconst_m1 rfl rfl rfl ?_
      refine z_aload_n (pc' := 85) C 1 dX4_rate_84 rfl rfl rfl ?_
      refine z_getf (pc' := 88) C zci_4 zw_106 (j := 3) rfl (zc_o (o := 0) h_a0 rfl) rfl rfl dX4_rate_85 rfl ?_
      refine z_iload (pc' := 90) C 0 dX4_rate_88 rfl rfl ?_
      refine z_iconst (pc' := 91) C dX4_rate_90 zk_iconst_1 rfl ?_
      refine z_isub (pc' := 92) C dX4_rate_91 rfl ?_
      refine z_iload (pc' := 94) C 6 dX4_rate_92 rfl rfl ?_
      refine z_aload_n (pc' := 95) C 1 dX4_rate_94 rfl rfl rfl ?_
      refine z_getf (pc' := 98) C zci_4 zw_106 (j := 3) rfl (zc_o (o := 0) h_a0 rfl) rfl rfl dX4_rate_95 rfl ?_
      refine z_iload (pc' := 100) C 0 dX4_rate_98 rfl rfl ?_
      refine z_iconst (pc' := 101) C dX4_rate_100 zk_iconst_1 rfl ?_
      refine z_isub (pc' := 102) C dX4_rate_101 rfl ?_
      refine z_iald (pc' := 103) C hf (zc_i (o := 1) n_a1 rfl) dX4_rate_102 rfl (fun v_102 hf => ?_)
      refine z_aload_n (pc' := 104) C 1 dX4_rate_103 rfl rfl rfl ?_
      refine z_getf (pc' := 107) C zci_4 zw_106 (j := 3) rfl (zc_o (o := 0) h_a0 rfl) rfl rfl dX4_rate_104 rfl ?_
      refine z_iload (pc' := 109) C 0 dX4_rate_107 rfl rfl ?_
      refine z_iald (pc' := 110) C hf (zc_i (o := 1) n_a1 rfl) dX4_rate_109 rfl (fun v_109 hf => ?_)
      refine z_cS (pc' := 113) C hf (As := [.int x6, .int v_102, .int v_109]) (fun hq => c_X4_result  hq) (fun _ => (zu h a [(1, .inl (w.2.2.1 0, 16, .inl pg_stack))])) (fun q_110 => [.int q_110, .int ((x4 + (-1 : Int32)) - (1 : Int32)), .ref (zo w + (a + 1))]) (fun _ => rfl) (fun _ => rfl) zy_X4_result zw_416 zw_417 ⟨rfl, rfl⟩ rfl rfl rfl rfl rfl dX4_rate_110 rfl (fun q_110 hf => ?_)
      refine z_iast (pc' := 114) C hf (zc_i (o := 1) n_a1 rfl) (h' := fun v_113 => (zu h a [(1, .inl (w.2.2.1 0, 16, .inl v_113))])) (fun _ => zu_put (o := 1) rfl) dX4_rate_113 rfl (fun v_113 hf => ?_)
      refine z_iinc (pc' := 117) C 5 [(5, .int (x5 + (1 : Int32))), (4, .int (x4 + (-1 : Int32))), (0, .ref (zo w + a)), (1, .int x1), (2, .int x2), (3, .int x3), (6, .int x6)] dX4_rate_114 rfl zk_iconst_1 rfl rfl rfl ?_
      refine z_goto C 15 dX4_rate_117 rfl ?_
      refine z_pick (lv' := [(0, .ref (zo w + a)), (1, .int x1), (2, .int x2), (3, .int x3), (4, .int (x4 + (-1 : Int32))), (5, .int (x5 + (1 : Int32)))]) [2, 3, 4, 5, 1, 0] rfl ?_
      exact hk15 hf
set_option maxRecDepth 20000 in
theorem w_X4_rate_15 {X : zC} {w : zV} {N : Nat} {h : zH} {a : Nat} {pg_threshold : Int32} {pg_length : Int32} {pg_clen : Nat} {pg_code : Nat → Int32} (C : zK X w RX4 cX4_rate 7 (some .int) (zr 2 72)) (h_a0 : zc N h (a + 0) (.inr (4, [.int pg_threshold, .int pg_length, .ref (zo w + (a + 2)), .ref (zo w + (a + 1))]))) (n_a1 : a + 1 < N) (h_a2 : zc N h (a + 2) (.inl (w.2.2.1 0, pg_clen, .inl pg_code))) {r : Int32 × (Nat → Int32)} (n : Nat) : ∀ {pg_stack : Nat → Int32} {x1 : Int32} {x2 : Int32} {x3 : Int32} {x4 : Int32} {x5 : Int32}, f_X4_rate_15  n pg_length pg_clen pg_code pg_stack x1 x2 x3 x4 x5 = some r → zZ X w (zQ X w (zr 2 72) (some (.int r.1)) false N (zu h a [(1, .inl (w.2.2.1 0, 16, .inl r.2))])) 0 0 false N (zu h a [(1, .inl (w.2.2.1 0, 16, .inl pg_stack))]) 15 [(0, .ref (zo w + a)), (1, .int x1), (2, .int x2), (3, .int x3), (4, .int x4), (5, .int x5)] [] := by
  induction n with
  | zero =>
    intro pg_stack x1 x2 x3 x4 x5 hf
    have hf : (none : Option (Int32 × (Nat → Int32))) = some r := hf
    cases hf
  | succ z ih =>
    intro pg_stack x1 x2 x3 x4 x5 hf
    rw [f_X4_rate_15] at hf
    refine z_iload (pc' := 17) C 5 dX4_rate_15 rfl rfl ?_
    refine z_aload_n (pc' := 18) C 0 dX4_rate_17 rfl rfl rfl ?_
    refine z_getf (pc' := 21) C zci_4 zw_104 (j := 1) rfl (zc_o (o := 0) h_a0 rfl) rfl rfl dX4_rate_18 rfl ?_
    refine z_icmp_ge (pc' := 24) C 120 hf dX4_rate_21 rfl rfl (fun g_21 hf => ?_) (fun g_21 hf => ?_)
    · refine z_iconst (pc' := 121) C dX4_rate_120 zk_iconst_0 rfl ?_
      refine z_ldc (pc' := 123) C zw_427 dX4_rate_121 rfl ?_
      refine z_aload_n (pc' := 124) C 0 dX4_rate_123 rfl rfl rfl ?_
      refine z_getf (pc' := 127) C zci_4 zw_106 (j := 3) rfl (zc_o (o := 0) h_a0 rfl) rfl rfl dX4_rate_124 rfl ?_
      refine z_iconst (pc' := 128) C dX4_rate_127 zk_iconst_0 rfl ?_
      refine z_iald (pc' := 129) C hf (zc_i (o := 1) n_a1 rfl) dX4_rate_128 rfl (fun v_128 hf => ?_)
      refine z_imin (pc' := 132) C zw_96 rfl rfl dX4_rate_129 rfl ?_
      refine z_imax (pc' := 135) C zw_99 rfl rfl dX4_rate_132 rfl ?_
      cases hf
      exact z_iret C rfl rfl dX4_rate_135
    · refine z_aload_n (pc' := 25) C 0 dX4_rate_24 rfl rfl rfl ?_
      refine z_getf (pc' := 28) C zci_4 zw_105 (j := 2) rfl (zc_o (o := 0) h_a0 rfl) rfl rfl dX4_rate_25 rfl ?_
      refine z_iload (pc' := 30) C 5 dX4_rate_28 rfl rfl ?_
      refine z_iald (pc' := 31) C hf (zc_o (o := 2) h_a2 rfl) dX4_rate_30 rfl (fun v_30 hf => ?_)
      refine z_istore (pc' := 33) C [(6, .int v_30), (0, .ref (zo w + a)), (1, .int x1), (2, .int x2), (3, .int x3), (4, .int x4), (5, .int x5)] dX4_rate_31 rfl rfl rfl ?_
      refine z_iload (pc' := 35) C 0 dX4_rate_33 rfl rfl ?_
      refine z_bipush (pc' := 37) C dX4_rate_35 zk_bipush_m4 rfl ?_
      refine z_icmp_le (pc' := 40) C 68 hf dX4_rate_37 rfl rfl (fun g_37 hf => ?_) (fun g_37 hf => ?_)
      · refine z_pick (lv' := [(0, .ref (zo w + a)), (1, .int x1), (2, .int x2), (3, .int x3), (4, .int x4), (5, .int x5), (6, .int v_30)]) [1, 2, 3, 4, 5, 6, 0] rfl ?_
        exact w_X4_rate_68 C h_a0 n_a1 h_a2 (fun hf => ih hf) hf
      · refine z_iload (pc' := 42) C 5 dX4_rate_40 rfl rfl ?_
        refine z_bipush (pc' := 44) C dX4_rate_42 zk_bipush_16 rfl ?_
        refine z_icmp_ge (pc' := 47) C 68 hf dX4_rate_44 rfl rfl (fun g_44 hf => ?_) (fun g_44 hf => ?_)
        · refine z_pick (lv' := [(0, .ref (zo w + a)), (1, .int x1), (2, .int x2), (3, .int x3), (4, .int x4), (5, .int x5), (6, .int v_30)]) [1, 2, 3, 4, 5, 6, 0] rfl ?_
          exact w_X4_rate_68 C h_a0 n_a1 h_a2 (fun hf => ih hf) hf
        · refine z_aload_n (pc' := 48) C 1 dX4_rate_47 rfl rfl rfl ?_
          refine z_getf (pc' := 51) C zci_4 zw_106 (j := 3) rfl (zc_o (o := 0) h_a0 rfl) rfl rfl dX4_rate_48 rfl ?_
          refine z_iload (pc' := 53) C 5 dX4_rate_51 rfl rfl ?_
          refine z_iload (pc' := 55) C 0 dX4_rate_53 rfl rfl ?_
          refine z_iload_n (pc' := 56) C 2 dX4_rate_55 rfl rfl rfl ?_
          refine z_iload_n (pc' := 57) C 3 dX4_rate_56 rfl rfl rfl ?_
          refine z_iload_n (pc' := 58) C 4 dX4_rate_57 rfl rfl rfl ?_
          refine z_cS (pc' := 61) C hf (As := [.int v_30, .int x1, .int x2, .int x3]) (fun hq => c_X4_operand  hq) (fun _ => (zu h a [(1, .inl (w.2.2.1 0, 16, .inl pg_stack))])) (fun q_58 => [.int q_58, .int x4, .ref (zo w + (a + 1))]) (fun _ => rfl) (fun _ => rfl) zy_X4_operand zw_413 zw_414 ⟨rfl, rfl⟩ rfl rfl rfl rfl rfl dX4_rate_58 rfl (fun q_58 hf => ?_)
          refine z_iast (pc' := 62) C hf (zc_i (o := 1) n_a1 rfl) (h' := fun v_61 => (zu h a [(1, .inl (w.2.2.1 0, 16, .inl v_61))])) (fun _ => zu_put (o := 1) rfl) dX4_rate_61 rfl (fun v_61 hf => ?_)
          refine z_iinc (pc' := 65) C 5 [(4, .int (x4 + (1 : Int32))), (6, .int v_30), (0, .ref (zo w + a)), (1, .int x1), (2, .int x2), (3, .int x3), (5, .int x5)] dX4_rate_62 rfl zk_iconst_1 rfl rfl rfl ?_
          refine z_goto C 114 dX4_rate_65 rfl ?_
          refine z_iinc (pc' := 117) C 6 [(5, .int (x5 + (1 : Int32))), (4, .int (x4 + (1 : Int32))), (6, .int v_30), (0, .ref (zo w + a)), (1, .int x1), (2, .int x2), (3, .int x3)] dX4_rate_114 rfl zk_iconst_1 rfl rfl rfl ?_
          refine z_goto C 15 dX4_rate_117 rfl ?_
          refine z_pick (lv' := [(0, .ref (zo w + a)), (1, .int x1), (2, .int x2), (3, .int x3), (4, .int (x4 + (1 : Int32))), (5, .int (x5 + (1 : Int32)))]) [3, 4, 5, 6, 1, 0] rfl ?_
          exact ih hf
set_option maxRecDepth 20000 in
theorem c_X4_rate {w : zV} {N : Nat} {h : zH} {a : Nat} {pg_threshold : Int32} {pg_length : Int32} {pg_stack : Nat → Int32} {pg_clen : Nat} {pg_code : Nat → Int32} {p1 : Int32} {p2 : Int32} {p3 : Int32} (h_a0 : zc N h (a + 0) (.inr (4, [.int pg_threshold, .int pg_length, .ref (zo w + (a + 2)), .ref (zo w + (a + 1))]))) (h_a1 : zc N h (a + 1) (.inl (w.2.2.1 0, 16, .inl pg_stack))) (h_a2 : zc N h (a + 2) (.inl (w.2.2.1 0, pg_clen, .inl pg_code))) {r : Int32 × (Nat → Int32)} (hf : f_X4_rate pg_length pg_clen pg_code pg_stack p1 p2 p3 = some r) : zM w yX4_rate cX4_rate 7 (some .int) (zr 2 72) false N N h [.ref (zo w + a), .int p1, .int p2, .int p3] (some (.int r.1)) (zu h a [(1, .inl (w.2.2.1 0, 16, .inl r.2))]) := by
  unfold f_X4_rate at hf
  refine zM_of (by decide) rfl (fun X C _ => ?_)
  refine z_eq (h' := (zu h a [(1, .inl (w.2.2.1 0, 16, .inl pg_stack))])) (zu_s h_a1 zu_0).symm ?_
  have n_a1 := h_a1.1
  refine z_pick (lv' := [(0, .ref (zo w + a)), (1, .int p1), (2, .int p2), (3, .int p3)]) [0, 1, 2, 3] rfl ?_
  refine z_aload_n (pc' := 1) C 0 dX4_rate_0 rfl rfl rfl ?_
  refine z_getf (pc' := 4) C zci_4 zw_104 (j := 1) rfl (zc_o (o := 0) h_a0 rfl) rfl rfl dX4_rate_1 rfl ?_
  refine z_if_ne (pc' := 7) C 9 hf dX4_rate_4 rfl rfl (fun g_4 hf => ?_) (fun g_4 hf => ?_)
  · refine z_iconst (pc' := 10) C dX4_rate_9 zk_iconst_0 rfl ?_
    refine z_istore (pc' := 12) C [(4, .int (0 : Int32)), (0, .ref (zo w + a)), (1, .int p1), (2, .int p2), (3, .int p3)] dX4_rate_10 rfl rfl rfl ?_
    refine z_iconst (pc' := 13) C dX4_rate_12 zk_iconst_0 rfl ?_
    refine z_istore (pc' := 15) C [(5, .int (0 : Int32)), (4, .int (0 : Int32)), (0, .ref (zo w + a)), (1, .int p1), (2, .int p2), (3, .int p3)] dX4_rate_13 rfl rfl rfl ?_
    refine z_pick (lv' := [(0, .ref (zo w + a)), (1, .int p1), (2, .int p2), (3, .int p3), (4, .int (0 : Int32)), (5, .int (0 : Int32))]) [2, 3, 4, 5, 1, 0] rfl ?_
    exact w_X4_rate_15 C h_a0 n_a1 h_a2  FU hf
  · refine z_iload_n (pc' := 8) C 1 dX4_rate_7 rfl rfl rfl ?_
    cases hf
    exact z_iret C rfl rfl dX4_rate_8
set_option maxRecDepth 20000 in
theorem c_X4_fullValue {w : zV} {N : Nat} {h : zH} {a : Nat} {pg_threshold : Int32} {pg_length : Int32} {pg_stack : Nat → Int32} {pg_clen : Nat} {pg_code : Nat → Int32} {p1 : Int32} {p2 : Int32} {p3 : Int32} (h_a0 : zc N h (a + 0) (.inr (4, [.int pg_threshold, .int pg_length, .ref (zo w + (a + 2)), .ref (zo w + (a + 1))]))) (h_a1 : zc N h (a + 1) (.inl (w.2.2.1 0, 16, .inl pg_stack))) (h_a2 : zc N h (a + 2) (.inl (w.2.2.1 0, pg_clen, .inl pg_code))) {r : Int64 × (Nat → Int32)} (hf : f_X4_fullValue pg_threshold pg_length pg_clen pg_code pg_stack p1 p2 p3 = some r) : zM w yX4_fullValue cX4_fullValue 8 (some .long) (zr 3 106) false N N h [.ref (zo w + a), .int p1, .int p2, .int p3] (some (.long r.1)) (zu h a [(1, .inl (w.2.2.1 0, 16, .inl r.2))]) := by
  unfold f_X4_fullValue at hf
  refine zM_of (by decide) rfl (fun X C _ => ?_)
  refine z_eq (h' := (zu h a [(1, .inl (w.2.2.1 0, 16, .inl pg_stack))])) (zu_s h_a1 zu_0).symm ?_
  have n_a1 := h_a1.1
  refine z_pick (lv' := [(0, .ref (zo w + a)), (1, .int p1), (2, .int p2), (3, .int p3)]) [0, 1, 2, 3] rfl ?_
  refine z_iload_n (pc' := 1) C 3 dX4_fullValue_0 rfl rfl rfl ?_
  refine z_aload_n (pc' := 2) C 0 dX4_fullValue_1 rfl rfl rfl ?_
  refine z_iload_n (pc' := 3) C 2 dX4_fullValue_2 rfl rfl rfl ?_
  refine z_cV (pc' := 6) C hf (As := [.int p2]) (fun hq => c_X4_boundOf (a := a) (zc_o (o := 0) h_a0 rfl) hq) (fun _ => (zu h a [(1, .inl (w.2.2.1 0, 16, .inl pg_stack))])) (fun q_3 => [.int q_3, .int p3]) (fun _ => rfl) (fun _ => rfl) zy_X4_boundOf zw_405 zw_406 zw_407 (ci := 4) rfl (zc_o (o := 0) h_a0 rfl) ⟨rfl, rfl⟩ rfl rfl rfl rfl rfl dX4_fullValue_3 rfl (fun q_3 hf => ?_)
  refine z_imin (pc' := 9) C zw_96 rfl rfl dX4_fullValue_6 rfl ?_
  refine z_istore (pc' := 11) C [(4, .int (if q_3 < p3 then q_3 else p3)), (0, .ref (zo w + a)), (1, .int p1), (2, .int p2), (3, .int p3)] dX4_fullValue_9 rfl rfl rfl ?_
  refine z_iload_n (pc' := 12) C 4 dX4_fullValue_11 rfl rfl rfl ?_
  refine z_iload (pc' := 14) C 0 dX4_fullValue_12 rfl rfl ?_
  refine z_isub (pc' := 15) C dX4_fullValue_14 rfl ?_
  refine z_istore (pc' := 17) C [(5, .int (p3 - (if q_3 < p3 then q_3 else p3))), (4, .int (if q_3 < p3 then q_3 else p3)), (0, .ref (zo w + a)), (1, .int p1), (2, .int p2), (3, .int p3)] dX4_fullValue_15 rfl rfl rfl ?_
  refine z_iload (pc' := 19) C 1 dX4_fullValue_17 rfl rfl ?_
  refine z_i2l (pc' := 20) C dX4_fullValue_19 rfl ?_
  refine z_iload_n (pc' := 21) C 3 dX4_fullValue_20 rfl rfl rfl ?_
  refine z_i2l (pc' := 22) C dX4_fullValue_21 rfl ?_
  refine z_lmul (pc' := 23) C dX4_fullValue_22 rfl ?_
  refine z_lstore (pc' := 25) C [(6, .long (((if q_3 < p3 then q_3 else p3)).toInt64 * (p1).toInt64)), (5, .int (p3 - (if q_3 < p3 then q_3 else p3))), (4, .int (if q_3 < p3 then q_3 else p3)), (0, .ref (zo w + a)), (1, .int p1), (2, .int p2), (3, .int p3)] dX4_fullValue_23 rfl rfl rfl ?_
  refine z_iload (pc' := 27) C 1 dX4_fullValue_25 rfl rfl ?_
  refine z_if_le (pc' := 30) C 48 hf dX4_fullValue_27 rfl rfl (fun g_27 hf => ?_) (fun g_27 hf => ?_)
  · refine z_lload (pc' := 50) C 0 dX4_fullValue_48 rfl rfl ?_
    cases hf
    exact z_lret C rfl rfl dX4_fullValue_50
  · refine z_lload (pc' := 32) C 0 dX4_fullValue_30 rfl rfl ?_
    refine z_iload (pc' := 34) C 1 dX4_fullValue_32 rfl rfl ?_
    refine z_i2l (pc' := 35) C dX4_fullValue_34 rfl ?_
    refine z_aload_n (pc' := 36) C 3 dX4_fullValue_35 rfl rfl rfl ?_
    refine z_iload_n (pc' := 37) C 4 dX4_fullValue_36 rfl rfl rfl ?_
    refine z_iload_n (pc' := 38) C 5 dX4_fullValue_37 rfl rfl rfl ?_
    refine z_iload (pc' := 40) C 1 dX4_fullValue_38 rfl rfl ?_
    refine z_cV (pc' := 43) C hf (As := [.int p1, .int p2, .int (p3 - (if q_3 < p3 then q_3 else p3))]) (fun hq => c_X4_rate (a := a) (zc_o (o := 0) h_a0 rfl) (zc_i (o := 1) n_a1 rfl) (zc_o (o := 2) h_a2 rfl) hq) (fun q_40 => (zu h a [(1, .inl (w.2.2.1 0, 16, .inl q_40.2))])) (fun q_40 => [.int q_40.1, .long ((p3 - (if q_3 < p3 then q_3 else p3))).toInt64, .long (((if q_3 < p3 then q_3 else p3)).toInt64 * (p1).toInt64)]) (fun _ => zu_sh (d := 0) rfl rfl) (fun _ => rfl) zy_X4_rate zw_409 zw_410 zw_411 (ci := 4) rfl (zc_o (o := 0) h_a0 rfl) ⟨rfl, rfl⟩ rfl rfl rfl rfl rfl dX4_fullValue_40 rfl (fun q_40 hf => ?_)
    refine z_i2l (pc' := 44) C dX4_fullValue_43 rfl ?_
    refine z_lmul (pc' := 45) C dX4_fullValue_44 rfl ?_
    refine z_ladd (pc' := 46) C dX4_fullValue_45 rfl ?_
    refine z_lstore (pc' := 48) C [(6, .long ((((if q_3 < p3 then q_3 else p3)).toInt64 * (p1).toInt64) + (((p3 - (if q_3 < p3 then q_3 else p3))).toInt64 * (q_40.1).toInt64))), (5, .int (p3 - (if q_3 < p3 then q_3 else p3))), (4, .int (if q_3 < p3 then q_3 else p3)), (0, .ref (zo w + a)), (1, .int p1), (2, .int p2), (3, .int p3)] dX4_fullValue_46 rfl rfl rfl ?_
    refine z_lload (pc' := 50) C 0 dX4_fullValue_48 rfl rfl ?_
    cases hf
    exact z_lret C rfl rfl dX4_fullValue_50
set_option maxRecDepth 20000 in
theorem c_X4_excessOf {w : zV} {N : Nat} {h : zH} {a : Nat} {pg_threshold : Int32} {pg_length : Int32} {p1 : Int32} {p2 : Int32} (h_a0 : zc N h (a + 0) (.inr (4, [.int pg_threshold, .int pg_length, .ref (zo w + (a + 2)), .ref (zo w + (a + 1))]))) {r : Int32} (hf : f_X4_excessOf pg_threshold p1 p2 = some r) : zM w yX4_excessOf cX4_excessOf 3 (some .int) (zr 1 40) false N N h [.ref (zo w + a), .int p1, .int p2] (some (.int r)) h := by
  unfold f_X4_excessOf at hf
  refine zM_of (by decide) rfl (fun X C _ => ?_)
  refine z_pick (lv' := [(0, .ref (zo w + a)), (1, .int p1), (2, .int p2)]) [0, 1, 2] rfl ?_
  refine z_iconst (pc' := 1) C dX4_excessOf_0 zk_iconst_0 rfl ?_
  refine z_iload_n (pc' := 2) C 2 dX4_excessOf_1 rfl rfl rfl ?_
  refine z_aload_n (pc' := 3) C 0 dX4_excessOf_2 rfl rfl rfl ?_
  refine z_iload_n (pc' := 4) C 1 dX4_excessOf_3 rfl rfl rfl ?_
  refine z_cV (pc' := 7) C hf (As := [.int p1]) (fun hq => c_X4_boundOf (a := a) h_a0 hq) (fun _ => h) (fun q_4 => [.int q_4, .int p2, .int (0 : Int32)]) (fun _ => rfl) (fun _ => rfl) zy_X4_boundOf zw_405 zw_406 zw_407 (ci := 4) rfl h_a0 ⟨rfl, rfl⟩ rfl rfl rfl rfl rfl dX4_excessOf_4 rfl (fun q_4 hf => ?_)
  refine z_isub (pc' := 8) C dX4_excessOf_7 rfl ?_
  refine z_imax (pc' := 11) C zw_99 rfl rfl dX4_excessOf_8 rfl ?_
  cases hf
  exact z_iret C rfl rfl dX4_excessOf_11
set_option maxRecDepth 20000 in
theorem c_X7_add {w : zV} {N : Nat} {h : zH} {a : Nat} {va_count : Int32} {va_slot : Nat → Int32} {va_change : Nat → Int32} {va_approved : Nat → Int32} {p1 : Int32} {p2 : Int32} (h_a0 : zc N h (a + 0) (.inr (7, [.int va_count, .ref (zo w + (a + 1)), .ref (zo w + (a + 2)), .ref (zo w + (a + 3))]))) (h_a1 : zc N h (a + 1) (.inl (w.2.2.1 0, 20, .inl va_slot))) (h_a2 : zc N h (a + 2) (.inl (w.2.2.1 0, 20, .inl va_change))) (h_a3 : zc N h (a + 3) (.inl (w.2.2.1 3, 20, .inl va_approved))) {r : Int32 × Int32 × (Nat → Int32) × (Nat → Int32) × (Nat → Int32)} (hf : f_X7_add va_count va_slot va_change va_approved p1 p2 = some r) : zM w yX7_add cX7_add 3 (some .int) (zr 0 0) false N N h [.ref (zo w + a), .int p1, .int p2] (some (.int r.1)) (zu h a [(0, .inr (7, [.int r.2.1, .ref (zo w + (a + 1)), .ref (zo w + (a + 2)), .ref (zo w + (a + 3))])), (1, .inl (w.2.2.1 0, 20, .inl r.2.2.1)), (2, .inl (w.2.2.1 0, 20, .inl r.2.2.2.1)), (3, .inl (w.2.2.1 3, 20, .inl r.2.2.2.2))]) := by
  unfold f_X7_add at hf
  refine zM_of (by decide) rfl (fun X C _ => ?_)
  refine z_eq (h' := (zu h a [(0, .inr (7, [.int va_count, .ref (zo w + (a + 1)), .ref (zo w + (a + 2)), .ref (zo w + (a + 3))])), (1, .inl (w.2.2.1 0, 20, .inl va_slot)), (2, .inl (w.2.2.1 0, 20, .inl va_change)), (3, .inl (w.2.2.1 3, 20, .inl va_approved))])) (zu_s h_a0 (zu_s h_a1 (zu_s h_a2 (zu_s h_a3 zu_0)))).symm ?_
  have n_a0 := h_a0.1
  have n_a1 := h_a1.1
  have n_a2 := h_a2.1
  have n_a3 := h_a3.1
  refine z_pick (lv' := [(0, .ref (zo w + a)), (1, .int p1), (2, .int p2)]) [0, 1, 2] rfl ?_
  refine z_aload_n (pc' := 1) C 0 dX7_add_0 rfl rfl rfl ?_
  refine z_getf (pc' := 4) C zci_7 zw_150 (j := 0) rfl (zc_i (o := 0) n_a0 rfl) rfl rfl dX7_add_1 rfl ?_
  refine z_bipush (pc' := 6) C dX7_add_4 zk_bipush_20 rfl ?_
  refine z_icmp_lt (pc' := 9) C 11 hf dX7_add_6 rfl rfl (fun g_6 hf => ?_) (fun g_6 hf => ?_)
  · refine z_aload_n (pc' := 12) C 0 dX7_add_11 rfl rfl rfl ?_
    refine z_getf (pc' := 15) C zci_7 zw_153 (j := 1) rfl (zc_i (o := 0) n_a0 rfl) rfl rfl dX7_add_12 rfl ?_
    refine z_aload_n (pc' := 16) C 0 dX7_add_15 rfl rfl rfl ?_
    refine z_getf (pc' := 19) C zci_7 zw_150 (j := 0) rfl (zc_i (o := 0) n_a0 rfl) rfl rfl dX7_add_16 rfl ?_
    refine z_iload_n (pc' := 20) C 1 dX7_add_19 rfl rfl rfl ?_
    refine z_iast (pc' := 21) C hf (zc_i (o := 1) n_a1 rfl) (h' := fun v_20 => (zu h a [(0, .inr (7, [.int va_count, .ref (zo w + (a + 1)), .ref (zo w + (a + 2)), .ref (zo w + (a + 3))])), (1, .inl (w.2.2.1 0, 20, .inl v_20)), (2, .inl (w.2.2.1 0, 20, .inl va_change)), (3, .inl (w.2.2.1 3, 20, .inl va_approved))])) (fun _ => zu_put (o := 1) rfl) dX7_add_20 rfl (fun v_20 hf => ?_)
    refine z_aload_n (pc' := 22) C 0 dX7_add_21 rfl rfl rfl ?_
    refine z_getf (pc' := 25) C zci_7 zw_156 (j := 2) rfl (zc_i (o := 0) n_a0 rfl) rfl rfl dX7_add_22 rfl ?_
    refine z_aload_n (pc' := 26) C 0 dX7_add_25 rfl rfl rfl ?_
    refine z_getf (pc' := 29) C zci_7 zw_150 (j := 0) rfl (zc_i (o := 0) n_a0 rfl) rfl rfl dX7_add_26 rfl ?_
    refine z_iload_n (pc' := 30) C 2 dX7_add_29 rfl rfl rfl ?_
    refine z_iast (pc' := 31) C hf (zc_i (o := 2) n_a2 rfl) (h' := fun v_30 => (zu h a [(0, .inr (7, [.int va_count, .ref (zo w + (a + 1)), .ref (zo w + (a + 2)), .ref (zo w + (a + 3))])), (1, .inl (w.2.2.1 0, 20, .inl v_20)), (2, .inl (w.2.2.1 0, 20, .inl v_30)), (3, .inl (w.2.2.1 3, 20, .inl va_approved))])) (fun _ => zu_put (o := 2) rfl) dX7_add_30 rfl (fun v_30 hf => ?_)
    refine z_aload_n (pc' := 32) C 0 dX7_add_31 rfl rfl rfl ?_
    refine z_getf (pc' := 35) C zci_7 zw_158 (j := 3) rfl (zc_i (o := 0) n_a0 rfl) rfl rfl dX7_add_32 rfl ?_
    refine z_aload_n (pc' := 36) C 0 dX7_add_35 rfl rfl rfl ?_
    refine z_getf (pc' := 39) C zci_7 zw_150 (j := 0) rfl (zc_i (o := 0) n_a0 rfl) rfl rfl dX7_add_36 rfl ?_
    refine z_iconst (pc' := 40) C dX7_add_39 zk_iconst_0 rfl ?_
    refine z_zast (pc' := 41) C hf (zc_i (o := 3) n_a3 rfl) (h' := fun v_40 => (zu h a [(0, .inr (7, [.int va_count, .ref (zo w + (a + 1)), .ref (zo w + (a + 2)), .ref (zo w + (a + 3))])), (1, .inl (w.2.2.1 0, 20, .inl v_20)), (2, .inl (w.2.2.1 0, 20, .inl v_30)), (3, .inl (w.2.2.1 3, 20, .inl v_40))])) (fun _ => zu_put (o := 3) rfl) dX7_add_40 rfl (fun v_40 hf => ?_)
    refine z_aload_n (pc' := 42) C 0 dX7_add_41 rfl rfl rfl ?_
    refine z_dup (pc' := 43) C dX7_add_42 rfl rfl ?_
    refine z_getf (pc' := 46) C zci_7 zw_150 (j := 0) rfl (zc_i (o := 0) n_a0 rfl) rfl rfl dX7_add_43 rfl ?_
    refine z_iconst (pc' := 47) C dX7_add_46 zk_iconst_1 rfl ?_
    refine z_iadd (pc' := 48) C dX7_add_47 rfl ?_
    refine z_putf (pc' := 51) C zci_7 zw_150 (j := 0) rfl (zc_i (o := 0) n_a0 rfl) (fs' := [.int (va_count + (1 : Int32)), .ref (zo w + (a + 1)), .ref (zo w + (a + 2)), .ref (zo w + (a + 3))]) rfl rfl rfl rfl rfl (zu_put (o := 0) (L' := [(0, .inr (7, [.int (va_count + (1 : Int32)), .ref (zo w + (a + 1)), .ref (zo w + (a + 2)), .ref (zo w + (a + 3))])), (1, .inl (w.2.2.1 0, 20, .inl v_20)), (2, .inl (w.2.2.1 0, 20, .inl v_30)), (3, .inl (w.2.2.1 3, 20, .inl v_40))]) rfl) dX7_add_48 rfl ?_
    refine z_aload_n (pc' := 52) C 0 dX7_add_51 rfl rfl rfl ?_
    refine z_getf (pc' := 55) C zci_7 zw_150 (j := 0) rfl (zc_i (o := 0) n_a0 rfl) rfl rfl dX7_add_52 rfl ?_
    refine z_iconst (pc' := 56) C dX7_add_55 zk_iconst_1 rfl ?_
    refine z_isub (pc' := 57) C dX7_add_56 rfl ?_
    cases hf
    exact z_iret C rfl rfl dX7_add_57
  · refine z_iconst (pc' := 10) C dX7_add_9 zk_iconst_m1 rfl ?_
    cases hf
    exact z_iret C rfl rfl dX7_add_10
set_option maxRecDepth 20000 in
theorem w_X7_copyFrom_44 {X : zC} {w : zV} {N : Nat} {h : zH} {a b1 : Nat} {va_count_b1 : Int32} {va_slot_b1 : Nat → Int32} {va_change_b1 : Nat → Int32} {va_approved_b1 : Nat → Int32} (C : zK X w RX7 cX7_copyFrom 3 none (zr 1 40)) (n_a0 : a + 0 < N) (n_a1 : a + 1 < N) (n_a2 : a + 2 < N) (n_a3 : a + 3 < N) (h_b10 : zc N h (b1 + 0) (.inr (7, [.int va_count_b1, .ref (zo w + (b1 + 1)), .ref (zo w + (b1 + 2)), .ref (zo w + (b1 + 3))]))) (h_b11 : zc N h (b1 + 1) (.inl (w.2.2.1 0, 20, .inl va_slot_b1))) (h_b12 : zc N h (b1 + 2) (.inl (w.2.2.1 0, 20, .inl va_change_b1))) (h_b13 : zc N h (b1 + 3) (.inl (w.2.2.1 3, 20, .inl va_approved_b1))) (far_b1 : b1 + 4 ≤ a ∨ a + 4 ≤ b1) {r : Int32 × (Nat → Int32) × (Nat → Int32) × (Nat → Int32)} (n : Nat) : ∀ {va_count : Int32} {va_slot : Nat → Int32} {va_change : Nat → Int32} {va_approved : Nat → Int32} {x2 : Int32}, f_X7_copyFrom_44  n va_count va_slot va_change va_approved va_approved_b1 x2 = some r → zZ X w (zQ X w (zr 1 40) (none) false N (zu h a [(0, .inr (7, [.int r.1, .ref (zo w + (a + 1)), .ref (zo w + (a + 2)), .ref (zo w + (a + 3))])), (1, .inl (w.2.2.1 0, 20, .inl r.2.1)), (2, .inl (w.2.2.1 0, 20, .inl r.2.2.1)), (3, .inl (w.2.2.1 3, 20, .inl r.2.2.2))])) 0 0 false N (zu h a [(0, .inr (7, [.int va_count, .ref (zo w + (a + 1)), .ref (zo w + (a + 2)), .ref (zo w + (a + 3))])), (1, .inl (w.2.2.1 0, 20, .inl va_slot)), (2, .inl (w.2.2.1 0, 20, .inl va_change)), (3, .inl (w.2.2.1 3, 20, .inl va_approved))]) 44 [(0, .ref (zo w + a)), (1, .ref (zo w + b1)), (2, .int x2)] [] := by
  induction n with
  | zero =>
    intro va_count va_slot va_change va_approved x2 hf
    have hf : (none : Option (Int32 × (Nat → Int32) × (Nat → Int32) × (Nat → Int32))) = some r := hf
    cases hf
  | succ z ih =>
    intro va_count va_slot va_change va_approved x2 hf
    rw [f_X7_copyFrom_44] at hf
    refine z_iload_n (pc' := 45) C 2 dX7_copyFrom_44 rfl rfl rfl ?_
    refine z_aload_n (pc' := 46) C 0 dX7_copyFrom_45 rfl rfl rfl ?_
    refine z_getf (pc' := 49) C zci_7 zw_150 (j := 0) rfl (zc_i (o := 0) n_a0 rfl) rfl rfl dX7_copyFrom_46 rfl ?_
    refine z_icmp_ge (pc' := 52) C 70 hf dX7_copyFrom_49 rfl rfl (fun g_49 hf => ?_) (fun g_49 hf => ?_)
    · cases hf
      exact z_vret C rfl rfl dX7_copyFrom_70
    · refine z_aload_n (pc' := 53) C 0 dX7_copyFrom_52 rfl rfl rfl ?_
      refine z_getf (pc' := 56) C zci_7 zw_158 (j := 3) rfl (zc_i (o := 0) n_a0 rfl) rfl rfl dX7_copyFrom_53 rfl ?_
      refine z_iload_n (pc' := 57) C 2 dX7_copyFrom_56 rfl rfl rfl ?_
      refine z_aload_n (pc' := 58) C 1 dX7_copyFrom_57 rfl rfl rfl ?_
      refine z_getf (pc' := 61) C zci_7 zw_158 (j := 3) rfl (zc_f (m := 4) h_b10 (by omega) rfl) rfl rfl dX7_copyFrom_58 rfl ?_
      refine z_iload_n (pc' := 62) C 2 dX7_copyFrom_61 rfl rfl rfl ?_
      refine z_zald (pc' := 63) C hf (zc_f (m := 4) h_b13 (by omega) rfl) dX7_copyFrom_62 rfl (fun v_62 hf => ?_)
      refine z_zast (pc' := 64) C hf (zc_i (o := 3) n_a3 rfl) (h' := fun v_63 => (zu h a [(0, .inr (7, [.int va_count, .ref (zo w + (a + 1)), .ref (zo w + (a + 2)), .ref (zo w + (a + 3))])), (1, .inl (w.2.2.1 0, 20, .inl va_slot)), (2, .inl (w.2.2.1 0, 20, .inl va_change)), (3, .inl (w.2.2.1 3, 20, .inl v_63))])) (fun _ => zu_put (o := 3) rfl) dX7_copyFrom_63 rfl (fun v_63 hf => ?_)
      refine z_iinc (pc' := 67) C 2 [(2, .int (x2 + (1 : Int32))), (0, .ref (zo w + a)), (1, .ref (zo w + b1))] dX7_copyFrom_64 rfl zk_iconst_1 rfl rfl rfl ?_
      refine z_goto C 44 dX7_copyFrom_67 rfl ?_
      refine z_pick (lv' := [(0, .ref (zo w + a)), (1, .ref (zo w + b1)), (2, .int (x2 + (1 : Int32)))]) [1, 2, 0] rfl ?_
      exact ih hf
set_option maxRecDepth 20000 in
theorem c_X7_copyFrom {w : zV} {N : Nat} {h : zH} {a b1 : Nat} {va_count : Int32} {va_slot : Nat → Int32} {va_change : Nat → Int32} {va_approved : Nat → Int32} {va_count_b1 : Int32} {va_slot_b1 : Nat → Int32} {va_change_b1 : Nat → Int32} {va_approved_b1 : Nat → Int32} (h_a0 : zc N h (a + 0) (.inr (7, [.int va_count, .ref (zo w + (a + 1)), .ref (zo w + (a + 2)), .ref (zo w + (a + 3))]))) (h_a1 : zc N h (a + 1) (.inl (w.2.2.1 0, 20, .inl va_slot))) (h_a2 : zc N h (a + 2) (.inl (w.2.2.1 0, 20, .inl va_change))) (h_a3 : zc N h (a + 3) (.inl (w.2.2.1 3, 20, .inl va_approved))) (h_b10 : zc N h (b1 + 0) (.inr (7, [.int va_count_b1, .ref (zo w + (b1 + 1)), .ref (zo w + (b1 + 2)), .ref (zo w + (b1 + 3))]))) (h_b11 : zc N h (b1 + 1) (.inl (w.2.2.1 0, 20, .inl va_slot_b1))) (h_b12 : zc N h (b1 + 2) (.inl (w.2.2.1 0, 20, .inl va_change_b1))) (h_b13 : zc N h (b1 + 3) (.inl (w.2.2.1 3, 20, .inl va_approved_b1))) (far_b1 : b1 + 4 ≤ a ∨ a + 4 ≤ b1) {r : Int32 × (Nat → Int32) × (Nat → Int32) × (Nat → Int32)} (hf : f_X7_copyFrom va_count va_slot va_change va_approved va_count_b1 va_slot_b1 va_change_b1 va_approved_b1 = some r) : zM w yX7_copyFrom cX7_copyFrom 3 none (zr 1 40) false N N h [.ref (zo w + a), .ref (zo w + b1)] (none) (zu h a [(0, .inr (7, [.int r.1, .ref (zo w + (a + 1)), .ref (zo w + (a + 2)), .ref (zo w + (a + 3))])), (1, .inl (w.2.2.1 0, 20, .inl r.2.1)), (2, .inl (w.2.2.1 0, 20, .inl r.2.2.1)), (3, .inl (w.2.2.1 3, 20, .inl r.2.2.2))]) := by
  unfold f_X7_copyFrom at hf
  refine zM_of (by decide) rfl (fun X C _ => ?_)
  refine z_eq (h' := (zu h a [(0, .inr (7, [.int va_count, .ref (zo w + (a + 1)), .ref (zo w + (a + 2)), .ref (zo w + (a + 3))])), (1, .inl (w.2.2.1 0, 20, .inl va_slot)), (2, .inl (w.2.2.1 0, 20, .inl va_change)), (3, .inl (w.2.2.1 3, 20, .inl va_approved))])) (zu_s h_a0 (zu_s h_a1 (zu_s h_a2 (zu_s h_a3 zu_0)))).symm ?_
  have n_a0 := h_a0.1
  have n_a1 := h_a1.1
  have n_a2 := h_a2.1
  have n_a3 := h_a3.1
  refine z_pick (lv' := [(0, .ref (zo w + a)), (1, .ref (zo w + b1))]) [0, 1] rfl ?_
  refine z_aload_n (pc' := 1) C 0 dX7_copyFrom_0 rfl rfl rfl ?_
  refine z_aload_n (pc' := 2) C 1 dX7_copyFrom_1 rfl rfl rfl ?_
  refine z_getf (pc' := 5) C zci_7 zw_150 (j := 0) rfl (zc_f (m := 4) h_b10 (by omega) rfl) rfl rfl dX7_copyFrom_2 rfl ?_
  refine z_putf (pc' := 8) C zci_7 zw_150 (j := 0) rfl (zc_i (o := 0) n_a0 rfl) (fs' := [.int va_count_b1, .ref (zo w + (a + 1)), .ref (zo w + (a + 2)), .ref (zo w + (a + 3))]) rfl rfl rfl rfl rfl (zu_put (o := 0) (L' := [(0, .inr (7, [.int va_count_b1, .ref (zo w + (a + 1)), .ref (zo w + (a + 2)), .ref (zo w + (a + 3))])), (1, .inl (w.2.2.1 0, 20, .inl va_slot)), (2, .inl (w.2.2.1 0, 20, .inl va_change)), (3, .inl (w.2.2.1 3, 20, .inl va_approved))]) rfl) dX7_copyFrom_5 rfl ?_
  refine z_aload_n (pc' := 9) C 1 dX7_copyFrom_8 rfl rfl rfl ?_
  refine z_getf (pc' := 12) C zci_7 zw_153 (j := 1) rfl (zc_f (m := 4) h_b10 (by omega) rfl) rfl rfl dX7_copyFrom_9 rfl ?_
  refine z_iconst (pc' := 13) C dX7_copyFrom_12 zk_iconst_0 rfl ?_
  refine z_aload_n (pc' := 14) C 0 dX7_copyFrom_13 rfl rfl rfl ?_
  refine z_getf (pc' := 17) C zci_7 zw_153 (j := 1) rfl (zc_i (o := 0) n_a0 rfl) rfl rfl dX7_copyFrom_14 rfl ?_
  refine z_iconst (pc' := 18) C dX7_copyFrom_17 zk_iconst_0 rfl ?_
  refine z_aload_n (pc' := 19) C 0 dX7_copyFrom_18 rfl rfl rfl ?_
  refine z_getf (pc' := 22) C zci_7 zw_150 (j := 0) rfl (zc_i (o := 0) n_a0 rfl) rfl rfl dX7_copyFrom_19 rfl ?_
  refine z_cpi (pc' := 25) C hf (zc_f (m := 4) h_b11 (by omega) rfl) (zc_i (o := 1) n_a1 rfl) (h' := fun v_22 => (zu h a [(0, .inr (7, [.int va_count_b1, .ref (zo w + (a + 1)), .ref (zo w + (a + 2)), .ref (zo w + (a + 3))])), (1, .inl (w.2.2.1 0, 20, .inl v_22)), (2, .inl (w.2.2.1 0, 20, .inl va_change)), (3, .inl (w.2.2.1 3, 20, .inl va_approved))])) (fun _ => zu_put (o := 1) rfl) zw_688 rfl rfl dX7_copyFrom_22 rfl (fun v_22 hf => ?_)
  refine z_aload_n (pc' := 26) C 1 dX7_copyFrom_25 rfl rfl rfl ?_
  refine z_getf (pc' := 29) C zci_7 zw_156 (j := 2) rfl (zc_f (m := 4) h_b10 (by omega) rfl) rfl rfl dX7_copyFrom_26 rfl ?_
  refine z_iconst (pc' := 30) C dX7_copyFrom_29 zk_iconst_0 rfl ?_
  refine z_aload_n (pc' := 31) C 0 dX7_copyFrom_30 rfl rfl rfl ?_
  refine z_getf (pc' := 34) C zci_7 zw_156 (j := 2) rfl (zc_i (o := 0) n_a0 rfl) rfl rfl dX7_copyFrom_31 rfl ?_
  refine z_iconst (pc' := 35) C dX7_copyFrom_34 zk_iconst_0 rfl ?_
  refine z_aload_n (pc' := 36) C 0 dX7_copyFrom_35 rfl rfl rfl ?_
  refine z_getf (pc' := 39) C zci_7 zw_150 (j := 0) rfl (zc_i (o := 0) n_a0 rfl) rfl rfl dX7_copyFrom_36 rfl ?_
  refine z_cpi (pc' := 42) C hf (zc_f (m := 4) h_b12 (by omega) rfl) (zc_i (o := 2) n_a2 rfl) (h' := fun v_39 => (zu h a [(0, .inr (7, [.int va_count_b1, .ref (zo w + (a + 1)), .ref (zo w + (a + 2)), .ref (zo w + (a + 3))])), (1, .inl (w.2.2.1 0, 20, .inl v_22)), (2, .inl (w.2.2.1 0, 20, .inl v_39)), (3, .inl (w.2.2.1 3, 20, .inl va_approved))])) (fun _ => zu_put (o := 2) rfl) zw_688 rfl rfl dX7_copyFrom_39 rfl (fun v_39 hf => ?_)
  refine z_iconst (pc' := 43) C dX7_copyFrom_42 zk_iconst_0 rfl ?_
  refine z_istore_n (pc' := 44) C [(2, .int (0 : Int32)), (0, .ref (zo w + a)), (1, .ref (zo w + b1))] dX7_copyFrom_43 rfl rfl rfl rfl ?_
  refine z_pick (lv' := [(0, .ref (zo w + a)), (1, .ref (zo w + b1)), (2, .int (0 : Int32))]) [1, 2, 0] rfl ?_
  exact w_X7_copyFrom_44 C n_a0 n_a1 n_a2 n_a3 h_b10 h_b11 h_b12 h_b13 far_b1  FU hf
set_option maxRecDepth 20000 in
theorem c_X2_slotOf {w : zV} {N : Nat} {h : zH} {p0 : Int32} {p1 : Int32} {r : Int32} (hf : f_X2_slotOf p0 p1 = some r) : zM w yX2_slotOf cX2_slotOf 2 (some .int) (zr 0 0) false N N h [.int p0, .int p1] (some (.int r)) h := by
  unfold f_X2_slotOf at hf
  refine zM_of (by decide) rfl (fun X C _ => ?_)
  refine z_pick (lv' := [(0, .int p0), (1, .int p1)]) [0, 1] rfl ?_
  refine z_iload_n (pc' := 1) C 0 dX2_slotOf_0 rfl rfl rfl ?_
  refine z_bipush (pc' := 3) C dX2_slotOf_1 zk_bipush_6 rfl ?_
  refine z_imul (pc' := 4) C dX2_slotOf_3 rfl ?_
  refine z_iload_n (pc' := 5) C 1 dX2_slotOf_4 rfl rfl rfl ?_
  refine z_iadd (pc' := 6) C dX2_slotOf_5 rfl ?_
  cases hf
  exact z_iret C rfl rfl dX2_slotOf_6
set_option maxRecDepth 20000 in
theorem w_X2_clear_2 {X : zC} {w : zV} {N : Nat} {h : zH} {a : Nat} (C : zK X w RX2 cX2_clear 2 none (zr 0 0)) (h_a0 : zc N h (a + 0) (.inr (2, [.ref (zo w + (a + 1)), .ref (zo w + (a + 2)), .ref (zo w + (a + 3)), .ref (zo w + (a + 4)), .ref (zo w + (a + 5))]))) (n_a1 : a + 1 < N) {r : (Nat → Int32)} (n : Nat) : ∀ {it_count : Nat → Int32} {x1 : Int32}, f_X2_clear_2  n it_count x1 = some r → zZ X w (zQ X w (zr 0 0) (none) false N (zu h a [(1, .inl (w.2.2.1 0, 8, .inl r))])) 0 0 false N (zu h a [(1, .inl (w.2.2.1 0, 8, .inl it_count))]) 2 [(0, .ref (zo w + a)), (1, .int x1)] [] := by
  induction n with
  | zero =>
    intro it_count x1 hf
    have hf : (none : Option ((Nat → Int32))) = some r := hf
    cases hf
  | succ z ih =>
    intro it_count x1 hf
    rw [f_X2_clear_2] at hf
    refine z_iload_n (pc' := 3) C 1 dX2_clear_2 rfl rfl rfl ?_
    refine z_bipush (pc' := 5) C dX2_clear_3 zk_bipush_8 rfl ?_
    refine z_icmp_ge (pc' := 8) C 21 hf dX2_clear_5 rfl rfl (fun g_5 hf => ?_) (fun g_5 hf => ?_)
    · cases hf
      exact z_vret C rfl rfl dX2_clear_21
    · refine z_aload_n (pc' := 9) C 0 dX2_clear_8 rfl rfl rfl ?_
      refine z_getf (pc' := 12) C zci_2 zw_122 (j := 0) rfl (zc_o (o := 0) h_a0 rfl) rfl rfl dX2_clear_9 rfl ?_
      refine z_iload_n (pc' := 13) C 1 dX2_clear_12 rfl rfl rfl ?_
      refine z_iconst (pc' := 14) C dX2_clear_13 zk_iconst_0 rfl ?_
      refine z_iast (pc' := 15) C hf (zc_i (o := 1) n_a1 rfl) (h' := fun v_14 => (zu h a [(1, .inl (w.2.2.1 0, 8, .inl v_14))])) (fun _ => zu_put (o := 1) rfl) dX2_clear_14 rfl (fun v_14 hf => ?_)
      refine z_iinc (pc' := 18) C 1 [(1, .int (x1 + (1 : Int32))), (0, .ref (zo w + a))] dX2_clear_15 rfl zk_iconst_1 rfl rfl rfl ?_
      refine z_goto C 2 dX2_clear_18 rfl ?_
      refine z_pick (lv' := [(0, .ref (zo w + a)), (1, .int (x1 + (1 : Int32)))]) [1, 0] rfl ?_
      exact ih hf
set_option maxRecDepth 20000 in
theorem c_X2_clear {w : zV} {N : Nat} {h : zH} {a : Nat} {it_count : Nat → Int32} (h_a0 : zc N h (a + 0) (.inr (2, [.ref (zo w + (a + 1)), .ref (zo w + (a + 2)), .ref (zo w + (a + 3)), .ref (zo w + (a + 4)), .ref (zo w + (a + 5))]))) (h_a1 : zc N h (a + 1) (.inl (w.2.2.1 0, 8, .inl it_count))) {r : (Nat → Int32)} (hf : f_X2_clear it_count = some r) : zM w yX2_clear cX2_clear 2 none (zr 0 0) false N N h [.ref (zo w + a)] (none) (zu h a [(1, .inl (w.2.2.1 0, 8, .inl r))]) := by
  unfold f_X2_clear at hf
  refine zM_of (by decide) rfl (fun X C _ => ?_)
  refine z_eq (h' := (zu h a [(1, .inl (w.2.2.1 0, 8, .inl it_count))])) (zu_s h_a1 zu_0).symm ?_
  have n_a1 := h_a1.1
  refine z_pick (lv' := [(0, .ref (zo w + a))]) [0] rfl ?_
  refine z_iconst (pc' := 1) C dX2_clear_0 zk_iconst_0 rfl ?_
  refine z_istore_n (pc' := 2) C [(1, .int (0 : Int32)), (0, .ref (zo w + a))] dX2_clear_1 rfl rfl rfl rfl ?_
  refine z_pick (lv' := [(0, .ref (zo w + a)), (1, .int (0 : Int32))]) [1, 0] rfl ?_
  exact w_X2_clear_2 C h_a0 n_a1  FU hf
set_option maxRecDepth 20000 in
theorem c_X2_add {w : zV} {N : Nat} {h : zH} {a : Nat} {it_count : Nat → Int32} {it_first : Nat → Int32} {it_price : Nat → Int32} {it_quantity : Nat → Int32} {it_progress : Nat → Int32} {p1 : Int32} {p2 : Int32} {p3 : Int32} (h_a0 : zc N h (a + 0) (.inr (2, [.ref (zo w + (a + 1)), .ref (zo w + (a + 2)), .ref (zo w + (a + 3)), .ref (zo w + (a + 4)), .ref (zo w + (a + 5))]))) (h_a1 : zc N h (a + 1) (.inl (w.2.2.1 0, 8, .inl it_count))) (h_a2 : zc N h (a + 2) (.inl (w.2.2.1 0, 48, .inl it_first))) (h_a3 : zc N h (a + 3) (.inl (w.2.2.1 0, 48, .inl it_price))) (h_a4 : zc N h (a + 4) (.inl (w.2.2.1 0, 48, .inl it_quantity))) (h_a5 : zc N h (a + 5) (.inl (w.2.2.1 0, 48, .inl it_progress))) {r : (Nat → Int32) × (Nat → Int32) × (Nat → Int32) × (Nat → Int32) × (Nat → Int32)} (hf : f_X2_add it_count it_first it_price it_quantity it_progress p1 p2 p3 = some r) : zM w yX2_add cX2_add 5 none (zr 1 29) false N N h [.ref (zo w + a), .int p1, .int p2, .int p3] (none) (zu h a [(1, .inl (w.2.2.1 0, 8, .inl r.1)), (2, .inl (w.2.2.1 0, 48, .inl r.2.1)), (3, .inl (w.2.2.1 0, 48, .inl r.2.2.1)), (4, .inl (w.2.2.1 0, 48, .inl r.2.2.2.1)), (5, .inl (w.2.2.1 0, 48, .inl r.2.2.2.2))]) := by
  unfold f_X2_add at hf
  refine zM_of (by decide) rfl (fun X C _ => ?_)
  refine z_eq (h' := (zu h a [(1, .inl (w.2.2.1 0, 8, .inl it_count)), (2, .inl (w.2.2.1 0, 48, .inl it_first)), (3, .inl (w.2.2.1 0, 48, .inl it_price)), (4, .inl (w.2.2.1 0, 48, .inl it_quantity)), (5, .inl (w.2.2.1 0, 48, .inl it_progress))])) (zu_s h_a1 (zu_s h_a2 (zu_s h_a3 (zu_s h_a4 (zu_s h_a5 zu_0))))).symm ?_
  have n_a1 := h_a1.1
  have n_a2 := h_a2.1
  have n_a3 := h_a3.1
  have n_a4 := h_a4.1
  have n_a5 := h_a5.1
  refine z_pick (lv' := [(0, .ref (zo w + a)), (1, .int p1), (2, .int p2), (3, .int p3)]) [0, 1, 2, 3] rfl ?_
  refine z_aload_n (pc' := 1) C 0 dX2_add_0 rfl rfl rfl ?_
  refine z_getf (pc' := 4) C zci_2 zw_122 (j := 0) rfl (zc_o (o := 0) h_a0 rfl) rfl rfl dX2_add_1 rfl ?_
  refine z_iload_n (pc' := 5) C 1 dX2_add_4 rfl rfl rfl ?_
  refine z_iald (pc' := 6) C hf (zc_i (o := 1) n_a1 rfl) dX2_add_5 rfl (fun v_5 hf => ?_)
  refine z_bipush (pc' := 8) C dX2_add_6 zk_bipush_6 rfl ?_
  refine z_icmp_lt (pc' := 11) C 12 hf dX2_add_8 rfl rfl (fun g_8 hf => ?_) (fun g_8 hf => ?_)
  · refine z_iload_n (pc' := 13) C 1 dX2_add_12 rfl rfl rfl ?_
    refine z_aload_n (pc' := 14) C 0 dX2_add_13 rfl rfl rfl ?_
    refine z_getf (pc' := 17) C zci_2 zw_122 (j := 0) rfl (zc_o (o := 0) h_a0 rfl) rfl rfl dX2_add_14 rfl ?_
    refine z_iload_n (pc' := 18) C 1 dX2_add_17 rfl rfl rfl ?_
    refine z_iald (pc' := 19) C hf (zc_i (o := 1) n_a1 rfl) dX2_add_18 rfl (fun v_18 hf => ?_)
    refine z_cS (pc' := 22) C hf (As := [.int p1, .int v_18]) (fun hq => c_X2_slotOf  hq) (fun _ => (zu h a [(1, .inl (w.2.2.1 0, 8, .inl it_count)), (2, .inl (w.2.2.1 0, 48, .inl it_first)), (3, .inl (w.2.2.1 0, 48, .inl it_price)), (4, .inl (w.2.2.1 0, 48, .inl it_quantity)), (5, .inl (w.2.2.1 0, 48, .inl it_progress))])) (fun q_19 => [.int q_19]) (fun _ => rfl) (fun _ => rfl) zy_X2_slotOf zw_636 zw_395 ⟨rfl, rfl⟩ rfl rfl rfl rfl rfl dX2_add_19 rfl (fun q_19 hf => ?_)
    refine z_istore (pc' := 24) C [(4, .int q_19), (0, .ref (zo w + a)), (1, .int p1), (2, .int p2), (3, .int p3)] dX2_add_22 rfl rfl rfl ?_
    refine z_aload_n (pc' := 25) C 1 dX2_add_24 rfl rfl rfl ?_
    refine z_getf (pc' := 28) C zci_2 zw_126 (j := 1) rfl (zc_o (o := 0) h_a0 rfl) rfl rfl dX2_add_25 rfl ?_
    refine z_iload (pc' := 30) C 0 dX2_add_28 rfl rfl ?_
    refine z_iload_n (pc' := 31) C 3 dX2_add_30 rfl rfl rfl ?_
    refine z_iast (pc' := 32) C hf (zc_i (o := 2) n_a2 rfl) (h' := fun v_31 => (zu h a [(1, .inl (w.2.2.1 0, 8, .inl it_count)), (2, .inl (w.2.2.1 0, 48, .inl v_31)), (3, .inl (w.2.2.1 0, 48, .inl it_price)), (4, .inl (w.2.2.1 0, 48, .inl it_quantity)), (5, .inl (w.2.2.1 0, 48, .inl it_progress))])) (fun _ => zu_put (o := 2) rfl) dX2_add_31 rfl (fun v_31 hf => ?_)
    refine z_aload_n (pc' := 33) C 1 dX2_add_32 rfl rfl rfl ?_
    refine z_getf (pc' := 36) C zci_2 zw_127 (j := 2) rfl (zc_o (o := 0) h_a0 rfl) rfl rfl dX2_add_33 rfl ?_
    refine z_iload (pc' := 38) C 0 dX2_add_36 rfl rfl ?_
    refine z_iload_n (pc' := 39) C 4 dX2_add_38 rfl rfl rfl ?_
    refine z_iast (pc' := 40) C hf (zc_i (o := 3) n_a3 rfl) (h' := fun v_39 => (zu h a [(1, .inl (w.2.2.1 0, 8, .inl it_count)), (2, .inl (w.2.2.1 0, 48, .inl v_31)), (3, .inl (w.2.2.1 0, 48, .inl v_39)), (4, .inl (w.2.2.1 0, 48, .inl it_quantity)), (5, .inl (w.2.2.1 0, 48, .inl it_progress))])) (fun _ => zu_put (o := 3) rfl) dX2_add_39 rfl (fun v_39 hf => ?_)
    refine z_aload_n (pc' := 41) C 1 dX2_add_40 rfl rfl rfl ?_
    refine z_getf (pc' := 44) C zci_2 zw_128 (j := 3) rfl (zc_o (o := 0) h_a0 rfl) rfl rfl dX2_add_41 rfl ?_
    refine z_iload (pc' := 46) C 0 dX2_add_44 rfl rfl ?_
    refine z_iload_n (pc' := 47) C 3 dX2_add_46 rfl rfl rfl ?_
    refine z_iast (pc' := 48) C hf (zc_i (o := 4) n_a4 rfl) (h' := fun v_47 => (zu h a [(1, .inl (w.2.2.1 0, 8, .inl it_count)), (2, .inl (w.2.2.1 0, 48, .inl v_31)), (3, .inl (w.2.2.1 0, 48, .inl v_39)), (4, .inl (w.2.2.1 0, 48, .inl v_47)), (5, .inl (w.2.2.1 0, 48, .inl it_progress))])) (fun _ => zu_put (o := 4) rfl) dX2_add_47 rfl (fun v_47 hf => ?_)
    refine z_aload_n (pc' := 49) C 1 dX2_add_48 rfl rfl rfl ?_
    refine z_getf (pc' := 52) C zci_2 zw_131 (j := 4) rfl (zc_o (o := 0) h_a0 rfl) rfl rfl dX2_add_49 rfl ?_
    refine z_iload (pc' := 54) C 0 dX2_add_52 rfl rfl ?_
    refine z_iconst (pc' := 55) C dX2_add_54 zk_iconst_0 rfl ?_
    refine z_iast (pc' := 56) C hf (zc_i (o := 5) n_a5 rfl) (h' := fun v_55 => (zu h a [(1, .inl (w.2.2.1 0, 8, .inl it_count)), (2, .inl (w.2.2.1 0, 48, .inl v_31)), (3, .inl (w.2.2.1 0, 48, .inl v_39)), (4, .inl (w.2.2.1 0, 48, .inl v_47)), (5, .inl (w.2.2.1 0, 48, .inl v_55))])) (fun _ => zu_put (o := 5) rfl) dX2_add_55 rfl (fun v_55 hf => ?_)
    refine z_aload_n (pc' := 57) C 1 dX2_add_56 rfl rfl rfl ?_
    refine z_getf (pc' := 60) C zci_2 zw_122 (j := 0) rfl (zc_o (o := 0) h_a0 rfl) rfl rfl dX2_add_57 rfl ?_
    refine z_iload_n (pc' := 61) C 2 dX2_add_60 rfl rfl rfl ?_
    refine z_dup2 (pc' := 62) C dX2_add_61 rfl rfl rfl ?_
    refine z_iald (pc' := 63) C hf (zc_i (o := 1) n_a1 rfl) dX2_add_62 rfl (fun v_62 hf => ?_)
    refine z_iconst (pc' := 64) C dX2_add_63 zk_iconst_1 rfl ?_
    refine z_iadd (pc' := 65) C dX2_add_64 rfl ?_
    refine z_iast (pc' := 66) C hf (zc_i (o := 1) n_a1 rfl) (h' := fun v_65 => (zu h a [(1, .inl (w.2.2.1 0, 8, .inl v_65)), (2, .inl (w.2.2.1 0, 48, .inl v_31)), (3, .inl (w.2.2.1 0, 48, .inl v_39)), (4, .inl (w.2.2.1 0, 48, .inl v_47)), (5, .inl (w.2.2.1 0, 48, .inl v_55))])) (fun _ => zu_put (o := 1) rfl) dX2_add_65 rfl (fun v_65 hf => ?_)
    cases hf
    exact z_vret C rfl rfl dX2_add_66
  · cases hf
    exact z_vret C rfl rfl dX2_add_11
set_option maxRecDepth 20000 in
theorem c_X2_copyFrom {w : zV} {N : Nat} {h : zH} {a b1 : Nat} {it_count : Nat → Int32} {it_first : Nat → Int32} {it_price : Nat → Int32} {it_quantity : Nat → Int32} {it_progress : Nat → Int32} {it_count_b1 : Nat → Int32} {it_first_b1 : Nat → Int32} {it_price_b1 : Nat → Int32} {it_quantity_b1 : Nat → Int32} {it_progress_b1 : Nat → Int32} (h_a0 : zc N h (a + 0) (.inr (2, [.ref (zo w + (a + 1)), .ref (zo w + (a + 2)), .ref (zo w + (a + 3)), .ref (zo w + (a + 4)), .ref (zo w + (a + 5))]))) (h_a1 : zc N h (a + 1) (.inl (w.2.2.1 0, 8, .inl it_count))) (h_a2 : zc N h (a + 2) (.inl (w.2.2.1 0, 48, .inl it_first))) (h_a3 : zc N h (a + 3) (.inl (w.2.2.1 0, 48, .inl it_price))) (h_a4 : zc N h (a + 4) (.inl (w.2.2.1 0, 48, .inl it_quantity))) (h_a5 : zc N h (a + 5) (.inl (w.2.2.1 0, 48, .inl it_progress))) (h_b10 : zc N h (b1 + 0) (.inr (2, [.ref (zo w + (b1 + 1)), .ref (zo w + (b1 + 2)), .ref (zo w + (b1 + 3)), .ref (zo w + (b1 + 4)), .ref (zo w + (b1 + 5))]))) (h_b11 : zc N h (b1 + 1) (.inl (w.2.2.1 0, 8, .inl it_count_b1))) (h_b12 : zc N h (b1 + 2) (.inl (w.2.2.1 0, 48, .inl it_first_b1))) (h_b13 : zc N h (b1 + 3) (.inl (w.2.2.1 0, 48, .inl it_price_b1))) (h_b14 : zc N h (b1 + 4) (.inl (w.2.2.1 0, 48, .inl it_quantity_b1))) (h_b15 : zc N h (b1 + 5) (.inl (w.2.2.1 0, 48, .inl it_progress_b1))) (far_b1 : b1 + 6 ≤ a ∨ a + 6 ≤ b1) {r : (Nat → Int32) × (Nat → Int32) × (Nat → Int32) × (Nat → Int32) × (Nat → Int32)} (hf : f_X2_copyFrom it_count it_first it_price it_quantity it_progress it_count_b1 it_first_b1 it_price_b1 it_quantity_b1 it_progress_b1 = some r) : zM w yX2_copyFrom cX2_copyFrom 2 none (zr 1 40) false N N h [.ref (zo w + a), .ref (zo w + b1)] (none) (zu h a [(1, .inl (w.2.2.1 0, 8, .inl r.1)), (2, .inl (w.2.2.1 0, 48, .inl r.2.1)), (3, .inl (w.2.2.1 0, 48, .inl r.2.2.1)), (4, .inl (w.2.2.1 0, 48, .inl r.2.2.2.1)), (5, .inl (w.2.2.1 0, 48, .inl r.2.2.2.2))]) := by
  unfold f_X2_copyFrom at hf
  refine zM_of (by decide) rfl (fun X C _ => ?_)
  refine z_eq (h' := (zu h a [(1, .inl (w.2.2.1 0, 8, .inl it_count)), (2, .inl (w.2.2.1 0, 48, .inl it_first)), (3, .inl (w.2.2.1 0, 48, .inl it_price)), (4, .inl (w.2.2.1 0, 48, .inl it_quantity)), (5, .inl (w.2.2.1 0, 48, .inl it_progress))])) (zu_s h_a1 (zu_s h_a2 (zu_s h_a3 (zu_s h_a4 (zu_s h_a5 zu_0))))).symm ?_
  have n_a1 := h_a1.1
  have n_a2 := h_a2.1
  have n_a3 := h_a3.1
  have n_a4 := h_a4.1
  have n_a5 := h_a5.1
  refine z_pick (lv' := [(0, .ref (zo w + a)), (1, .ref (zo w + b1))]) [0, 1] rfl ?_
  refine z_aload_n (pc' := 1) C 1 dX2_copyFrom_0 rfl rfl rfl ?_
  refine z_getf (pc' := 4) C zci_2 zw_122 (j := 0) rfl (zc_f (m := 6) h_b10 (by omega) rfl) rfl rfl dX2_copyFrom_1 rfl ?_
  refine z_iconst (pc' := 5) C dX2_copyFrom_4 zk_iconst_0 rfl ?_
  refine z_aload_n (pc' := 6) C 0 dX2_copyFrom_5 rfl rfl rfl ?_
  refine z_getf (pc' := 9) C zci_2 zw_122 (j := 0) rfl (zc_o (o := 0) h_a0 rfl) rfl rfl dX2_copyFrom_6 rfl ?_
  refine z_iconst (pc' := 10) C dX2_copyFrom_9 zk_iconst_0 rfl ?_
  refine z_bipush (pc' := 12) C dX2_copyFrom_10 zk_bipush_8 rfl ?_
  refine z_cpi (pc' := 15) C hf (zc_f (m := 6) h_b11 (by omega) rfl) (zc_i (o := 1) n_a1 rfl) (h' := fun v_12 => (zu h a [(1, .inl (w.2.2.1 0, 8, .inl v_12)), (2, .inl (w.2.2.1 0, 48, .inl it_first)), (3, .inl (w.2.2.1 0, 48, .inl it_price)), (4, .inl (w.2.2.1 0, 48, .inl it_quantity)), (5, .inl (w.2.2.1 0, 48, .inl it_progress))])) (fun _ => zu_put (o := 1) rfl) zw_683 rfl rfl dX2_copyFrom_12 rfl (fun v_12 hf => ?_)
  refine z_aload_n (pc' := 16) C 1 dX2_copyFrom_15 rfl rfl rfl ?_
  refine z_getf (pc' := 19) C zci_2 zw_126 (j := 1) rfl (zc_f (m := 6) h_b10 (by omega) rfl) rfl rfl dX2_copyFrom_16 rfl ?_
  refine z_iconst (pc' := 20) C dX2_copyFrom_19 zk_iconst_0 rfl ?_
  refine z_aload_n (pc' := 21) C 0 dX2_copyFrom_20 rfl rfl rfl ?_
  refine z_getf (pc' := 24) C zci_2 zw_126 (j := 1) rfl (zc_o (o := 0) h_a0 rfl) rfl rfl dX2_copyFrom_21 rfl ?_
  refine z_iconst (pc' := 25) C dX2_copyFrom_24 zk_iconst_0 rfl ?_
  refine z_bipush (pc' := 27) C dX2_copyFrom_25 zk_bipush_48 rfl ?_
  refine z_cpi (pc' := 30) C hf (zc_f (m := 6) h_b12 (by omega) rfl) (zc_i (o := 2) n_a2 rfl) (h' := fun v_27 => (zu h a [(1, .inl (w.2.2.1 0, 8, .inl v_12)), (2, .inl (w.2.2.1 0, 48, .inl v_27)), (3, .inl (w.2.2.1 0, 48, .inl it_price)), (4, .inl (w.2.2.1 0, 48, .inl it_quantity)), (5, .inl (w.2.2.1 0, 48, .inl it_progress))])) (fun _ => zu_put (o := 2) rfl) zw_683 rfl rfl dX2_copyFrom_27 rfl (fun v_27 hf => ?_)
  refine z_aload_n (pc' := 31) C 1 dX2_copyFrom_30 rfl rfl rfl ?_
  refine z_getf (pc' := 34) C zci_2 zw_127 (j := 2) rfl (zc_f (m := 6) h_b10 (by omega) rfl) rfl rfl dX2_copyFrom_31 rfl ?_
  refine z_iconst (pc' := 35) C dX2_copyFrom_34 zk_iconst_0 rfl ?_
  refine z_aload_n (pc' := 36) C 0 dX2_copyFrom_35 rfl rfl rfl ?_
  refine z_getf (pc' := 39) C zci_2 zw_127 (j := 2) rfl (zc_o (o := 0) h_a0 rfl) rfl rfl dX2_copyFrom_36 rfl ?_
  refine z_iconst (pc' := 40) C dX2_copyFrom_39 zk_iconst_0 rfl ?_
  refine z_bipush (pc' := 42) C dX2_copyFrom_40 zk_bipush_48 rfl ?_
  refine z_cpi (pc' := 45) C hf (zc_f (m := 6) h_b13 (by omega) rfl) (zc_i (o := 3) n_a3 rfl) (h' := fun v_42 => (zu h a [(1, .inl (w.2.2.1 0, 8, .inl v_12)), (2, .inl (w.2.2.1 0, 48, .inl v_27)), (3, .inl (w.2.2.1 0, 48, .inl v_42)), (4, .inl (w.2.2.1 0, 48, .inl it_quantity)), (5, .inl (w.2.2.1 0, 48, .inl it_progress))])) (fun _ => zu_put (o := 3) rfl) zw_683 rfl rfl dX2_copyFrom_42 rfl (fun v_42 hf => ?_)
  refine z_aload_n (pc' := 46) C 1 dX2_copyFrom_45 rfl rfl rfl ?_
  refine z_getf (pc' := 49) C zci_2 zw_128 (j := 3) rfl (zc_f (m := 6) h_b10 (by omega) rfl) rfl rfl dX2_copyFrom_46 rfl ?_
  refine z_iconst (pc' := 50) C dX2_copyFrom_49 zk_iconst_0 rfl ?_
  refine z_aload_n (pc' := 51) C 0 dX2_copyFrom_50 rfl rfl rfl ?_
  refine z_getf (pc' := 54) C zci_2 zw_128 (j := 3) rfl (zc_o (o := 0) h_a0 rfl) rfl rfl dX2_copyFrom_51 rfl ?_
  refine z_iconst (pc' := 55) C dX2_copyFrom_54 zk_iconst_0 rfl ?_
  refine z_bipush (pc' := 57) C dX2_copyFrom_55 zk_bipush_48 rfl ?_
  refine z_cpi (pc' := 60) C hf (zc_f (m := 6) h_b14 (by omega) rfl) (zc_i (o := 4) n_a4 rfl) (h' := fun v_57 => (zu h a [(1, .inl (w.2.2.1 0, 8, .inl v_12)), (2, .inl (w.2.2.1 0, 48, .inl v_27)), (3, .inl (w.2.2.1 0, 48, .inl v_42)), (4, .inl (w.2.2.1 0, 48, .inl v_57)), (5, .inl (w.2.2.1 0, 48, .inl it_progress))])) (fun _ => zu_put (o := 4) rfl) zw_683 rfl rfl dX2_copyFrom_57 rfl (fun v_57 hf => ?_)
  refine z_aload_n (pc' := 61) C 1 dX2_copyFrom_60 rfl rfl rfl ?_
  refine z_getf (pc' := 64) C zci_2 zw_131 (j := 4) rfl (zc_f (m := 6) h_b10 (by omega) rfl) rfl rfl dX2_copyFrom_61 rfl ?_
  refine z_iconst (pc' := 65) C dX2_copyFrom_64 zk_iconst_0 rfl ?_
  refine z_aload_n (pc' := 66) C 0 dX2_copyFrom_65 rfl rfl rfl ?_
  refine z_getf (pc' := 69) C zci_2 zw_131 (j := 4) rfl (zc_o (o := 0) h_a0 rfl) rfl rfl dX2_copyFrom_66 rfl ?_
  refine z_iconst (pc' := 70) C dX2_copyFrom_69 zk_iconst_0 rfl ?_
  refine z_bipush (pc' := 72) C dX2_copyFrom_70 zk_bipush_48 rfl ?_
  refine z_cpi (pc' := 75) C hf (zc_f (m := 6) h_b15 (by omega) rfl) (zc_i (o := 5) n_a5 rfl) (h' := fun v_72 => (zu h a [(1, .inl (w.2.2.1 0, 8, .inl v_12)), (2, .inl (w.2.2.1 0, 48, .inl v_27)), (3, .inl (w.2.2.1 0, 48, .inl v_42)), (4, .inl (w.2.2.1 0, 48, .inl v_57)), (5, .inl (w.2.2.1 0, 48, .inl v_72))])) (fun _ => zu_put (o := 5) rfl) zw_683 rfl rfl dX2_copyFrom_72 rfl (fun v_72 hf => ?_)
  cases hf
  exact z_vret C rfl rfl dX2_copyFrom_75
set_option maxRecDepth 20000 in
theorem c_X2_specialRateOf {w : zV} {N : Nat} {h : zH} {a b2 : Nat} {it_first : Nat → Int32} {it_price : Nat → Int32} {it_quantity : Nat → Int32} {pg_threshold_b2 : Int32} {pg_length_b2 : Int32} {pg_stack_b2 : Nat → Int32} {pg_clen_b2 : Nat} {pg_code_b2 : Nat → Int32} {p1 : Int32} (h_a0 : zc N h (a + 0) (.inr (2, [.ref (zo w + (a + 1)), .ref (zo w + (a + 2)), .ref (zo w + (a + 3)), .ref (zo w + (a + 4)), .ref (zo w + (a + 5))]))) (h_a2 : zc N h (a + 2) (.inl (w.2.2.1 0, 48, .inl it_first))) (h_a3 : zc N h (a + 3) (.inl (w.2.2.1 0, 48, .inl it_price))) (h_a4 : zc N h (a + 4) (.inl (w.2.2.1 0, 48, .inl it_quantity))) (h_b20 : zc N h (b2 + 0) (.inr (4, [.int pg_threshold_b2, .int pg_length_b2, .ref (zo w + (b2 + 2)), .ref (zo w + (b2 + 1))]))) (h_b21 : zc N h (b2 + 1) (.inl (w.2.2.1 0, 16, .inl pg_stack_b2))) (h_b22 : zc N h (b2 + 2) (.inl (w.2.2.1 0, pg_clen_b2, .inl pg_code_b2))) (far_a : a + 5 ≤ b2 ∨ b2 + 2 ≤ a) {r : Int32 × (Nat → Int32)} (hf : f_X2_specialRateOf it_first it_price it_quantity pg_threshold_b2 pg_length_b2 pg_clen_b2 pg_code_b2 pg_stack_b2 p1 = some r) : zM w yX2_specialRateOf cX2_specialRateOf 4 (some .int) (zr 3 106) false N N h [.ref (zo w + a), .int p1, .ref (zo w + b2)] (some (.int r.1)) (zu h b2 [(1, .inl (w.2.2.1 0, 16, .inl r.2))]) := by
  unfold f_X2_specialRateOf at hf
  refine zM_of (by decide) rfl (fun X C _ => ?_)
  refine z_eq (h' := (zu h b2 [(1, .inl (w.2.2.1 0, 16, .inl pg_stack_b2))])) (zu_s h_b21 zu_0).symm ?_
  have n_b21 := h_b21.1
  refine z_pick (lv' := [(0, .ref (zo w + a)), (1, .int p1), (2, .ref (zo w + b2))]) [0, 1, 2] rfl ?_
  refine z_aload_n (pc' := 1) C 2 dX2_specialRateOf_0 rfl rfl rfl ?_
  refine z_aload_n (pc' := 2) C 0 dX2_specialRateOf_1 rfl rfl rfl ?_
  refine z_getf (pc' := 5) C zci_2 zw_126 (j := 1) rfl (zc_f (m := 2) h_a0 (by omega) rfl) rfl rfl dX2_specialRateOf_2 rfl ?_
  refine z_iload_n (pc' := 6) C 1 dX2_specialRateOf_5 rfl rfl rfl ?_
  refine z_iald (pc' := 7) C hf (zc_f (m := 2) h_a2 (by omega) rfl) dX2_specialRateOf_6 rfl (fun v_6 hf => ?_)
  refine z_aload_n (pc' := 8) C 0 dX2_specialRateOf_7 rfl rfl rfl ?_
  refine z_getf (pc' := 11) C zci_2 zw_128 (j := 3) rfl (zc_f (m := 2) h_a0 (by omega) rfl) rfl rfl dX2_specialRateOf_8 rfl ?_
  refine z_iload_n (pc' := 12) C 1 dX2_specialRateOf_11 rfl rfl rfl ?_
  refine z_iald (pc' := 13) C hf (zc_f (m := 2) h_a4 (by omega) rfl) dX2_specialRateOf_12 rfl (fun v_12 hf => ?_)
  refine z_cV (pc' := 16) C hf (As := [.int v_6, .int v_12]) (fun hq => c_X4_excessOf (a := b2) (zc_o (o := 0) h_b20 rfl) hq) (fun _ => (zu h b2 [(1, .inl (w.2.2.1 0, 16, .inl pg_stack_b2))])) (fun q_13 => [.int q_13]) (fun _ => rfl) (fun _ => rfl) zy_X4_excessOf zw_760 zw_761 zw_762 (ci := 4) rfl (zc_o (o := 0) h_b20 rfl) ⟨rfl, rfl⟩ rfl rfl rfl rfl rfl dX2_specialRateOf_13 rfl (fun q_13 hf => ?_)
  refine z_istore_n (pc' := 17) C [(3, .int q_13), (0, .ref (zo w + a)), (1, .int p1), (2, .ref (zo w + b2))] dX2_specialRateOf_16 rfl rfl rfl rfl ?_
  refine z_aload_n (pc' := 18) C 3 dX2_specialRateOf_17 rfl rfl rfl ?_
  refine z_aload_n (pc' := 19) C 1 dX2_specialRateOf_18 rfl rfl rfl ?_
  refine z_getf (pc' := 22) C zci_2 zw_127 (j := 2) rfl (zc_f (m := 2) h_a0 (by omega) rfl) rfl rfl dX2_specialRateOf_19 rfl ?_
  refine z_iload_n (pc' := 23) C 2 dX2_specialRateOf_22 rfl rfl rfl ?_
  refine z_iald (pc' := 24) C hf (zc_f (m := 2) h_a3 (by omega) rfl) dX2_specialRateOf_23 rfl (fun v_23 hf => ?_)
  refine z_aload_n (pc' := 25) C 1 dX2_specialRateOf_24 rfl rfl rfl ?_
  refine z_getf (pc' := 28) C zci_2 zw_126 (j := 1) rfl (zc_f (m := 2) h_a0 (by omega) rfl) rfl rfl dX2_specialRateOf_25 rfl ?_
  refine z_iload_n (pc' := 29) C 2 dX2_specialRateOf_28 rfl rfl rfl ?_
  refine z_iald (pc' := 30) C hf (zc_f (m := 2) h_a2 (by omega) rfl) dX2_specialRateOf_29 rfl (fun v_29 hf => ?_)
  refine z_iload_n (pc' := 31) C 0 dX2_specialRateOf_30 rfl rfl rfl ?_
  refine z_cV (pc' := 34) C hf (As := [.int v_23, .int v_29, .int q_13]) (fun hq => c_X4_rate (a := b2) (zc_o (o := 0) h_b20 rfl) (zc_i (o := 1) n_b21 rfl) (zc_o (o := 2) h_b22 rfl) hq) (fun q_31 => (zu h b2 [(1, .inl (w.2.2.1 0, 16, .inl q_31.2))])) (fun q_31 => [.int q_31.1]) (fun _ => zu_sh (d := 0) rfl rfl) (fun _ => rfl) zy_X4_rate zw_764 zw_410 zw_411 (ci := 4) rfl (zc_o (o := 0) h_b20 rfl) ⟨rfl, rfl⟩ rfl rfl rfl rfl rfl dX2_specialRateOf_31 rfl (fun q_31 hf => ?_)
  cases hf
  exact z_iret C rfl rfl dX2_specialRateOf_34
set_option maxRecDepth 20000 in
theorem c_X2_fullValueOf {w : zV} {N : Nat} {h : zH} {a b3 : Nat} {it_first : Nat → Int32} {it_price : Nat → Int32} {pg_threshold_b3 : Int32} {pg_length_b3 : Int32} {pg_stack_b3 : Nat → Int32} {pg_clen_b3 : Nat} {pg_code_b3 : Nat → Int32} {p1 : Int32} {p2 : Int32} (h_a0 : zc N h (a + 0) (.inr (2, [.ref (zo w + (a + 1)), .ref (zo w + (a + 2)), .ref (zo w + (a + 3)), .ref (zo w + (a + 4)), .ref (zo w + (a + 5))]))) (h_a2 : zc N h (a + 2) (.inl (w.2.2.1 0, 48, .inl it_first))) (h_a3 : zc N h (a + 3) (.inl (w.2.2.1 0, 48, .inl it_price))) (h_b30 : zc N h (b3 + 0) (.inr (4, [.int pg_threshold_b3, .int pg_length_b3, .ref (zo w + (b3 + 2)), .ref (zo w + (b3 + 1))]))) (h_b31 : zc N h (b3 + 1) (.inl (w.2.2.1 0, 16, .inl pg_stack_b3))) (h_b32 : zc N h (b3 + 2) (.inl (w.2.2.1 0, pg_clen_b3, .inl pg_code_b3))) (far_a : a + 4 ≤ b3 ∨ b3 + 2 ≤ a) {r : Int64 × (Nat → Int32)} (hf : f_X2_fullValueOf it_first it_price pg_threshold_b3 pg_length_b3 pg_clen_b3 pg_code_b3 pg_stack_b3 p1 p2 = some r) : zM w yX2_fullValueOf cX2_fullValueOf 4 (some .long) (zr 4 141) false N N h [.ref (zo w + a), .int p1, .int p2, .ref (zo w + b3)] (some (.long r.1)) (zu h b3 [(1, .inl (w.2.2.1 0, 16, .inl r.2))]) := by
  unfold f_X2_fullValueOf at hf
  refine zM_of (by decide) rfl (fun X C _ => ?_)
  refine z_eq (h' := (zu h b3 [(1, .inl (w.2.2.1 0, 16, .inl pg_stack_b3))])) (zu_s h_b31 zu_0).symm ?_
  have n_b31 := h_b31.1
  refine z_pick (lv' := [(0, .ref (zo w + a)), (1, .int p1), (2, .int p2), (3, .ref (zo w + b3))]) [0, 1, 2, 3] rfl ?_
  refine z_aload_n (pc' := 1) C 3 dX2_fullValueOf_0 rfl rfl rfl ?_
  refine z_aload_n (pc' := 2) C 0 dX2_fullValueOf_1 rfl rfl rfl ?_
  refine z_getf (pc' := 5) C zci_2 zw_127 (j := 2) rfl (zc_f (m := 2) h_a0 (by omega) rfl) rfl rfl dX2_fullValueOf_2 rfl ?_
  refine z_iload_n (pc' := 6) C 1 dX2_fullValueOf_5 rfl rfl rfl ?_
  refine z_iald (pc' := 7) C hf (zc_f (m := 2) h_a3 (by omega) rfl) dX2_fullValueOf_6 rfl (fun v_6 hf => ?_)
  refine z_aload_n (pc' := 8) C 0 dX2_fullValueOf_7 rfl rfl rfl ?_
  refine z_getf (pc' := 11) C zci_2 zw_126 (j := 1) rfl (zc_f (m := 2) h_a0 (by omega) rfl) rfl rfl dX2_fullValueOf_8 rfl ?_
  refine z_iload_n (pc' := 12) C 1 dX2_fullValueOf_11 rfl rfl rfl ?_
  refine z_iald (pc' := 13) C hf (zc_f (m := 2) h_a2 (by omega) rfl) dX2_fullValueOf_12 rfl (fun v_12 hf => ?_)
  refine z_iload_n (pc' := 14) C 2 dX2_fullValueOf_13 rfl rfl rfl ?_
  refine z_cV (pc' := 17) C hf (As := [.int v_6, .int v_12, .int p2]) (fun hq => c_X4_fullValue (a := b3) (zc_o (o := 0) h_b30 rfl) (zc_i (o := 1) n_b31 rfl) (zc_o (o := 2) h_b32 rfl) hq) (fun q_14 => (zu h b3 [(1, .inl (w.2.2.1 0, 16, .inl q_14.2))])) (fun q_14 => [.long q_14.1]) (fun _ => zu_sh (d := 0) rfl rfl) (fun _ => rfl) zy_X4_fullValue zw_401 zw_402 zw_403 (ci := 4) rfl (zc_o (o := 0) h_b30 rfl) ⟨rfl, rfl⟩ rfl rfl rfl rfl rfl dX2_fullValueOf_14 rfl (fun q_14 hf => ?_)
  cases hf
  exact z_lret C rfl rfl dX2_fullValueOf_17
set_option maxRecDepth 20000 in
theorem c_X2_valueOf {w : zV} {N : Nat} {h : zH} {a b2 : Nat} {it_first : Nat → Int32} {it_price : Nat → Int32} {it_quantity : Nat → Int32} {it_progress : Nat → Int32} {pg_threshold_b2 : Int32} {pg_length_b2 : Int32} {pg_stack_b2 : Nat → Int32} {pg_clen_b2 : Nat} {pg_code_b2 : Nat → Int32} {p1 : Int32} (h_a0 : zc N h (a + 0) (.inr (2, [.ref (zo w + (a + 1)), .ref (zo w + (a + 2)), .ref (zo w + (a + 3)), .ref (zo w + (a + 4)), .ref (zo w + (a + 5))]))) (h_a2 : zc N h (a + 2) (.inl (w.2.2.1 0, 48, .inl it_first))) (h_a3 : zc N h (a + 3) (.inl (w.2.2.1 0, 48, .inl it_price))) (h_a4 : zc N h (a + 4) (.inl (w.2.2.1 0, 48, .inl it_quantity))) (h_a5 : zc N h (a + 5) (.inl (w.2.2.1 0, 48, .inl it_progress))) (h_b20 : zc N h (b2 + 0) (.inr (4, [.int pg_threshold_b2, .int pg_length_b2, .ref (zo w + (b2 + 2)), .ref (zo w + (b2 + 1))]))) (h_b21 : zc N h (b2 + 1) (.inl (w.2.2.1 0, 16, .inl pg_stack_b2))) (h_b22 : zc N h (b2 + 2) (.inl (w.2.2.1 0, pg_clen_b2, .inl pg_code_b2))) (far_a : a + 6 ≤ b2 ∨ b2 + 2 ≤ a) {r : Int64 × (Nat → Int32)} (hf : f_X2_valueOf it_first it_price it_quantity it_progress pg_threshold_b2 pg_length_b2 pg_clen_b2 pg_code_b2 pg_stack_b2 p1 = some r) : zM w yX2_valueOf cX2_valueOf 5 (some .long) (zr 4 141) false N N h [.ref (zo w + a), .int p1, .ref (zo w + b2)] (some (.long r.1)) (zu h b2 [(1, .inl (w.2.2.1 0, 16, .inl r.2))]) := by
  unfold f_X2_valueOf at hf
  refine zM_of (by decide) rfl (fun X C _ => ?_)
  refine z_eq (h' := (zu h b2 [(1, .inl (w.2.2.1 0, 16, .inl pg_stack_b2))])) (zu_s h_b21 zu_0).symm ?_
  have n_b21 := h_b21.1
  refine z_pick (lv' := [(0, .ref (zo w + a)), (1, .int p1), (2, .ref (zo w + b2))]) [0, 1, 2] rfl ?_
  refine z_aload_n (pc' := 1) C 2 dX2_valueOf_0 rfl rfl rfl ?_
  refine z_aload_n (pc' := 2) C 0 dX2_valueOf_1 rfl rfl rfl ?_
  refine z_getf (pc' := 5) C zci_2 zw_127 (j := 2) rfl (zc_f (m := 2) h_a0 (by omega) rfl) rfl rfl dX2_valueOf_2 rfl ?_
  refine z_iload_n (pc' := 6) C 1 dX2_valueOf_5 rfl rfl rfl ?_
  refine z_iald (pc' := 7) C hf (zc_f (m := 2) h_a3 (by omega) rfl) dX2_valueOf_6 rfl (fun v_6 hf => ?_)
  refine z_aload_n (pc' := 8) C 0 dX2_valueOf_7 rfl rfl rfl ?_
  refine z_getf (pc' := 11) C zci_2 zw_126 (j := 1) rfl (zc_f (m := 2) h_a0 (by omega) rfl) rfl rfl dX2_valueOf_8 rfl ?_
  refine z_iload_n (pc' := 12) C 1 dX2_valueOf_11 rfl rfl rfl ?_
  refine z_iald (pc' := 13) C hf (zc_f (m := 2) h_a2 (by omega) rfl) dX2_valueOf_12 rfl (fun v_12 hf => ?_)
  refine z_aload_n (pc' := 14) C 0 dX2_valueOf_13 rfl rfl rfl ?_
  refine z_getf (pc' := 17) C zci_2 zw_128 (j := 3) rfl (zc_f (m := 2) h_a0 (by omega) rfl) rfl rfl dX2_valueOf_14 rfl ?_
  refine z_iload_n (pc' := 18) C 1 dX2_valueOf_17 rfl rfl rfl ?_
  refine z_iald (pc' := 19) C hf (zc_f (m := 2) h_a4 (by omega) rfl) dX2_valueOf_18 rfl (fun v_18 hf => ?_)
  refine z_cV (pc' := 22) C hf (As := [.int v_6, .int v_12, .int v_18]) (fun hq => c_X4_fullValue (a := b2) (zc_o (o := 0) h_b20 rfl) (zc_i (o := 1) n_b21 rfl) (zc_o (o := 2) h_b22 rfl) hq) (fun q_19 => (zu h b2 [(1, .inl (w.2.2.1 0, 16, .inl q_19.2))])) (fun q_19 => [.long q_19.1]) (fun _ => zu_sh (d := 0) rfl rfl) (fun _ => rfl) zy_X4_fullValue zw_401 zw_402 zw_403 (ci := 4) rfl (zc_o (o := 0) h_b20 rfl) ⟨rfl, rfl⟩ rfl rfl rfl rfl rfl dX2_valueOf_19 rfl (fun q_19 hf => ?_)
  refine z_lstore_n (pc' := 23) C [(3, .long q_19.1), (0, .ref (zo w + a)), (1, .int p1), (2, .ref (zo w + b2))] dX2_valueOf_22 rfl rfl rfl rfl ?_
  refine z_lload_n (pc' := 24) C 0 dX2_valueOf_23 rfl rfl rfl ?_
  refine z_aload_n (pc' := 25) C 1 dX2_valueOf_24 rfl rfl rfl ?_
  refine z_getf (pc' := 28) C zci_2 zw_131 (j := 4) rfl (zc_f (m := 2) h_a0 (by omega) rfl) rfl rfl dX2_valueOf_25 rfl ?_
  refine z_iload_n (pc' := 29) C 2 dX2_valueOf_28 rfl rfl rfl ?_
  refine z_iald (pc' := 30) C hf (zc_f (m := 2) h_a5 (by omega) rfl) dX2_valueOf_29 rfl (fun v_29 hf => ?_)
  refine z_i2l (pc' := 31) C dX2_valueOf_30 rfl ?_
  refine z_lmul (pc' := 32) C dX2_valueOf_31 rfl ?_
  refine z_ldc2 (pc' := 35) C zw_428 dX2_valueOf_32 rfl ?_
  refine z_ldiv (pc' := 36) C dX2_valueOf_35 (by decide) rfl ?_
  cases hf
  exact z_lret C rfl rfl dX2_valueOf_36
set_option maxRecDepth 20000 in
theorem w_X2_firstSumOf_5 {X : zC} {w : zV} {N : Nat} {h : zH} {a : Nat} {it_count : Nat → Int32} {it_first : Nat → Int32} {it_price : Nat → Int32} (C : zK X w RX2 cX2_firstSumOf 6 (some .long) (zr 1 29)) (h_a0 : zc N h (a + 0) (.inr (2, [.ref (zo w + (a + 1)), .ref (zo w + (a + 2)), .ref (zo w + (a + 3)), .ref (zo w + (a + 4)), .ref (zo w + (a + 5))]))) (h_a1 : zc N h (a + 1) (.inl (w.2.2.1 0, 8, .inl it_count))) (h_a2 : zc N h (a + 2) (.inl (w.2.2.1 0, 48, .inl it_first))) (h_a3 : zc N h (a + 3) (.inl (w.2.2.1 0, 48, .inl it_price))) {r : Int64} (n : Nat) : ∀ {x1 : Int32} {x2 : Int64} {x4 : Int32}, f_X2_firstSumOf_5  n it_count it_first it_price x1 x2 x4 = some r → zZ X w (zQ X w (zr 1 29) (some (.long r)) false N h) 0 0 false N h 5 [(0, .ref (zo w + a)), (1, .int x1), (2, .long x2), (4, .int x4)] [] := by
  induction n with
  | zero =>
    intro x1 x2 x4 hf
    have hf : (none : Option (Int64)) = some r := hf
    cases hf
  | succ z ih =>
    intro x1 x2 x4 hf
    rw [f_X2_firstSumOf_5] at hf
    refine z_iload (pc' := 7) C 3 dX2_firstSumOf_5 rfl rfl ?_
    refine z_aload_n (pc' := 8) C 0 dX2_firstSumOf_7 rfl rfl rfl ?_
    refine z_getf (pc' := 11) C zci_2 zw_122 (j := 0) rfl h_a0 rfl rfl dX2_firstSumOf_8 rfl ?_
    refine z_iload_n (pc' := 12) C 1 dX2_firstSumOf_11 rfl rfl rfl ?_
    refine z_iald (pc' := 13) C hf h_a1 dX2_firstSumOf_12 rfl (fun v_12 hf => ?_)
    refine z_icmp_ge (pc' := 16) C 50 hf dX2_firstSumOf_13 rfl rfl (fun g_13 hf => ?_) (fun g_13 hf => ?_)
    · refine z_lload_n (pc' := 51) C 2 dX2_firstSumOf_50 rfl rfl rfl ?_
      cases hf
      exact z_lret C rfl rfl dX2_firstSumOf_51
    · refine z_iload_n (pc' := 17) C 1 dX2_firstSumOf_16 rfl rfl rfl ?_
      refine z_iload (pc' := 19) C 3 dX2_firstSumOf_17 rfl rfl ?_
      refine z_cS (pc' := 22) C hf (As := [.int x1, .int x4]) (fun hq => c_X2_slotOf  hq) (fun _ => h) (fun q_19 => [.int q_19]) (fun _ => rfl) (fun _ => rfl) zy_X2_slotOf zw_636 zw_395 ⟨rfl, rfl⟩ rfl rfl rfl rfl rfl dX2_firstSumOf_19 rfl (fun q_19 hf => ?_)
      refine z_istore (pc' := 24) C [(5, .int q_19), (0, .ref (zo w + a)), (1, .int x1), (2, .long x2), (4, .int x4)] dX2_firstSumOf_22 rfl rfl rfl ?_
      refine z_lload_n (pc' := 25) C 3 dX2_firstSumOf_24 rfl rfl rfl ?_
      refine z_aload_n (pc' := 26) C 1 dX2_firstSumOf_25 rfl rfl rfl ?_
      refine z_getf (pc' := 29) C zci_2 zw_126 (j := 1) rfl h_a0 rfl rfl dX2_firstSumOf_26 rfl ?_
      refine z_iload (pc' := 31) C 0 dX2_firstSumOf_29 rfl rfl ?_
      refine z_iald (pc' := 32) C hf h_a2 dX2_firstSumOf_31 rfl (fun v_31 hf => ?_)
      refine z_i2l (pc' := 33) C dX2_firstSumOf_32 rfl ?_
      refine z_aload_n (pc' := 34) C 1 dX2_firstSumOf_33 rfl rfl rfl ?_
      refine z_getf (pc' := 37) C zci_2 zw_127 (j := 2) rfl h_a0 rfl rfl dX2_firstSumOf_34 rfl ?_
      refine z_iload (pc' := 39) C 0 dX2_firstSumOf_37 rfl rfl ?_
      refine z_iald (pc' := 40) C hf h_a3 dX2_firstSumOf_39 rfl (fun v_39 hf => ?_)
      refine z_i2l (pc' := 41) C dX2_firstSumOf_40 rfl ?_
      refine z_lmul (pc' := 42) C dX2_firstSumOf_41 rfl ?_
      refine z_ladd (pc' := 43) C dX2_firstSumOf_42 rfl ?_
      refine z_lstore_n (pc' := 44) C [(2, .long (x2 + ((v_31).toInt64 * (v_39).toInt64))), (5, .int q_19), (0, .ref (zo w + a)), (1, .int x1), (4, .int x4)] dX2_firstSumOf_43 rfl rfl rfl rfl ?_
      refine z_iinc (pc' := 47) C 4 [(4, .int (x4 + (1 : Int32))), (2, .long (x2 + ((v_31).toInt64 * (v_39).toInt64))), (5, .int q_19), (0, .ref (zo w + a)), (1, .int x1)] dX2_firstSumOf_44 rfl zk_iconst_1 rfl rfl rfl ?_
      refine z_goto C 5 dX2_firstSumOf_47 rfl ?_
      refine z_pick (lv' := [(0, .ref (zo w + a)), (1, .int x1), (2, .long (x2 + ((v_31).toInt64 * (v_39).toInt64))), (4, .int (x4 + (1 : Int32)))]) [3, 4, 1, 0] rfl ?_
      exact ih hf
set_option maxRecDepth 20000 in
theorem c_X2_firstSumOf {w : zV} {N : Nat} {h : zH} {a : Nat} {it_count : Nat → Int32} {it_first : Nat → Int32} {it_price : Nat → Int32} {p1 : Int32} (h_a0 : zc N h (a + 0) (.inr (2, [.ref (zo w + (a + 1)), .ref (zo w + (a + 2)), .ref (zo w + (a + 3)), .ref (zo w + (a + 4)), .ref (zo w + (a + 5))]))) (h_a1 : zc N h (a + 1) (.inl (w.2.2.1 0, 8, .inl it_count))) (h_a2 : zc N h (a + 2) (.inl (w.2.2.1 0, 48, .inl it_first))) (h_a3 : zc N h (a + 3) (.inl (w.2.2.1 0, 48, .inl it_price))) {r : Int64} (hf : f_X2_firstSumOf it_count it_first it_price p1 = some r) : zM w yX2_firstSumOf cX2_firstSumOf 6 (some .long) (zr 1 29) false N N h [.ref (zo w + a), .int p1] (some (.long r)) h := by
  unfold f_X2_firstSumOf at hf
  refine zM_of (by decide) rfl (fun X C _ => ?_)
  refine z_pick (lv' := [(0, .ref (zo w + a)), (1, .int p1)]) [0, 1] rfl ?_
  refine z_lconst (pc' := 1) C dX2_firstSumOf_0 zl_0 rfl ?_
  refine z_lstore_n (pc' := 2) C [(2, .long (0 : Int64)), (0, .ref (zo w + a)), (1, .int p1)] dX2_firstSumOf_1 rfl rfl rfl rfl ?_
  refine z_iconst (pc' := 3) C dX2_firstSumOf_2 zk_iconst_0 rfl ?_
  refine z_istore (pc' := 5) C [(4, .int (0 : Int32)), (2, .long (0 : Int64)), (0, .ref (zo w + a)), (1, .int p1)] dX2_firstSumOf_3 rfl rfl rfl ?_
  refine z_pick (lv' := [(0, .ref (zo w + a)), (1, .int p1), (2, .long (0 : Int64)), (4, .int (0 : Int32))]) [2, 3, 1, 0] rfl ?_
  exact w_X2_firstSumOf_5 C h_a0 h_a1 h_a2 h_a3  FU hf
set_option maxRecDepth 20000 in
theorem w_X2_areComplete_2 {X : zC} {w : zV} {N : Nat} {h : zH} {a : Nat} {it_count : Nat → Int32} {it_progress : Nat → Int32} (C : zK X w RX2 cX2_areComplete 3 (some .boolean) (zr 1 29)) (h_a0 : zc N h (a + 0) (.inr (2, [.ref (zo w + (a + 1)), .ref (zo w + (a + 2)), .ref (zo w + (a + 3)), .ref (zo w + (a + 4)), .ref (zo w + (a + 5))]))) (h_a1 : zc N h (a + 1) (.inl (w.2.2.1 0, 8, .inl it_count))) (h_a5 : zc N h (a + 5) (.inl (w.2.2.1 0, 48, .inl it_progress))) {r : Int32} (n : Nat) : ∀ {x1 : Int32} {x2 : Int32}, f_X2_areComplete_2  n it_count it_progress x1 x2 = some r → zZ X w (zQ X w (zr 1 29) (some (.int r)) false N h) 0 0 false N h 2 [(0, .ref (zo w + a)), (1, .int x1), (2, .int x2)] [] := by
  induction n with
  | zero =>
    intro x1 x2 hf
    have hf : (none : Option (Int32)) = some r := hf
    cases hf
  | succ z ih =>
    intro x1 x2 hf
    rw [f_X2_areComplete_2] at hf
    refine z_iload_n (pc' := 3) C 2 dX2_areComplete_2 rfl rfl rfl ?_
    refine z_aload_n (pc' := 4) C 0 dX2_areComplete_3 rfl rfl rfl ?_
    refine z_getf (pc' := 7) C zci_2 zw_122 (j := 0) rfl h_a0 rfl rfl dX2_areComplete_4 rfl ?_
    refine z_iload_n (pc' := 8) C 1 dX2_areComplete_7 rfl rfl rfl ?_
    refine z_iald (pc' := 9) C hf h_a1 dX2_areComplete_8 rfl (fun v_8 hf => ?_)
    refine z_icmp_ge (pc' := 12) C 35 hf dX2_areComplete_9 rfl rfl (fun g_9 hf => ?_) (fun g_9 hf => ?_)
    · refine z_iconst (pc' := 36) C dX2_areComplete_35 zk_iconst_1 rfl ?_
      cases hf
      exact z_zret C zb_1 rfl rfl dX2_areComplete_36
    · refine z_aload_n (pc' := 13) C 0 dX2_areComplete_12 rfl rfl rfl ?_
      refine z_getf (pc' := 16) C zci_2 zw_131 (j := 4) rfl h_a0 rfl rfl dX2_areComplete_13 rfl ?_
      refine z_iload_n (pc' := 17) C 1 dX2_areComplete_16 rfl rfl rfl ?_
      refine z_iload_n (pc' := 18) C 2 dX2_areComplete_17 rfl rfl rfl ?_
      refine z_cS (pc' := 21) C hf (As := [.int x1, .int x2]) (fun hq => c_X2_slotOf  hq) (fun _ => h) (fun q_18 => [.int q_18, .ref (zo w + (a + 5))]) (fun _ => rfl) (fun _ => rfl) zy_X2_slotOf zw_636 zw_395 ⟨rfl, rfl⟩ rfl rfl rfl rfl rfl dX2_areComplete_18 rfl (fun q_18 hf => ?_)
      refine z_iald (pc' := 22) C hf h_a5 dX2_areComplete_21 rfl (fun v_21 hf => ?_)
      refine z_bipush (pc' := 24) C dX2_areComplete_22 zk_bipush_100 rfl ?_
      refine z_icmp_ge (pc' := 27) C 29 hf dX2_areComplete_24 rfl rfl (fun g_24 hf => ?_) (fun g_24 hf => ?_)
      · refine z_iinc (pc' := 32) C 2 [(2, .int (x2 + (1 : Int32))), (0, .ref (zo w + a)), (1, .int x1)] dX2_areComplete_29 rfl zk_iconst_1 rfl rfl rfl ?_
        refine z_goto C 2 dX2_areComplete_32 rfl ?_
        refine z_pick (lv' := [(0, .ref (zo w + a)), (1, .int x1), (2, .int (x2 + (1 : Int32)))]) [1, 2, 0] rfl ?_
        exact ih hf
      · refine z_iconst (pc' := 28) C dX2_areComplete_27 zk_iconst_0 rfl ?_
        cases hf
        exact z_zret C zb_0 rfl rfl dX2_areComplete_28
set_option maxRecDepth 20000 in
theorem c_X2_areComplete {w : zV} {N : Nat} {h : zH} {a : Nat} {it_count : Nat → Int32} {it_progress : Nat → Int32} {p1 : Int32} (h_a0 : zc N h (a + 0) (.inr (2, [.ref (zo w + (a + 1)), .ref (zo w + (a + 2)), .ref (zo w + (a + 3)), .ref (zo w + (a + 4)), .ref (zo w + (a + 5))]))) (h_a1 : zc N h (a + 1) (.inl (w.2.2.1 0, 8, .inl it_count))) (h_a5 : zc N h (a + 5) (.inl (w.2.2.1 0, 48, .inl it_progress))) {r : Int32} (hf : f_X2_areComplete it_count it_progress p1 = some r) : zM w yX2_areComplete cX2_areComplete 3 (some .boolean) (zr 1 29) false N N h [.ref (zo w + a), .int p1] (some (.int r)) h := by
  unfold f_X2_areComplete at hf
  refine zM_of (by decide) rfl (fun X C _ => ?_)
  refine z_pick (lv' := [(0, .ref (zo w + a)), (1, .int p1)]) [0, 1] rfl ?_
  refine z_iconst (pc' := 1) C dX2_areComplete_0 zk_iconst_0 rfl ?_
  refine z_istore_n (pc' := 2) C [(2, .int (0 : Int32)), (0, .ref (zo w + a)), (1, .int p1)] dX2_areComplete_1 rfl rfl rfl rfl ?_
  refine z_pick (lv' := [(0, .ref (zo w + a)), (1, .int p1), (2, .int (0 : Int32))]) [1, 2, 0] rfl ?_
  exact w_X2_areComplete_2 C h_a0 h_a1 h_a5  FU hf
set_option maxRecDepth 20000 in
theorem w_X5_clear_49 {X : zC} {w : zV} {N : Nat} {h : zH} {a : Nat} {pr_pricing : Nat} (C : zK X w RX5 cX5_clear 3 none (zrx 2 100 3 920)) (n_a0 : a + 0 < N) (n_a1 : a + 1 < N) (n_a2 : a + 2 < N) (h_a13 : zc N h (a + 13) (.inr (2, [.ref (zo w + (a + 14)), .ref (zo w + (a + 15)), .ref (zo w + (a + 16)), .ref (zo w + (a + 17)), .ref (zo w + (a + 18))]))) (n_a14 : a + 14 < N) (n_a19 : a + 19 < N) (n_a23 : a + 23 < N) (n_a29 : a + 29 < N) {r : Int32 × (Nat → Int64) × Int32 × (Nat → Int32) × Int32 × Int32 × Int32} {pr_day : Int32} {pr_accounts : Nat → Int64} {co_count : Int32} {it_count : Nat → Int32} {va_count : Int32} {ce_count : Int32} {li_count : Int32} (hf : f_X5_clear_49  pr_day pr_accounts co_count it_count va_count ce_count li_count = some r) : zZ X w (zQ X w (zrx 2 100 3 920) (none) false N (zu h a [(0, .inr (5, [.int r.1, .ref (zo w + (a + 1)), .ref (zo w + (a + 2)), .ref (zo w + pr_pricing), .ref (zo w + (a + 13)), .ref (zo w + (a + 19)), .ref (zo w + (a + 23)), .ref (zo w + (a + 29)), .ref (zo w + (a + 34))])), (1, .inl (w.2.2.1 1, 9, .inr (.inl r.2.1))), (2, .inr (1, [.int r.2.2.1, .ref (zo w + (a + 3)), .ref (zo w + (a + 4)), .ref (zo w + (a + 5)), .ref (zo w + (a + 6)), .ref (zo w + (a + 7)), .ref (zo w + (a + 8)), .ref (zo w + (a + 9))])), (14, .inl (w.2.2.1 0, 8, .inl r.2.2.2.1)), (19, .inr (7, [.int r.2.2.2.2.1, .ref (zo w + (a + 20)), .ref (zo w + (a + 21)), .ref (zo w + (a + 22))])), (23, .inr (0, [.int r.2.2.2.2.2.1, .ref (zo w + (a + 24)), .ref (zo w + (a + 25)), .ref (zo w + (a + 26)), .ref (zo w + (a + 27)), .ref (zo w + (a + 28))])), (29, .inr (3, [.int r.2.2.2.2.2.2, .ref (zo w + (a + 30)), .ref (zo w + (a + 31)), .ref (zo w + (a + 32)), .ref (zo w + (a + 33))]))])) 3 920 false N (zu h a [(0, .inr (5, [.int pr_day, .ref (zo w + (a + 1)), .ref (zo w + (a + 2)), .ref (zo w + pr_pricing), .ref (zo w + (a + 13)), .ref (zo w + (a + 19)), .ref (zo w + (a + 23)), .ref (zo w + (a + 29)), .ref (zo w + (a + 34))])), (1, .inl (w.2.2.1 1, 9, .inr (.inl pr_accounts))), (2, .inr (1, [.int co_count, .ref (zo w + (a + 3)), .ref (zo w + (a + 4)), .ref (zo w + (a + 5)), .ref (zo w + (a + 6)), .ref (zo w + (a + 7)), .ref (zo w + (a + 8)), .ref (zo w + (a + 9))])), (14, .inl (w.2.2.1 0, 8, .inl it_count)), (19, .inr (7, [.int va_count, .ref (zo w + (a + 20)), .ref (zo w + (a + 21)), .ref (zo w + (a + 22))])), (23, .inr (0, [.int ce_count, .ref (zo w + (a + 24)), .ref (zo w + (a + 25)), .ref (zo w + (a + 26)), .ref (zo w + (a + 27)), .ref (zo w + (a + 28))])), (29, .inr (3, [.int li_count, .ref (zo w + (a + 30)), .ref (zo w + (a + 31)), .ref (zo w + (a + 32)), .ref (zo w + (a + 33))]))]) 49 [(0, .ref (zo w + a))] [] := by
  unfold f_X5_clear_49 at hf
  refine z_aload_n (pc' := 50) C 0 dX5_clear_49 rfl rfl rfl ?_
  refine z_getf (pc' := 53) C zci_5 zw_245 (j := 4) rfl (zc_i (o := 0) n_a0 rfl) rfl rfl dX5_clear_50 rfl ?_
  refine z_cV (pc' := 56) C hf (As := []) (fun hq => c_X2_clear (a := (a + 13)) (zc_o (o := 13) h_a13 rfl) (zc_i (o := 14) n_a14 rfl) hq) (fun q_53 => (zu h a [(0, .inr (5, [.int pr_day, .ref (zo w + (a + 1)), .ref (zo w + (a + 2)), .ref (zo w + pr_pricing), .ref (zo w + (a + 13)), .ref (zo w + (a + 19)), .ref (zo w + (a + 23)), .ref (zo w + (a + 29)), .ref (zo w + (a + 34))])), (1, .inl (w.2.2.1 1, 9, .inr (.inl pr_accounts))), (2, .inr (1, [.int co_count, .ref (zo w + (a + 3)), .ref (zo w + (a + 4)), .ref (zo w + (a + 5)), .ref (zo w + (a + 6)), .ref (zo w + (a + 7)), .ref (zo w + (a + 8)), .ref (zo w + (a + 9))])), (14, .inl (w.2.2.1 0, 8, .inl q_53)), (19, .inr (7, [.int va_count, .ref (zo w + (a + 20)), .ref (zo w + (a + 21)), .ref (zo w + (a + 22))])), (23, .inr (0, [.int ce_count, .ref (zo w + (a + 24)), .ref (zo w + (a + 25)), .ref (zo w + (a + 26)), .ref (zo w + (a + 27)), .ref (zo w + (a + 28))])), (29, .inr (3, [.int li_count, .ref (zo w + (a + 30)), .ref (zo w + (a + 31)), .ref (zo w + (a + 32)), .ref (zo w + (a + 33))]))])) (fun q_53 => []) (fun _ => zu_sh (d := 13) rfl rfl) (fun _ => rfl) zy_X2_clear zw_529 zw_530 zw_531 (ci := 2) rfl (zc_o (o := 13) h_a13 rfl) ⟨rfl, rfl⟩ rfl rfl rfl rfl rfl dX5_clear_53 rfl (fun q_53 hf => ?_)
  refine z_aload_n (pc' := 57) C 0 dX5_clear_56 rfl rfl rfl ?_
  refine z_getf (pc' := 60) C zci_5 zw_248 (j := 5) rfl (zc_i (o := 0) n_a0 rfl) rfl rfl dX5_clear_57 rfl ?_
  refine z_iconst (pc' := 61) C dX5_clear_60 zk_iconst_0 rfl ?_
  refine z_putf (pc' := 64) C zci_7 zw_151 (j := 0) rfl (zc_i (o := 19) n_a19 rfl) (fs' := [.int (0 : Int32), .ref (zo w + (a + 20)), .ref (zo w + (a + 21)), .ref (zo w + (a + 22))]) rfl rfl rfl rfl rfl (zu_put (o := 19) (L' := [(0, .inr (5, [.int pr_day, .ref (zo w + (a + 1)), .ref (zo w + (a + 2)), .ref (zo w + pr_pricing), .ref (zo w + (a + 13)), .ref (zo w + (a + 19)), .ref (zo w + (a + 23)), .ref (zo w + (a + 29)), .ref (zo w + (a + 34))])), (1, .inl (w.2.2.1 1, 9, .inr (.inl pr_accounts))), (2, .inr (1, [.int co_count, .ref (zo w + (a + 3)), .ref (zo w + (a + 4)), .ref (zo w + (a + 5)), .ref (zo w + (a + 6)), .ref (zo w + (a + 7)), .ref (zo w + (a + 8)), .ref (zo w + (a + 9))])), (14, .inl (w.2.2.1 0, 8, .inl q_53)), (19, .inr (7, [.int (0 : Int32), .ref (zo w + (a + 20)), .ref (zo w + (a + 21)), .ref (zo w + (a + 22))])), (23, .inr (0, [.int ce_count, .ref (zo w + (a + 24)), .ref (zo w + (a + 25)), .ref (zo w + (a + 26)), .ref (zo w + (a + 27)), .ref (zo w + (a + 28))])), (29, .inr (3, [.int li_count, .ref (zo w + (a + 30)), .ref (zo w + (a + 31)), .ref (zo w + (a + 32)), .ref (zo w + (a + 33))]))]) rfl) dX5_clear_61 rfl ?_
  refine z_aload_n (pc' := 65) C 0 dX5_clear_64 rfl rfl rfl ?_
  refine z_getf (pc' := 68) C zci_5 zw_250 (j := 6) rfl (zc_i (o := 0) n_a0 rfl) rfl rfl dX5_clear_65 rfl ?_
  refine z_iconst (pc' := 69) C dX5_clear_68 zk_iconst_0 rfl ?_
  refine z_putf (pc' := 72) C zci_0 zw_177 (j := 0) rfl (zc_i (o := 23) n_a23 rfl) (fs' := [.int (0 : Int32), .ref (zo w + (a + 24)), .ref (zo w + (a + 25)), .ref (zo w + (a + 26)), .ref (zo w + (a + 27)), .ref (zo w + (a + 28))]) rfl rfl rfl rfl rfl (zu_put (o := 23) (L' := [(0, .inr (5, [.int pr_day, .ref (zo w + (a + 1)), .ref (zo w + (a + 2)), .ref (zo w + pr_pricing), .ref (zo w + (a + 13)), .ref (zo w + (a + 19)), .ref (zo w + (a + 23)), .ref (zo w + (a + 29)), .ref (zo w + (a + 34))])), (1, .inl (w.2.2.1 1, 9, .inr (.inl pr_accounts))), (2, .inr (1, [.int co_count, .ref (zo w + (a + 3)), .ref (zo w + (a + 4)), .ref (zo w + (a + 5)), .ref (zo w + (a + 6)), .ref (zo w + (a + 7)), .ref (zo w + (a + 8)), .ref (zo w + (a + 9))])), (14, .inl (w.2.2.1 0, 8, .inl q_53)), (19, .inr (7, [.int (0 : Int32), .ref (zo w + (a + 20)), .ref (zo w + (a + 21)), .ref (zo w + (a + 22))])), (23, .inr (0, [.int (0 : Int32), .ref (zo w + (a + 24)), .ref (zo w + (a + 25)), .ref (zo w + (a + 26)), .ref (zo w + (a + 27)), .ref (zo w + (a + 28))])), (29, .inr (3, [.int li_count, .ref (zo w + (a + 30)), .ref (zo w + (a + 31)), .ref (zo w + (a + 32)), .ref (zo w + (a + 33))]))]) rfl) dX5_clear_69 rfl ?_
  refine z_aload_n (pc' := 73) C 0 dX5_clear_72 rfl rfl rfl ?_
  refine z_getf (pc' := 76) C zci_5 zw_252 (j := 7) rfl (zc_i (o := 0) n_a0 rfl) rfl rfl dX5_clear_73 rfl ?_
  refine z_iconst (pc' := 77) C dX5_clear_76 zk_iconst_0 rfl ?_
  refine z_putf (pc' := 80) C zci_3 zw_212 (j := 0) rfl (zc_i (o := 29) n_a29 rfl) (fs' := [.int (0 : Int32), .ref (zo w + (a + 30)), .ref (zo w + (a + 31)), .ref (zo w + (a + 32)), .ref (zo w + (a + 33))]) rfl rfl rfl rfl rfl (zu_put (o := 29) (L' := [(0, .inr (5, [.int pr_day, .ref (zo w + (a + 1)), .ref (zo w + (a + 2)), .ref (zo w + pr_pricing), .ref (zo w + (a + 13)), .ref (zo w + (a + 19)), .ref (zo w + (a + 23)), .ref (zo w + (a + 29)), .ref (zo w + (a + 34))])), (1, .inl (w.2.2.1 1, 9, .inr (.inl pr_accounts))), (2, .inr (1, [.int co_count, .ref (zo w + (a + 3)), .ref (zo w + (a + 4)), .ref (zo w + (a + 5)), .ref (zo w + (a + 6)), .ref (zo w + (a + 7)), .ref (zo w + (a + 8)), .ref (zo w + (a + 9))])), (14, .inl (w.2.2.1 0, 8, .inl q_53)), (19, .inr (7, [.int (0 : Int32), .ref (zo w + (a + 20)), .ref (zo w + (a + 21)), .ref (zo w + (a + 22))])), (23, .inr (0, [.int (0 : Int32), .ref (zo w + (a + 24)), .ref (zo w + (a + 25)), .ref (zo w + (a + 26)), .ref (zo w + (a + 27)), .ref (zo w + (a + 28))])), (29, .inr (3, [.int (0 : Int32), .ref (zo w + (a + 30)), .ref (zo w + (a + 31)), .ref (zo w + (a + 32)), .ref (zo w + (a + 33))]))]) rfl) dX5_clear_77 rfl ?_
  cases hf
  exact z_vret C rfl rfl dX5_clear_80
set_option maxRecDepth 20000 in
theorem w_X5_clear_7 {X : zC} {w : zV} {N : Nat} {h : zH} {a : Nat} {pr_pricing : Nat} {tb : Nat} {te : va_E} (C : zK X w RX5 cX5_clear 3 none (zrx 2 100 3 920)) (n_a0 : a + 0 < N) (n_a1 : a + 1 < N) (n_a2 : a + 2 < N) (h_a13 : zc N h (a + 13) (.inr (2, [.ref (zo w + (a + 14)), .ref (zo w + (a + 15)), .ref (zo w + (a + 16)), .ref (zo w + (a + 17)), .ref (zo w + (a + 18))]))) (n_a14 : a + 14 < N) (n_a19 : a + 19 < N) (n_a23 : a + 23 < N) (n_a29 : a + 29 < N) (hTa : a + 35 ≤ tb) (hTb : N ≤ tb + 1) (hTc : zc N h tb te) (hTj : zj te = true) {r : Int32 × (Nat → Int64) × Int32 × (Nat → Int32) × Int32 × Int32 × Int32} (n : Nat) : ∀ {pr_day : Int32} {pr_accounts : Nat → Int64} {co_count : Int32} {it_count : Nat → Int32} {va_count : Int32} {ce_count : Int32} {li_count : Int32} {x1 : Int32} {x2 : Int32}, f_X5_clear_7  n pr_day pr_accounts co_count it_count va_count ce_count li_count x1 x2 = some r → zZ X w (zQP X w (zrx 2 100 3 920) (none) (fun N' h' => ∃ g, N ≤ g ∧ N' = g + 3 ∧ h' = (zu (zu (hJ N h) g (pgL w g x1)) a [(0, .inr (5, [.int r.1, .ref (zo w + (a + 1)), .ref (zo w + (a + 2)), .ref (zo w + g), .ref (zo w + (a + 13)), .ref (zo w + (a + 19)), .ref (zo w + (a + 23)), .ref (zo w + (a + 29)), .ref (zo w + (a + 34))])), (1, .inl (w.2.2.1 1, 9, .inr (.inl r.2.1))), (2, .inr (1, [.int r.2.2.1, .ref (zo w + (a + 3)), .ref (zo w + (a + 4)), .ref (zo w + (a + 5)), .ref (zo w + (a + 6)), .ref (zo w + (a + 7)), .ref (zo w + (a + 8)), .ref (zo w + (a + 9))])), (14, .inl (w.2.2.1 0, 8, .inl r.2.2.2.1)), (19, .inr (7, [.int r.2.2.2.2.1, .ref (zo w + (a + 20)), .ref (zo w + (a + 21)), .ref (zo w + (a + 22))])), (23, .inr (0, [.int r.2.2.2.2.2.1, .ref (zo w + (a + 24)), .ref (zo w + (a + 25)), .ref (zo w + (a + 26)), .ref (zo w + (a + 27)), .ref (zo w + (a + 28))])), (29, .inr (3, [.int r.2.2.2.2.2.2, .ref (zo w + (a + 30)), .ref (zo w + (a + 31)), .ref (zo w + (a + 32)), .ref (zo w + (a + 33))]))]))) 0 0 false N (zu h a [(0, .inr (5, [.int pr_day, .ref (zo w + (a + 1)), .ref (zo w + (a + 2)), .ref (zo w + pr_pricing), .ref (zo w + (a + 13)), .ref (zo w + (a + 19)), .ref (zo w + (a + 23)), .ref (zo w + (a + 29)), .ref (zo w + (a + 34))])), (1, .inl (w.2.2.1 1, 9, .inr (.inl pr_accounts))), (2, .inr (1, [.int co_count, .ref (zo w + (a + 3)), .ref (zo w + (a + 4)), .ref (zo w + (a + 5)), .ref (zo w + (a + 6)), .ref (zo w + (a + 7)), .ref (zo w + (a + 8)), .ref (zo w + (a + 9))])), (14, .inl (w.2.2.1 0, 8, .inl it_count)), (19, .inr (7, [.int va_count, .ref (zo w + (a + 20)), .ref (zo w + (a + 21)), .ref (zo w + (a + 22))])), (23, .inr (0, [.int ce_count, .ref (zo w + (a + 24)), .ref (zo w + (a + 25)), .ref (zo w + (a + 26)), .ref (zo w + (a + 27)), .ref (zo w + (a + 28))])), (29, .inr (3, [.int li_count, .ref (zo w + (a + 30)), .ref (zo w + (a + 31)), .ref (zo w + (a + 32)), .ref (zo w + (a + 33))]))]) 7 [(0, .ref (zo w + a)), (1, .int x1), (2, .int x2)] [] := by
  induction n with
  | zero =>
    intro pr_day pr_accounts co_count it_count va_count ce_count li_count x1 x2 hf
    have hf : (none : Option (Int32 × (Nat → Int64) × Int32 × (Nat → Int32) × Int32 × Int32 × Int32)) = some r := hf
    cases hf
  | succ z ih =>
    intro pr_day pr_accounts co_count it_count va_count ce_count li_count x1 x2 hf
    rw [f_X5_clear_7] at hf
    refine z_iload_n (pc' := 8) C 2 dX5_clear_7 rfl rfl rfl ?_
    refine z_aload_n (pc' := 9) C 0 dX5_clear_8 rfl rfl rfl ?_
    refine z_getf (pc' := 12) C zci_5 zw_236 (j := 1) rfl (zc_i (o := 0) n_a0 rfl) rfl rfl dX5_clear_9 rfl ?_
    refine z_alen (pc' := 13) C 1 (zc_i (o := 1) n_a1 rfl) rfl (v := (9 : Int32)) zk_len_9 dX5_clear_12 rfl ?_
    refine z_icmp_ge (pc' := 16) C 29 hf dX5_clear_13 rfl rfl (fun g_13 hf => ?_) (fun g_13 hf => ?_)
    · refine z_aload_n (pc' := 30) C 0 dX5_clear_29 rfl rfl rfl ?_
      refine z_getf (pc' := 33) C zci_5 zw_239 (j := 2) rfl (zc_i (o := 0) n_a0 rfl) rfl rfl dX5_clear_30 rfl ?_
      refine z_iconst (pc' := 34) C dX5_clear_33 zk_iconst_0 rfl ?_
      refine z_putf (pc' := 37) C zci_1 zw_50 (j := 0) rfl (zc_i (o := 2) n_a2 rfl) (fs' := [.int (0 : Int32), .ref (zo w + (a + 3)), .ref (zo w + (a + 4)), .ref (zo w + (a + 5)), .ref (zo w + (a + 6)), .ref (zo w + (a + 7)), .ref (zo w + (a + 8)), .ref (zo w + (a + 9))]) rfl rfl rfl rfl rfl (zu_put (o := 2) (L' := [(0, .inr (5, [.int pr_day, .ref (zo w + (a + 1)), .ref (zo w + (a + 2)), .ref (zo w + pr_pricing), .ref (zo w + (a + 13)), .ref (zo w + (a + 19)), .ref (zo w + (a + 23)), .ref (zo w + (a + 29)), .ref (zo w + (a + 34))])), (1, .inl (w.2.2.1 1, 9, .inr (.inl pr_accounts))), (2, .inr (1, [.int (0 : Int32), .ref (zo w + (a + 3)), .ref (zo w + (a + 4)), .ref (zo w + (a + 5)), .ref (zo w + (a + 6)), .ref (zo w + (a + 7)), .ref (zo w + (a + 8)), .ref (zo w + (a + 9))])), (14, .inl (w.2.2.1 0, 8, .inl it_count)), (19, .inr (7, [.int va_count, .ref (zo w + (a + 20)), .ref (zo w + (a + 21)), .ref (zo w + (a + 22))])), (23, .inr (0, [.int ce_count, .ref (zo w + (a + 24)), .ref (zo w + (a + 25)), .ref (zo w + (a + 26)), .ref (zo w + (a + 27)), .ref (zo w + (a + 28))])), (29, .inr (3, [.int li_count, .ref (zo w + (a + 30)), .ref (zo w + (a + 31)), .ref (zo w + (a + 32)), .ref (zo w + (a + 33))]))]) rfl) dX5_clear_34 rfl ?_
      refine z_aload_n (pc' := 38) C 0 dX5_clear_37 rfl rfl rfl ?_
      have hTl := hTc.1
      refine z_sharp (zc_f (m := 35) hTc (by omega) rfl) hTj hTb (fun g hg => ?_)
      refine z_eq (hJ_zu (m := 35) rfl (by omega)) ?_
      refine z_new (pc' := 41) (h' := va_up (zu (hJ N h) a [(0, .inr (5, [.int pr_day, .ref (zo w + (a + 1)), .ref (zo w + (a + 2)), .ref (zo w + pr_pricing), .ref (zo w + (a + 13)), .ref (zo w + (a + 19)), .ref (zo w + (a + 23)), .ref (zo w + (a + 29)), .ref (zo w + (a + 34))])), (1, .inl (w.2.2.1 1, 9, .inr (.inl pr_accounts))), (2, .inr (1, [.int (0 : Int32), .ref (zo w + (a + 3)), .ref (zo w + (a + 4)), .ref (zo w + (a + 5)), .ref (zo w + (a + 6)), .ref (zo w + (a + 7)), .ref (zo w + (a + 8)), .ref (zo w + (a + 9))])), (14, .inl (w.2.2.1 0, 8, .inl it_count)), (19, .inr (7, [.int va_count, .ref (zo w + (a + 20)), .ref (zo w + (a + 21)), .ref (zo w + (a + 22))])), (23, .inr (0, [.int ce_count, .ref (zo w + (a + 24)), .ref (zo w + (a + 25)), .ref (zo w + (a + 26)), .ref (zo w + (a + 27)), .ref (zo w + (a + 28))])), (29, .inr (3, [.int li_count, .ref (zo w + (a + 30)), .ref (zo w + (a + 31)), .ref (zo w + (a + 32)), .ref (zo w + (a + 33))]))]) g (.inr (4, [.int 0, .int 0, .null, .null]))) C zci_4 zw_90 zw_91 zw_5 zdf_4 rfl rfl dX5_clear_38 rfl ?_
      refine z_dup (pc' := 42) C dX5_clear_41 rfl rfl ?_
      refine z_iload_n (pc' := 43) C 1 dX5_clear_42 rfl rfl rfl ?_
      refine z_callI0 (pc' := 46) (st := [.ref (zo w + g), .ref (zo w + a)]) C (c_X4_init (a := g) (tb := x1) (h := va_up (zu (hJ N h) a [(0, .inr (5, [.int pr_day, .ref (zo w + (a + 1)), .ref (zo w + (a + 2)), .ref (zo w + pr_pricing), .ref (zo w + (a + 13)), .ref (zo w + (a + 19)), .ref (zo w + (a + 23)), .ref (zo w + (a + 29)), .ref (zo w + (a + 34))])), (1, .inl (w.2.2.1 1, 9, .inr (.inl pr_accounts))), (2, .inr (1, [.int (0 : Int32), .ref (zo w + (a + 3)), .ref (zo w + (a + 4)), .ref (zo w + (a + 5)), .ref (zo w + (a + 6)), .ref (zo w + (a + 7)), .ref (zo w + (a + 8)), .ref (zo w + (a + 9))])), (14, .inl (w.2.2.1 0, 8, .inl it_count)), (19, .inr (7, [.int va_count, .ref (zo w + (a + 20)), .ref (zo w + (a + 21)), .ref (zo w + (a + 22))])), (23, .inr (0, [.int ce_count, .ref (zo w + (a + 24)), .ref (zo w + (a + 25)), .ref (zo w + (a + 26)), .ref (zo w + (a + 27)), .ref (zo w + (a + 28))])), (29, .inr (3, [.int li_count, .ref (zo w + (a + 30)), .ref (zo w + (a + 31)), .ref (zo w + (a + 32)), .ref (zo w + (a + 33))]))]) g (.inr (4, [.int 0, .int 0, .null, .null]))) ⟨by omega, by simp [va_up]⟩) zy_X4_init zw_92 rfl zw_93 rfl rfl rfl rfl rfl dX5_clear_43 rfl ?_
      refine z_drop ?_
      refine z_eq (zu_newg (m := 35) (n := 3) rfl rfl (by omega) rfl) ?_
      have n_a0 : a + 0 < g + 3 := by omega
      have n_a1 : a + 1 < g + 3 := by omega
      have n_a2 : a + 2 < g + 3 := by omega
      have h_a13 := zc_f (a := g) (m := 3) (L := (pgL w g x1)) (zc_J (N' := g + 3) h_a13 (by omega)) (by omega) rfl
      have n_a14 : a + 14 < g + 3 := by omega
      have n_a19 : a + 19 < g + 3 := by omega
      have n_a23 : a + 23 < g + 3 := by omega
      have n_a29 : a + 29 < g + 3 := by omega
      refine z_putf (pc' := 49) C zci_5 zw_242 (j := 3) rfl (zc_i (o := 0) n_a0 rfl) (fs' := [.int pr_day, .ref (zo w + (a + 1)), .ref (zo w + (a + 2)), .ref (zo w + g), .ref (zo w + (a + 13)), .ref (zo w + (a + 19)), .ref (zo w + (a + 23)), .ref (zo w + (a + 29)), .ref (zo w + (a + 34))]) rfl rfl rfl rfl rfl (zu_put (o := 0) (L' := [(0, .inr (5, [.int pr_day, .ref (zo w + (a + 1)), .ref (zo w + (a + 2)), .ref (zo w + g), .ref (zo w + (a + 13)), .ref (zo w + (a + 19)), .ref (zo w + (a + 23)), .ref (zo w + (a + 29)), .ref (zo w + (a + 34))])), (1, .inl (w.2.2.1 1, 9, .inr (.inl pr_accounts))), (2, .inr (1, [.int (0 : Int32), .ref (zo w + (a + 3)), .ref (zo w + (a + 4)), .ref (zo w + (a + 5)), .ref (zo w + (a + 6)), .ref (zo w + (a + 7)), .ref (zo w + (a + 8)), .ref (zo w + (a + 9))])), (14, .inl (w.2.2.1 0, 8, .inl it_count)), (19, .inr (7, [.int va_count, .ref (zo w + (a + 20)), .ref (zo w + (a + 21)), .ref (zo w + (a + 22))])), (23, .inr (0, [.int ce_count, .ref (zo w + (a + 24)), .ref (zo w + (a + 25)), .ref (zo w + (a + 26)), .ref (zo w + (a + 27)), .ref (zo w + (a + 28))])), (29, .inr (3, [.int li_count, .ref (zo w + (a + 30)), .ref (zo w + (a + 31)), .ref (zo w + (a + 32)), .ref (zo w + (a + 33))]))]) rfl) dX5_clear_46 rfl ?_
      refine z_toP ⟨g, hg, rfl, rfl⟩ ?_
      refine z_pick (lv' := [(0, .ref (zo w + a))]) [0] rfl ?_
      exact w_X5_clear_49 C n_a0 n_a1 n_a2 h_a13 n_a14 n_a19 n_a23 n_a29  hf
    · refine z_aload_n (pc' := 17) C 0 dX5_clear_16 rfl rfl rfl ?_
      refine z_getf (pc' := 20) C zci_5 zw_236 (j := 1) rfl (zc_i (o := 0) n_a0 rfl) rfl rfl dX5_clear_17 rfl ?_
      refine z_iload_n (pc' := 21) C 2 dX5_clear_20 rfl rfl rfl ?_
      refine z_lconst (pc' := 22) C dX5_clear_21 zl_0 rfl ?_
      refine z_last (pc' := 23) C hf (zc_i (o := 1) n_a1 rfl) (h' := fun v_22 => (zu h a [(0, .inr (5, [.int pr_day, .ref (zo w + (a + 1)), .ref (zo w + (a + 2)), .ref (zo w + pr_pricing), .ref (zo w + (a + 13)), .ref (zo w + (a + 19)), .ref (zo w + (a + 23)), .ref (zo w + (a + 29)), .ref (zo w + (a + 34))])), (1, .inl (w.2.2.1 1, 9, .inr (.inl v_22))), (2, .inr (1, [.int co_count, .ref (zo w + (a + 3)), .ref (zo w + (a + 4)), .ref (zo w + (a + 5)), .ref (zo w + (a + 6)), .ref (zo w + (a + 7)), .ref (zo w + (a + 8)), .ref (zo w + (a + 9))])), (14, .inl (w.2.2.1 0, 8, .inl it_count)), (19, .inr (7, [.int va_count, .ref (zo w + (a + 20)), .ref (zo w + (a + 21)), .ref (zo w + (a + 22))])), (23, .inr (0, [.int ce_count, .ref (zo w + (a + 24)), .ref (zo w + (a + 25)), .ref (zo w + (a + 26)), .ref (zo w + (a + 27)), .ref (zo w + (a + 28))])), (29, .inr (3, [.int li_count, .ref (zo w + (a + 30)), .ref (zo w + (a + 31)), .ref (zo w + (a + 32)), .ref (zo w + (a + 33))]))])) (fun _ => zu_put (o := 1) rfl) dX5_clear_22 rfl (fun v_22 hf => ?_)
      refine z_iinc (pc' := 26) C 2 [(2, .int (x2 + (1 : Int32))), (0, .ref (zo w + a)), (1, .int x1)] dX5_clear_23 rfl zk_iconst_1 rfl rfl rfl ?_
      refine z_goto C 7 dX5_clear_26 rfl ?_
      refine z_pick (lv' := [(0, .ref (zo w + a)), (1, .int x1), (2, .int (x2 + (1 : Int32)))]) [1, 2, 0] rfl ?_
      exact ih hf
set_option maxRecDepth 20000 in
theorem c_X5_clear {w : zV} {N : Nat} {h : zH} {a : Nat} {pr_day : Int32} {pr_pricing : Nat} {pr_accounts : Nat → Int64} {it_count : Nat → Int32} {va_count : Int32} {co_count : Int32} {ce_count : Int32} {li_count : Int32} {p1 : Int32} {tb : Nat} {te : va_E} (h_a0 : zc N h (a + 0) (.inr (5, [.int pr_day, .ref (zo w + (a + 1)), .ref (zo w + (a + 2)), .ref (zo w + pr_pricing), .ref (zo w + (a + 13)), .ref (zo w + (a + 19)), .ref (zo w + (a + 23)), .ref (zo w + (a + 29)), .ref (zo w + (a + 34))]))) (h_a1 : zc N h (a + 1) (.inl (w.2.2.1 1, 9, .inr (.inl pr_accounts)))) (h_a2 : zc N h (a + 2) (.inr (1, [.int co_count, .ref (zo w + (a + 3)), .ref (zo w + (a + 4)), .ref (zo w + (a + 5)), .ref (zo w + (a + 6)), .ref (zo w + (a + 7)), .ref (zo w + (a + 8)), .ref (zo w + (a + 9))]))) (h_a13 : zc N h (a + 13) (.inr (2, [.ref (zo w + (a + 14)), .ref (zo w + (a + 15)), .ref (zo w + (a + 16)), .ref (zo w + (a + 17)), .ref (zo w + (a + 18))]))) (h_a14 : zc N h (a + 14) (.inl (w.2.2.1 0, 8, .inl it_count))) (h_a19 : zc N h (a + 19) (.inr (7, [.int va_count, .ref (zo w + (a + 20)), .ref (zo w + (a + 21)), .ref (zo w + (a + 22))]))) (h_a23 : zc N h (a + 23) (.inr (0, [.int ce_count, .ref (zo w + (a + 24)), .ref (zo w + (a + 25)), .ref (zo w + (a + 26)), .ref (zo w + (a + 27)), .ref (zo w + (a + 28))]))) (h_a29 : zc N h (a + 29) (.inr (3, [.int li_count, .ref (zo w + (a + 30)), .ref (zo w + (a + 31)), .ref (zo w + (a + 32)), .ref (zo w + (a + 33))]))) (hTa : a + 35 ≤ tb) (hTb : N ≤ tb + 1) (hTc : zc N h tb te) (hTj : zj te = true) {r : Int32 × (Nat → Int64) × Int32 × (Nat → Int32) × Int32 × Int32 × Int32} (hf : f_X5_clear pr_day pr_accounts co_count it_count va_count ce_count li_count p1 = some r) : zMP w yX5_clear cX5_clear 3 none (zrx 2 100 3 920) N h [.ref (zo w + a), .int p1] (none) (fun N' h' => ∃ g, N ≤ g ∧ N' = g + 3 ∧ h' = (zu (zu (hJ N h) g (pgL w g p1)) a [(0, .inr (5, [.int r.1, .ref (zo w + (a + 1)), .ref (zo w + (a + 2)), .ref (zo w + g), .ref (zo w + (a + 13)), .ref (zo w + (a + 19)), .ref (zo w + (a + 23)), .ref (zo w + (a + 29)), .ref (zo w + (a + 34))])), (1, .inl (w.2.2.1 1, 9, .inr (.inl r.2.1))), (2, .inr (1, [.int r.2.2.1, .ref (zo w + (a + 3)), .ref (zo w + (a + 4)), .ref (zo w + (a + 5)), .ref (zo w + (a + 6)), .ref (zo w + (a + 7)), .ref (zo w + (a + 8)), .ref (zo w + (a + 9))])), (14, .inl (w.2.2.1 0, 8, .inl r.2.2.2.1)), (19, .inr (7, [.int r.2.2.2.2.1, .ref (zo w + (a + 20)), .ref (zo w + (a + 21)), .ref (zo w + (a + 22))])), (23, .inr (0, [.int r.2.2.2.2.2.1, .ref (zo w + (a + 24)), .ref (zo w + (a + 25)), .ref (zo w + (a + 26)), .ref (zo w + (a + 27)), .ref (zo w + (a + 28))])), (29, .inr (3, [.int r.2.2.2.2.2.2, .ref (zo w + (a + 30)), .ref (zo w + (a + 31)), .ref (zo w + (a + 32)), .ref (zo w + (a + 33))]))])) := by
  unfold f_X5_clear at hf
  refine zMP_of (by decide) rfl (fun X C => ?_)
  refine z_eq (h' := (zu h a [(0, .inr (5, [.int pr_day, .ref (zo w + (a + 1)), .ref (zo w + (a + 2)), .ref (zo w + pr_pricing), .ref (zo w + (a + 13)), .ref (zo w + (a + 19)), .ref (zo w + (a + 23)), .ref (zo w + (a + 29)), .ref (zo w + (a + 34))])), (1, .inl (w.2.2.1 1, 9, .inr (.inl pr_accounts))), (2, .inr (1, [.int co_count, .ref (zo w + (a + 3)), .ref (zo w + (a + 4)), .ref (zo w + (a + 5)), .ref (zo w + (a + 6)), .ref (zo w + (a + 7)), .ref (zo w + (a + 8)), .ref (zo w + (a + 9))])), (14, .inl (w.2.2.1 0, 8, .inl it_count)), (19, .inr (7, [.int va_count, .ref (zo w + (a + 20)), .ref (zo w + (a + 21)), .ref (zo w + (a + 22))])), (23, .inr (0, [.int ce_count, .ref (zo w + (a + 24)), .ref (zo w + (a + 25)), .ref (zo w + (a + 26)), .ref (zo w + (a + 27)), .ref (zo w + (a + 28))])), (29, .inr (3, [.int li_count, .ref (zo w + (a + 30)), .ref (zo w + (a + 31)), .ref (zo w + (a + 32)), .ref (zo w + (a + 33))]))])) (zu_s h_a0 (zu_s h_a1 (zu_s h_a2 (zu_s h_a14 (zu_s h_a19 (zu_s h_a23 (zu_s h_a29 zu_0))))))).symm ?_
  have n_a0 := h_a0.1
  have n_a1 := h_a1.1
  have n_a2 := h_a2.1
  have n_a14 := h_a14.1
  have n_a19 := h_a19.1
  have n_a23 := h_a23.1
  have n_a29 := h_a29.1
  refine z_pick (lv' := [(0, .ref (zo w + a)), (1, .int p1)]) [0, 1] rfl ?_
  refine z_aload_n (pc' := 1) C 0 dX5_clear_0 rfl rfl rfl ?_
  refine z_iconst (pc' := 2) C dX5_clear_1 zk_iconst_0 rfl ?_
  refine z_putf (pc' := 5) C zci_5 zw_234 (j := 0) rfl (zc_i (o := 0) n_a0 rfl) (fs' := [.int (0 : Int32), .ref (zo w + (a + 1)), .ref (zo w + (a + 2)), .ref (zo w + pr_pricing), .ref (zo w + (a + 13)), .ref (zo w + (a + 19)), .ref (zo w + (a + 23)), .ref (zo w + (a + 29)), .ref (zo w + (a + 34))]) rfl rfl rfl rfl rfl (zu_put (o := 0) (L' := [(0, .inr (5, [.int (0 : Int32), .ref (zo w + (a + 1)), .ref (zo w + (a + 2)), .ref (zo w + pr_pricing), .ref (zo w + (a + 13)), .ref (zo w + (a + 19)), .ref (zo w + (a + 23)), .ref (zo w + (a + 29)), .ref (zo w + (a + 34))])), (1, .inl (w.2.2.1 1, 9, .inr (.inl pr_accounts))), (2, .inr (1, [.int co_count, .ref (zo w + (a + 3)), .ref (zo w + (a + 4)), .ref (zo w + (a + 5)), .ref (zo w + (a + 6)), .ref (zo w + (a + 7)), .ref (zo w + (a + 8)), .ref (zo w + (a + 9))])), (14, .inl (w.2.2.1 0, 8, .inl it_count)), (19, .inr (7, [.int va_count, .ref (zo w + (a + 20)), .ref (zo w + (a + 21)), .ref (zo w + (a + 22))])), (23, .inr (0, [.int ce_count, .ref (zo w + (a + 24)), .ref (zo w + (a + 25)), .ref (zo w + (a + 26)), .ref (zo w + (a + 27)), .ref (zo w + (a + 28))])), (29, .inr (3, [.int li_count, .ref (zo w + (a + 30)), .ref (zo w + (a + 31)), .ref (zo w + (a + 32)), .ref (zo w + (a + 33))]))]) rfl) dX5_clear_2 rfl ?_
  refine z_iconst (pc' := 6) C dX5_clear_5 zk_iconst_0 rfl ?_
  refine z_istore_n (pc' := 7) C [(2, .int (0 : Int32)), (0, .ref (zo w + a)), (1, .int p1)] dX5_clear_6 rfl rfl rfl rfl ?_
  refine z_pick (lv' := [(0, .ref (zo w + a)), (1, .int p1), (2, .int (0 : Int32))]) [1, 2, 0] rfl ?_
  exact w_X5_clear_7 C n_a0 n_a1 n_a2 h_a13 n_a14 n_a19 n_a23 n_a29 hTa hTb hTc hTj  FU hf
set_option maxRecDepth 20000 in
theorem c_X5_copyFrom {w : zV} {N : Nat} {h : zH} {a b1 : Nat} {pr_day : Int32} {pr_pricing : Nat} {pr_accounts : Nat → Int64} {it_count : Nat → Int32} {it_first : Nat → Int32} {it_price : Nat → Int32} {it_quantity : Nat → Int32} {it_progress : Nat → Int32} {va_count : Int32} {co_count : Int32} {va_slot : Nat → Int32} {va_change : Nat → Int32} {va_approved : Nat → Int32} {ce_count : Int32} {ce_contract : Nat → Int32} {ce_amount : Nat → Int64} {ce_open : Nat → Int64} {ce_issued : Nat → Int32} {ce_due : Nat → Int32} {li_count : Int32} {co_parent : Nat → Int32} {li_contract : Nat → Int32} {li_amount : Nat → Int64} {li_filed : Nat → Int32} {li_withdrawn : Nat → Int32} {co_retentionPercent : Nat → Int32} {co_limitPercent : Nat → Int32} {co_paymentDays : Nat → Int32} {co_rank : Nat → Int32} {co_linked : Nat → Int32} {co_stage : Nat → Int32} {pr_day_b1 : Int32} {pr_pricing_b1 : Nat} {pr_accounts_b1 : Nat → Int64} {it_count_b1 : Nat → Int32} {it_first_b1 : Nat → Int32} {it_price_b1 : Nat → Int32} {it_quantity_b1 : Nat → Int32} {it_progress_b1 : Nat → Int32} {va_count_b1 : Int32} {co_count_b1 : Int32} {va_slot_b1 : Nat → Int32} {va_change_b1 : Nat → Int32} {va_approved_b1 : Nat → Int32} {ce_count_b1 : Int32} {ce_contract_b1 : Nat → Int32} {ce_amount_b1 : Nat → Int64} {ce_open_b1 : Nat → Int64} {ce_issued_b1 : Nat → Int32} {ce_due_b1 : Nat → Int32} {li_count_b1 : Int32} {co_parent_b1 : Nat → Int32} {li_contract_b1 : Nat → Int32} {li_amount_b1 : Nat → Int64} {li_filed_b1 : Nat → Int32} {li_withdrawn_b1 : Nat → Int32} {co_retentionPercent_b1 : Nat → Int32} {co_limitPercent_b1 : Nat → Int32} {co_paymentDays_b1 : Nat → Int32} {co_rank_b1 : Nat → Int32} {co_linked_b1 : Nat → Int32} {co_stage_b1 : Nat → Int32} (h_a0 : zc N h (a + 0) (.inr (5, [.int pr_day, .ref (zo w + (a + 1)), .ref (zo w + (a + 2)), .ref (zo w + pr_pricing), .ref (zo w + (a + 13)), .ref (zo w + (a + 19)), .ref (zo w + (a + 23)), .ref (zo w + (a + 29)), .ref (zo w + (a + 34))]))) (h_a1 : zc N h (a + 1) (.inl (w.2.2.1 1, 9, .inr (.inl pr_accounts)))) (h_a2 : zc N h (a + 2) (.inr (1, [.int co_count, .ref (zo w + (a + 3)), .ref (zo w + (a + 4)), .ref (zo w + (a + 5)), .ref (zo w + (a + 6)), .ref (zo w + (a + 7)), .ref (zo w + (a + 8)), .ref (zo w + (a + 9))]))) (h_a3 : zc N h (a + 3) (.inl (w.2.2.1 0, 8, .inl co_parent))) (h_a4 : zc N h (a + 4) (.inl (w.2.2.1 0, 8, .inl co_retentionPercent))) (h_a5 : zc N h (a + 5) (.inl (w.2.2.1 0, 8, .inl co_limitPercent))) (h_a6 : zc N h (a + 6) (.inl (w.2.2.1 0, 8, .inl co_paymentDays))) (h_a7 : zc N h (a + 7) (.inl (w.2.2.1 0, 8, .inl co_rank))) (h_a8 : zc N h (a + 8) (.inl (w.2.2.1 3, 8, .inl co_linked))) (h_a9 : zc N h (a + 9) (.inl (w.2.2.1 0, 8, .inl co_stage))) (h_a13 : zc N h (a + 13) (.inr (2, [.ref (zo w + (a + 14)), .ref (zo w + (a + 15)), .ref (zo w + (a + 16)), .ref (zo w + (a + 17)), .ref (zo w + (a + 18))]))) (h_a14 : zc N h (a + 14) (.inl (w.2.2.1 0, 8, .inl it_count))) (h_a15 : zc N h (a + 15) (.inl (w.2.2.1 0, 48, .inl it_first))) (h_a16 : zc N h (a + 16) (.inl (w.2.2.1 0, 48, .inl it_price))) (h_a17 : zc N h (a + 17) (.inl (w.2.2.1 0, 48, .inl it_quantity))) (h_a18 : zc N h (a + 18) (.inl (w.2.2.1 0, 48, .inl it_progress))) (h_a19 : zc N h (a + 19) (.inr (7, [.int va_count, .ref (zo w + (a + 20)), .ref (zo w + (a + 21)), .ref (zo w + (a + 22))]))) (h_a20 : zc N h (a + 20) (.inl (w.2.2.1 0, 20, .inl va_slot))) (h_a21 : zc N h (a + 21) (.inl (w.2.2.1 0, 20, .inl va_change))) (h_a22 : zc N h (a + 22) (.inl (w.2.2.1 3, 20, .inl va_approved))) (h_a23 : zc N h (a + 23) (.inr (0, [.int ce_count, .ref (zo w + (a + 24)), .ref (zo w + (a + 25)), .ref (zo w + (a + 26)), .ref (zo w + (a + 27)), .ref (zo w + (a + 28))]))) (h_a24 : zc N h (a + 24) (.inl (w.2.2.1 0, 40, .inl ce_contract))) (h_a25 : zc N h (a + 25) (.inl (w.2.2.1 1, 40, .inr (.inl ce_amount)))) (h_a26 : zc N h (a + 26) (.inl (w.2.2.1 1, 40, .inr (.inl ce_open)))) (h_a27 : zc N h (a + 27) (.inl (w.2.2.1 0, 40, .inl ce_issued))) (h_a28 : zc N h (a + 28) (.inl (w.2.2.1 0, 40, .inl ce_due))) (h_a29 : zc N h (a + 29) (.inr (3, [.int li_count, .ref (zo w + (a + 30)), .ref (zo w + (a + 31)), .ref (zo w + (a + 32)), .ref (zo w + (a + 33))]))) (h_a30 : zc N h (a + 30) (.inl (w.2.2.1 0, 12, .inl li_contract))) (h_a31 : zc N h (a + 31) (.inl (w.2.2.1 1, 12, .inr (.inl li_amount)))) (h_a32 : zc N h (a + 32) (.inl (w.2.2.1 0, 12, .inl li_filed))) (h_a33 : zc N h (a + 33) (.inl (w.2.2.1 3, 12, .inl li_withdrawn))) (h_b10 : zc N h (b1 + 0) (.inr (5, [.int pr_day_b1, .ref (zo w + (b1 + 1)), .ref (zo w + (b1 + 2)), .ref (zo w + pr_pricing_b1), .ref (zo w + (b1 + 13)), .ref (zo w + (b1 + 19)), .ref (zo w + (b1 + 23)), .ref (zo w + (b1 + 29)), .ref (zo w + (b1 + 34))]))) (h_b11 : zc N h (b1 + 1) (.inl (w.2.2.1 1, 9, .inr (.inl pr_accounts_b1)))) (h_b12 : zc N h (b1 + 2) (.inr (1, [.int co_count_b1, .ref (zo w + (b1 + 3)), .ref (zo w + (b1 + 4)), .ref (zo w + (b1 + 5)), .ref (zo w + (b1 + 6)), .ref (zo w + (b1 + 7)), .ref (zo w + (b1 + 8)), .ref (zo w + (b1 + 9))]))) (h_b13 : zc N h (b1 + 3) (.inl (w.2.2.1 0, 8, .inl co_parent_b1))) (h_b14 : zc N h (b1 + 4) (.inl (w.2.2.1 0, 8, .inl co_retentionPercent_b1))) (h_b15 : zc N h (b1 + 5) (.inl (w.2.2.1 0, 8, .inl co_limitPercent_b1))) (h_b16 : zc N h (b1 + 6) (.inl (w.2.2.1 0, 8, .inl co_paymentDays_b1))) (h_b17 : zc N h (b1 + 7) (.inl (w.2.2.1 0, 8, .inl co_rank_b1))) (h_b18 : zc N h (b1 + 8) (.inl (w.2.2.1 3, 8, .inl co_linked_b1))) (h_b19 : zc N h (b1 + 9) (.inl (w.2.2.1 0, 8, .inl co_stage_b1))) (h_b113 : zc N h (b1 + 13) (.inr (2, [.ref (zo w + (b1 + 14)), .ref (zo w + (b1 + 15)), .ref (zo w + (b1 + 16)), .ref (zo w + (b1 + 17)), .ref (zo w + (b1 + 18))]))) (h_b114 : zc N h (b1 + 14) (.inl (w.2.2.1 0, 8, .inl it_count_b1))) (h_b115 : zc N h (b1 + 15) (.inl (w.2.2.1 0, 48, .inl it_first_b1))) (h_b116 : zc N h (b1 + 16) (.inl (w.2.2.1 0, 48, .inl it_price_b1))) (h_b117 : zc N h (b1 + 17) (.inl (w.2.2.1 0, 48, .inl it_quantity_b1))) (h_b118 : zc N h (b1 + 18) (.inl (w.2.2.1 0, 48, .inl it_progress_b1))) (h_b119 : zc N h (b1 + 19) (.inr (7, [.int va_count_b1, .ref (zo w + (b1 + 20)), .ref (zo w + (b1 + 21)), .ref (zo w + (b1 + 22))]))) (h_b120 : zc N h (b1 + 20) (.inl (w.2.2.1 0, 20, .inl va_slot_b1))) (h_b121 : zc N h (b1 + 21) (.inl (w.2.2.1 0, 20, .inl va_change_b1))) (h_b122 : zc N h (b1 + 22) (.inl (w.2.2.1 3, 20, .inl va_approved_b1))) (h_b123 : zc N h (b1 + 23) (.inr (0, [.int ce_count_b1, .ref (zo w + (b1 + 24)), .ref (zo w + (b1 + 25)), .ref (zo w + (b1 + 26)), .ref (zo w + (b1 + 27)), .ref (zo w + (b1 + 28))]))) (h_b124 : zc N h (b1 + 24) (.inl (w.2.2.1 0, 40, .inl ce_contract_b1))) (h_b125 : zc N h (b1 + 25) (.inl (w.2.2.1 1, 40, .inr (.inl ce_amount_b1)))) (h_b126 : zc N h (b1 + 26) (.inl (w.2.2.1 1, 40, .inr (.inl ce_open_b1)))) (h_b127 : zc N h (b1 + 27) (.inl (w.2.2.1 0, 40, .inl ce_issued_b1))) (h_b128 : zc N h (b1 + 28) (.inl (w.2.2.1 0, 40, .inl ce_due_b1))) (h_b129 : zc N h (b1 + 29) (.inr (3, [.int li_count_b1, .ref (zo w + (b1 + 30)), .ref (zo w + (b1 + 31)), .ref (zo w + (b1 + 32)), .ref (zo w + (b1 + 33))]))) (h_b130 : zc N h (b1 + 30) (.inl (w.2.2.1 0, 12, .inl li_contract_b1))) (h_b131 : zc N h (b1 + 31) (.inl (w.2.2.1 1, 12, .inr (.inl li_amount_b1)))) (h_b132 : zc N h (b1 + 32) (.inl (w.2.2.1 0, 12, .inl li_filed_b1))) (h_b133 : zc N h (b1 + 33) (.inl (w.2.2.1 3, 12, .inl li_withdrawn_b1))) (far_b1 : b1 + 34 ≤ a ∨ a + 34 ≤ b1) {r : Int32 × (Nat → Int64) × Int32 × (Nat → Int32) × (Nat → Int32) × (Nat → Int32) × (Nat → Int32) × (Nat → Int32) × (Nat → Int32) × (Nat → Int32) × (Nat → Int32) × (Nat → Int32) × (Nat → Int32) × (Nat → Int32) × (Nat → Int32) × Int32 × (Nat → Int32) × (Nat → Int32) × (Nat → Int32) × Int32 × (Nat → Int32) × (Nat → Int64) × (Nat → Int64) × (Nat → Int32) × (Nat → Int32) × Int32 × (Nat → Int32) × (Nat → Int64) × (Nat → Int32) × (Nat → Int32)} (hf : f_X5_copyFrom pr_day pr_accounts co_count co_parent co_retentionPercent co_limitPercent co_paymentDays co_rank co_linked co_stage it_count it_first it_price it_quantity it_progress va_count va_slot va_change va_approved ce_count ce_contract ce_amount ce_open ce_issued ce_due li_count li_contract li_amount li_filed li_withdrawn pr_day_b1 pr_accounts_b1 co_count_b1 co_parent_b1 co_retentionPercent_b1 co_limitPercent_b1 co_paymentDays_b1 co_rank_b1 co_linked_b1 co_stage_b1 it_count_b1 it_first_b1 it_price_b1 it_quantity_b1 it_progress_b1 va_count_b1 va_slot_b1 va_change_b1 va_approved_b1 ce_count_b1 ce_contract_b1 ce_amount_b1 ce_open_b1 ce_issued_b1 ce_due_b1 li_count_b1 li_contract_b1 li_amount_b1 li_filed_b1 li_withdrawn_b1 = some r) : zM w yX5_copyFrom cX5_copyFrom 2 none (zr 2 70) false N N h [.ref (zo w + a), .ref (zo w + b1)] (none) (zu h a [(0, .inr (5, [.int r.1, .ref (zo w + (a + 1)), .ref (zo w + (a + 2)), .ref (zo w + pr_pricing_b1), .ref (zo w + (a + 13)), .ref (zo w + (a + 19)), .ref (zo w + (a + 23)), .ref (zo w + (a + 29)), .ref (zo w + (a + 34))])), (1, .inl (w.2.2.1 1, 9, .inr (.inl r.2.1))), (2, .inr (1, [.int r.2.2.1, .ref (zo w + (a + 3)), .ref (zo w + (a + 4)), .ref (zo w + (a + 5)), .ref (zo w + (a + 6)), .ref (zo w + (a + 7)), .ref (zo w + (a + 8)), .ref (zo w + (a + 9))])), (3, .inl (w.2.2.1 0, 8, .inl r.2.2.2.1)), (4, .inl (w.2.2.1 0, 8, .inl r.2.2.2.2.1)), (5, .inl (w.2.2.1 0, 8, .inl r.2.2.2.2.2.1)), (6, .inl (w.2.2.1 0, 8, .inl r.2.2.2.2.2.2.1)), (7, .inl (w.2.2.1 0, 8, .inl r.2.2.2.2.2.2.2.1)), (8, .inl (w.2.2.1 3, 8, .inl r.2.2.2.2.2.2.2.2.1)), (9, .inl (w.2.2.1 0, 8, .inl r.2.2.2.2.2.2.2.2.2.1)), (14, .inl (w.2.2.1 0, 8, .inl r.2.2.2.2.2.2.2.2.2.2.1)), (15, .inl (w.2.2.1 0, 48, .inl r.2.2.2.2.2.2.2.2.2.2.2.1)), (16, .inl (w.2.2.1 0, 48, .inl r.2.2.2.2.2.2.2.2.2.2.2.2.1)), (17, .inl (w.2.2.1 0, 48, .inl r.2.2.2.2.2.2.2.2.2.2.2.2.2.1)), (18, .inl (w.2.2.1 0, 48, .inl r.2.2.2.2.2.2.2.2.2.2.2.2.2.2.1)), (19, .inr (7, [.int r.2.2.2.2.2.2.2.2.2.2.2.2.2.2.2.1, .ref (zo w + (a + 20)), .ref (zo w + (a + 21)), .ref (zo w + (a + 22))])), (20, .inl (w.2.2.1 0, 20, .inl r.2.2.2.2.2.2.2.2.2.2.2.2.2.2.2.2.1)), (21, .inl (w.2.2.1 0, 20, .inl r.2.2.2.2.2.2.2.2.2.2.2.2.2.2.2.2.2.1)), (22, .inl (w.2.2.1 3, 20, .inl r.2.2.2.2.2.2.2.2.2.2.2.2.2.2.2.2.2.2.1)), (23, .inr (0, [.int r.2.2.2.2.2.2.2.2.2.2.2.2.2.2.2.2.2.2.2.1, .ref (zo w + (a + 24)), .ref (zo w + (a + 25)), .ref (zo w + (a + 26)), .ref (zo w + (a + 27)), .ref (zo w + (a + 28))])), (24, .inl (w.2.2.1 0, 40, .inl r.2.2.2.2.2.2.2.2.2.2.2.2.2.2.2.2.2.2.2.2.1)), (25, .inl (w.2.2.1 1, 40, .inr (.inl r.2.2.2.2.2.2.2.2.2.2.2.2.2.2.2.2.2.2.2.2.2.1))), (26, .inl (w.2.2.1 1, 40, .inr (.inl r.2.2.2.2.2.2.2.2.2.2.2.2.2.2.2.2.2.2.2.2.2.2.1))), (27, .inl (w.2.2.1 0, 40, .inl r.2.2.2.2.2.2.2.2.2.2.2.2.2.2.2.2.2.2.2.2.2.2.2.1)), (28, .inl (w.2.2.1 0, 40, .inl r.2.2.2.2.2.2.2.2.2.2.2.2.2.2.2.2.2.2.2.2.2.2.2.2.1)), (29, .inr (3, [.int r.2.2.2.2.2.2.2.2.2.2.2.2.2.2.2.2.2.2.2.2.2.2.2.2.2.1, .ref (zo w + (a + 30)), .ref (zo w + (a + 31)), .ref (zo w + (a + 32)), .ref (zo w + (a + 33))])), (30, .inl (w.2.2.1 0, 12, .inl r.2.2.2.2.2.2.2.2.2.2.2.2.2.2.2.2.2.2.2.2.2.2.2.2.2.2.1)), (31, .inl (w.2.2.1 1, 12, .inr (.inl r.2.2.2.2.2.2.2.2.2.2.2.2.2.2.2.2.2.2.2.2.2.2.2.2.2.2.2.1))), (32, .inl (w.2.2.1 0, 12, .inl r.2.2.2.2.2.2.2.2.2.2.2.2.2.2.2.2.2.2.2.2.2.2.2.2.2.2.2.2.1)), (33, .inl (w.2.2.1 3, 12, .inl r.2.2.2.2.2.2.2.2.2.2.2.2.2.2.2.2.2.2.2.2.2.2.2.2.2.2.2.2.2))]) := by
  unfold f_X5_copyFrom at hf
  refine zM_of (by decide) rfl (fun X C _ => ?_)
  refine z_eq (h' := (zu h a [(0, .inr (5, [.int pr_day, .ref (zo w + (a + 1)), .ref (zo w + (a + 2)), .ref (zo w + pr_pricing), .ref (zo w + (a + 13)), .ref (zo w + (a + 19)), .ref (zo w + (a + 23)), .ref (zo w + (a + 29)), .ref (zo w + (a + 34))])), (1, .inl (w.2.2.1 1, 9, .inr (.inl pr_accounts))), (2, .inr (1, [.int co_count, .ref (zo w + (a + 3)), .ref (zo w + (a + 4)), .ref (zo w + (a + 5)), .ref (zo w + (a + 6)), .ref (zo w + (a + 7)), .ref (zo w + (a + 8)), .ref (zo w + (a + 9))])), (3, .inl (w.2.2.1 0, 8, .inl co_parent)), (4, .inl (w.2.2.1 0, 8, .inl co_retentionPercent)), (5, .inl (w.2.2.1 0, 8, .inl co_limitPercent)), (6, .inl (w.2.2.1 0, 8, .inl co_paymentDays)), (7, .inl (w.2.2.1 0, 8, .inl co_rank)), (8, .inl (w.2.2.1 3, 8, .inl co_linked)), (9, .inl (w.2.2.1 0, 8, .inl co_stage)), (14, .inl (w.2.2.1 0, 8, .inl it_count)), (15, .inl (w.2.2.1 0, 48, .inl it_first)), (16, .inl (w.2.2.1 0, 48, .inl it_price)), (17, .inl (w.2.2.1 0, 48, .inl it_quantity)), (18, .inl (w.2.2.1 0, 48, .inl it_progress)), (19, .inr (7, [.int va_count, .ref (zo w + (a + 20)), .ref (zo w + (a + 21)), .ref (zo w + (a + 22))])), (20, .inl (w.2.2.1 0, 20, .inl va_slot)), (21, .inl (w.2.2.1 0, 20, .inl va_change)), (22, .inl (w.2.2.1 3, 20, .inl va_approved)), (23, .inr (0, [.int ce_count, .ref (zo w + (a + 24)), .ref (zo w + (a + 25)), .ref (zo w + (a + 26)), .ref (zo w + (a + 27)), .ref (zo w + (a + 28))])), (24, .inl (w.2.2.1 0, 40, .inl ce_contract)), (25, .inl (w.2.2.1 1, 40, .inr (.inl ce_amount))), (26, .inl (w.2.2.1 1, 40, .inr (.inl ce_open))), (27, .inl (w.2.2.1 0, 40, .inl ce_issued)), (28, .inl (w.2.2.1 0, 40, .inl ce_due)), (29, .inr (3, [.int li_count, .ref (zo w + (a + 30)), .ref (zo w + (a + 31)), .ref (zo w + (a + 32)), .ref (zo w + (a + 33))])), (30, .inl (w.2.2.1 0, 12, .inl li_contract)), (31, .inl (w.2.2.1 1, 12, .inr (.inl li_amount))), (32, .inl (w.2.2.1 0, 12, .inl li_filed)), (33, .inl (w.2.2.1 3, 12, .inl li_withdrawn))])) (zu_s h_a0 (zu_s h_a1 (zu_s h_a2 (zu_s h_a3 (zu_s h_a4 (zu_s h_a5 (zu_s h_a6 (zu_s h_a7 (zu_s h_a8 (zu_s h_a9 (zu_s h_a14 (zu_s h_a15 (zu_s h_a16 (zu_s h_a17 (zu_s h_a18 (zu_s h_a19 (zu_s h_a20 (zu_s h_a21 (zu_s h_a22 (zu_s h_a23 (zu_s h_a24 (zu_s h_a25 (zu_s h_a26 (zu_s h_a27 (zu_s h_a28 (zu_s h_a29 (zu_s h_a30 (zu_s h_a31 (zu_s h_a32 (zu_s h_a33 zu_0)))))))))))))))))))))))))))))).symm ?_
  have n_a0 := h_a0.1
  have n_a1 := h_a1.1
  have n_a2 := h_a2.1
  have n_a3 := h_a3.1
  have n_a4 := h_a4.1
  have n_a5 := h_a5.1
  have n_a6 := h_a6.1
  have n_a7 := h_a7.1
  have n_a8 := h_a8.1
  have n_a9 := h_a9.1
  have n_a14 := h_a14.1
  have n_a15 := h_a15.1
  have n_a16 := h_a16.1
  have n_a17 := h_a17.1
  have n_a18 := h_a18.1
  have n_a19 := h_a19.1
  have n_a20 := h_a20.1
  have n_a21 := h_a21.1
  have n_a22 := h_a22.1
  have n_a23 := h_a23.1
  have n_a24 := h_a24.1
  have n_a25 := h_a25.1
  have n_a26 := h_a26.1
  have n_a27 := h_a27.1
  have n_a28 := h_a28.1
  have n_a29 := h_a29.1
  have n_a30 := h_a30.1
  have n_a31 := h_a31.1
  have n_a32 := h_a32.1
  have n_a33 := h_a33.1
  refine z_pick (lv' := [(0, .ref (zo w + a)), (1, .ref (zo w + b1))]) [0, 1] rfl ?_
  refine z_aload_n (pc' := 1) C 0 dX5_copyFrom_0 rfl rfl rfl ?_
  refine z_aload_n (pc' := 2) C 1 dX5_copyFrom_1 rfl rfl rfl ?_
  refine z_getf (pc' := 5) C zci_5 zw_234 (j := 0) rfl (zc_f (m := 34) h_b10 (by omega) rfl) rfl rfl dX5_copyFrom_2 rfl ?_
  refine z_putf (pc' := 8) C zci_5 zw_234 (j := 0) rfl (zc_i (o := 0) n_a0 rfl) (fs' := [.int pr_day_b1, .ref (zo w + (a + 1)), .ref (zo w + (a + 2)), .ref (zo w + pr_pricing), .ref (zo w + (a + 13)), .ref (zo w + (a + 19)), .ref (zo w + (a + 23)), .ref (zo w + (a + 29)), .ref (zo w + (a + 34))]) rfl rfl rfl rfl rfl (zu_put (o := 0) (L' := [(0, .inr (5, [.int pr_day_b1, .ref (zo w + (a + 1)), .ref (zo w + (a + 2)), .ref (zo w + pr_pricing), .ref (zo w + (a + 13)), .ref (zo w + (a + 19)), .ref (zo w + (a + 23)), .ref (zo w + (a + 29)), .ref (zo w + (a + 34))])), (1, .inl (w.2.2.1 1, 9, .inr (.inl pr_accounts))), (2, .inr (1, [.int co_count, .ref (zo w + (a + 3)), .ref (zo w + (a + 4)), .ref (zo w + (a + 5)), .ref (zo w + (a + 6)), .ref (zo w + (a + 7)), .ref (zo w + (a + 8)), .ref (zo w + (a + 9))])), (3, .inl (w.2.2.1 0, 8, .inl co_parent)), (4, .inl (w.2.2.1 0, 8, .inl co_retentionPercent)), (5, .inl (w.2.2.1 0, 8, .inl co_limitPercent)), (6, .inl (w.2.2.1 0, 8, .inl co_paymentDays)), (7, .inl (w.2.2.1 0, 8, .inl co_rank)), (8, .inl (w.2.2.1 3, 8, .inl co_linked)), (9, .inl (w.2.2.1 0, 8, .inl co_stage)), (14, .inl (w.2.2.1 0, 8, .inl it_count)), (15, .inl (w.2.2.1 0, 48, .inl it_first)), (16, .inl (w.2.2.1 0, 48, .inl it_price)), (17, .inl (w.2.2.1 0, 48, .inl it_quantity)), (18, .inl (w.2.2.1 0, 48, .inl it_progress)), (19, .inr (7, [.int va_count, .ref (zo w + (a + 20)), .ref (zo w + (a + 21)), .ref (zo w + (a + 22))])), (20, .inl (w.2.2.1 0, 20, .inl va_slot)), (21, .inl (w.2.2.1 0, 20, .inl va_change)), (22, .inl (w.2.2.1 3, 20, .inl va_approved)), (23, .inr (0, [.int ce_count, .ref (zo w + (a + 24)), .ref (zo w + (a + 25)), .ref (zo w + (a + 26)), .ref (zo w + (a + 27)), .ref (zo w + (a + 28))])), (24, .inl (w.2.2.1 0, 40, .inl ce_contract)), (25, .inl (w.2.2.1 1, 40, .inr (.inl ce_amount))), (26, .inl (w.2.2.1 1, 40, .inr (.inl ce_open))), (27, .inl (w.2.2.1 0, 40, .inl ce_issued)), (28, .inl (w.2.2.1 0, 40, .inl ce_due)), (29, .inr (3, [.int li_count, .ref (zo w + (a + 30)), .ref (zo w + (a + 31)), .ref (zo w + (a + 32)), .ref (zo w + (a + 33))])), (30, .inl (w.2.2.1 0, 12, .inl li_contract)), (31, .inl (w.2.2.1 1, 12, .inr (.inl li_amount))), (32, .inl (w.2.2.1 0, 12, .inl li_filed)), (33, .inl (w.2.2.1 3, 12, .inl li_withdrawn))]) rfl) dX5_copyFrom_5 rfl ?_
  refine z_aload_n (pc' := 9) C 1 dX5_copyFrom_8 rfl rfl rfl ?_
  refine z_getf (pc' := 12) C zci_5 zw_236 (j := 1) rfl (zc_f (m := 34) h_b10 (by omega) rfl) rfl rfl dX5_copyFrom_9 rfl ?_
  refine z_iconst (pc' := 13) C dX5_copyFrom_12 zk_iconst_0 rfl ?_
  refine z_aload_n (pc' := 14) C 0 dX5_copyFrom_13 rfl rfl rfl ?_
  refine z_getf (pc' := 17) C zci_5 zw_236 (j := 1) rfl (zc_i (o := 0) n_a0 rfl) rfl rfl dX5_copyFrom_14 rfl ?_
  refine z_iconst (pc' := 18) C dX5_copyFrom_17 zk_iconst_0 rfl ?_
  refine z_aload_n (pc' := 19) C 0 dX5_copyFrom_18 rfl rfl rfl ?_
  refine z_getf (pc' := 22) C zci_5 zw_236 (j := 1) rfl (zc_i (o := 0) n_a0 rfl) rfl rfl dX5_copyFrom_19 rfl ?_
  refine z_alen (pc' := 23) C 1 (zc_i (o := 1) n_a1 rfl) rfl (v := (9 : Int32)) zk_len_9 dX5_copyFrom_22 rfl ?_
  refine z_cpl (pc' := 26) C hf (zc_f (m := 34) h_b11 (by omega) rfl) (zc_i (o := 1) n_a1 rfl) (h' := fun v_23 => (zu h a [(0, .inr (5, [.int pr_day_b1, .ref (zo w + (a + 1)), .ref (zo w + (a + 2)), .ref (zo w + pr_pricing), .ref (zo w + (a + 13)), .ref (zo w + (a + 19)), .ref (zo w + (a + 23)), .ref (zo w + (a + 29)), .ref (zo w + (a + 34))])), (1, .inl (w.2.2.1 1, 9, .inr (.inl v_23))), (2, .inr (1, [.int co_count, .ref (zo w + (a + 3)), .ref (zo w + (a + 4)), .ref (zo w + (a + 5)), .ref (zo w + (a + 6)), .ref (zo w + (a + 7)), .ref (zo w + (a + 8)), .ref (zo w + (a + 9))])), (3, .inl (w.2.2.1 0, 8, .inl co_parent)), (4, .inl (w.2.2.1 0, 8, .inl co_retentionPercent)), (5, .inl (w.2.2.1 0, 8, .inl co_limitPercent)), (6, .inl (w.2.2.1 0, 8, .inl co_paymentDays)), (7, .inl (w.2.2.1 0, 8, .inl co_rank)), (8, .inl (w.2.2.1 3, 8, .inl co_linked)), (9, .inl (w.2.2.1 0, 8, .inl co_stage)), (14, .inl (w.2.2.1 0, 8, .inl it_count)), (15, .inl (w.2.2.1 0, 48, .inl it_first)), (16, .inl (w.2.2.1 0, 48, .inl it_price)), (17, .inl (w.2.2.1 0, 48, .inl it_quantity)), (18, .inl (w.2.2.1 0, 48, .inl it_progress)), (19, .inr (7, [.int va_count, .ref (zo w + (a + 20)), .ref (zo w + (a + 21)), .ref (zo w + (a + 22))])), (20, .inl (w.2.2.1 0, 20, .inl va_slot)), (21, .inl (w.2.2.1 0, 20, .inl va_change)), (22, .inl (w.2.2.1 3, 20, .inl va_approved)), (23, .inr (0, [.int ce_count, .ref (zo w + (a + 24)), .ref (zo w + (a + 25)), .ref (zo w + (a + 26)), .ref (zo w + (a + 27)), .ref (zo w + (a + 28))])), (24, .inl (w.2.2.1 0, 40, .inl ce_contract)), (25, .inl (w.2.2.1 1, 40, .inr (.inl ce_amount))), (26, .inl (w.2.2.1 1, 40, .inr (.inl ce_open))), (27, .inl (w.2.2.1 0, 40, .inl ce_issued)), (28, .inl (w.2.2.1 0, 40, .inl ce_due)), (29, .inr (3, [.int li_count, .ref (zo w + (a + 30)), .ref (zo w + (a + 31)), .ref (zo w + (a + 32)), .ref (zo w + (a + 33))])), (30, .inl (w.2.2.1 0, 12, .inl li_contract)), (31, .inl (w.2.2.1 1, 12, .inr (.inl li_amount))), (32, .inl (w.2.2.1 0, 12, .inl li_filed)), (33, .inl (w.2.2.1 3, 12, .inl li_withdrawn))])) (fun _ => zu_put (o := 1) rfl) zw_671 rfl rfl dX5_copyFrom_23 rfl (fun v_23 hf => ?_)
  refine z_aload_n (pc' := 27) C 0 dX5_copyFrom_26 rfl rfl rfl ?_
  refine z_getf (pc' := 30) C zci_5 zw_239 (j := 2) rfl (zc_i (o := 0) n_a0 rfl) rfl rfl dX5_copyFrom_27 rfl ?_
  refine z_aload_n (pc' := 31) C 1 dX5_copyFrom_30 rfl rfl rfl ?_
  refine z_getf (pc' := 34) C zci_5 zw_239 (j := 2) rfl (zc_f (m := 34) h_b10 (by omega) rfl) rfl rfl dX5_copyFrom_31 rfl ?_
  refine z_cV (pc' := 37) C hf (As := [.ref (zo w + (b1 + 2))]) (fun hq => c_X1_copyFrom (a := (a + 2)) (b1 := (b1 + 2)) (zc_i (o := 2) n_a2 rfl) (zc_i (o := 3) n_a3 rfl) (zc_i (o := 4) n_a4 rfl) (zc_i (o := 5) n_a5 rfl) (zc_i (o := 6) n_a6 rfl) (zc_i (o := 7) n_a7 rfl) (zc_i (o := 8) n_a8 rfl) (zc_i (o := 9) n_a9 rfl) (zc_f (m := 34) h_b12 (by omega) rfl) (zc_f (m := 34) h_b13 (by omega) rfl) (zc_f (m := 34) h_b14 (by omega) rfl) (zc_f (m := 34) h_b15 (by omega) rfl) (zc_f (m := 34) h_b16 (by omega) rfl) (zc_f (m := 34) h_b17 (by omega) rfl) (zc_f (m := 34) h_b18 (by omega) rfl) (zc_f (m := 34) h_b19 (by omega) rfl) (by omega) hq) (fun q_34 => (zu h a [(0, .inr (5, [.int pr_day_b1, .ref (zo w + (a + 1)), .ref (zo w + (a + 2)), .ref (zo w + pr_pricing), .ref (zo w + (a + 13)), .ref (zo w + (a + 19)), .ref (zo w + (a + 23)), .ref (zo w + (a + 29)), .ref (zo w + (a + 34))])), (1, .inl (w.2.2.1 1, 9, .inr (.inl v_23))), (2, .inr (1, [.int q_34.1, .ref (zo w + (a + 3)), .ref (zo w + (a + 4)), .ref (zo w + (a + 5)), .ref (zo w + (a + 6)), .ref (zo w + (a + 7)), .ref (zo w + (a + 8)), .ref (zo w + (a + 9))])), (3, .inl (w.2.2.1 0, 8, .inl q_34.2.1)), (4, .inl (w.2.2.1 0, 8, .inl q_34.2.2.1)), (5, .inl (w.2.2.1 0, 8, .inl q_34.2.2.2.1)), (6, .inl (w.2.2.1 0, 8, .inl q_34.2.2.2.2.1)), (7, .inl (w.2.2.1 0, 8, .inl q_34.2.2.2.2.2.1)), (8, .inl (w.2.2.1 3, 8, .inl q_34.2.2.2.2.2.2.1)), (9, .inl (w.2.2.1 0, 8, .inl q_34.2.2.2.2.2.2.2)), (14, .inl (w.2.2.1 0, 8, .inl it_count)), (15, .inl (w.2.2.1 0, 48, .inl it_first)), (16, .inl (w.2.2.1 0, 48, .inl it_price)), (17, .inl (w.2.2.1 0, 48, .inl it_quantity)), (18, .inl (w.2.2.1 0, 48, .inl it_progress)), (19, .inr (7, [.int va_count, .ref (zo w + (a + 20)), .ref (zo w + (a + 21)), .ref (zo w + (a + 22))])), (20, .inl (w.2.2.1 0, 20, .inl va_slot)), (21, .inl (w.2.2.1 0, 20, .inl va_change)), (22, .inl (w.2.2.1 3, 20, .inl va_approved)), (23, .inr (0, [.int ce_count, .ref (zo w + (a + 24)), .ref (zo w + (a + 25)), .ref (zo w + (a + 26)), .ref (zo w + (a + 27)), .ref (zo w + (a + 28))])), (24, .inl (w.2.2.1 0, 40, .inl ce_contract)), (25, .inl (w.2.2.1 1, 40, .inr (.inl ce_amount))), (26, .inl (w.2.2.1 1, 40, .inr (.inl ce_open))), (27, .inl (w.2.2.1 0, 40, .inl ce_issued)), (28, .inl (w.2.2.1 0, 40, .inl ce_due)), (29, .inr (3, [.int li_count, .ref (zo w + (a + 30)), .ref (zo w + (a + 31)), .ref (zo w + (a + 32)), .ref (zo w + (a + 33))])), (30, .inl (w.2.2.1 0, 12, .inl li_contract)), (31, .inl (w.2.2.1 1, 12, .inr (.inl li_amount))), (32, .inl (w.2.2.1 0, 12, .inl li_filed)), (33, .inl (w.2.2.1 3, 12, .inl li_withdrawn))])) (fun q_34 => []) (fun _ => zu_sh (d := 2) rfl rfl) (fun _ => rfl) zy_X1_copyFrom zw_674 zw_675 zw_676 (ci := 1) rfl (zc_i (o := 2) n_a2 rfl) ⟨rfl, rfl⟩ rfl rfl rfl rfl rfl dX5_copyFrom_34 rfl (fun q_34 hf => ?_)
  refine z_aload_n (pc' := 38) C 0 dX5_copyFrom_37 rfl rfl rfl ?_
  refine z_aload_n (pc' := 39) C 1 dX5_copyFrom_38 rfl rfl rfl ?_
  refine z_getf (pc' := 42) C zci_5 zw_242 (j := 3) rfl (zc_f (m := 34) h_b10 (by omega) rfl) rfl rfl dX5_copyFrom_39 rfl ?_
  refine z_putf (pc' := 45) C zci_5 zw_242 (j := 3) rfl (zc_i (o := 0) n_a0 rfl) (fs' := [.int pr_day_b1, .ref (zo w + (a + 1)), .ref (zo w + (a + 2)), .ref (zo w + pr_pricing_b1), .ref (zo w + (a + 13)), .ref (zo w + (a + 19)), .ref (zo w + (a + 23)), .ref (zo w + (a + 29)), .ref (zo w + (a + 34))]) rfl rfl rfl rfl rfl (zu_put (o := 0) (L' := [(0, .inr (5, [.int pr_day_b1, .ref (zo w + (a + 1)), .ref (zo w + (a + 2)), .ref (zo w + pr_pricing_b1), .ref (zo w + (a + 13)), .ref (zo w + (a + 19)), .ref (zo w + (a + 23)), .ref (zo w + (a + 29)), .ref (zo w + (a + 34))])), (1, .inl (w.2.2.1 1, 9, .inr (.inl v_23))), (2, .inr (1, [.int q_34.1, .ref (zo w + (a + 3)), .ref (zo w + (a + 4)), .ref (zo w + (a + 5)), .ref (zo w + (a + 6)), .ref (zo w + (a + 7)), .ref (zo w + (a + 8)), .ref (zo w + (a + 9))])), (3, .inl (w.2.2.1 0, 8, .inl q_34.2.1)), (4, .inl (w.2.2.1 0, 8, .inl q_34.2.2.1)), (5, .inl (w.2.2.1 0, 8, .inl q_34.2.2.2.1)), (6, .inl (w.2.2.1 0, 8, .inl q_34.2.2.2.2.1)), (7, .inl (w.2.2.1 0, 8, .inl q_34.2.2.2.2.2.1)), (8, .inl (w.2.2.1 3, 8, .inl q_34.2.2.2.2.2.2.1)), (9, .inl (w.2.2.1 0, 8, .inl q_34.2.2.2.2.2.2.2)), (14, .inl (w.2.2.1 0, 8, .inl it_count)), (15, .inl (w.2.2.1 0, 48, .inl it_first)), (16, .inl (w.2.2.1 0, 48, .inl it_price)), (17, .inl (w.2.2.1 0, 48, .inl it_quantity)), (18, .inl (w.2.2.1 0, 48, .inl it_progress)), (19, .inr (7, [.int va_count, .ref (zo w + (a + 20)), .ref (zo w + (a + 21)), .ref (zo w + (a + 22))])), (20, .inl (w.2.2.1 0, 20, .inl va_slot)), (21, .inl (w.2.2.1 0, 20, .inl va_change)), (22, .inl (w.2.2.1 3, 20, .inl va_approved)), (23, .inr (0, [.int ce_count, .ref (zo w + (a + 24)), .ref (zo w + (a + 25)), .ref (zo w + (a + 26)), .ref (zo w + (a + 27)), .ref (zo w + (a + 28))])), (24, .inl (w.2.2.1 0, 40, .inl ce_contract)), (25, .inl (w.2.2.1 1, 40, .inr (.inl ce_amount))), (26, .inl (w.2.2.1 1, 40, .inr (.inl ce_open))), (27, .inl (w.2.2.1 0, 40, .inl ce_issued)), (28, .inl (w.2.2.1 0, 40, .inl ce_due)), (29, .inr (3, [.int li_count, .ref (zo w + (a + 30)), .ref (zo w + (a + 31)), .ref (zo w + (a + 32)), .ref (zo w + (a + 33))])), (30, .inl (w.2.2.1 0, 12, .inl li_contract)), (31, .inl (w.2.2.1 1, 12, .inr (.inl li_amount))), (32, .inl (w.2.2.1 0, 12, .inl li_filed)), (33, .inl (w.2.2.1 3, 12, .inl li_withdrawn))]) rfl) dX5_copyFrom_42 rfl ?_
  refine z_aload_n (pc' := 46) C 0 dX5_copyFrom_45 rfl rfl rfl ?_
  refine z_getf (pc' := 49) C zci_5 zw_245 (j := 4) rfl (zc_i (o := 0) n_a0 rfl) rfl rfl dX5_copyFrom_46 rfl ?_
  refine z_aload_n (pc' := 50) C 1 dX5_copyFrom_49 rfl rfl rfl ?_
  refine z_getf (pc' := 53) C zci_5 zw_245 (j := 4) rfl (zc_f (m := 34) h_b10 (by omega) rfl) rfl rfl dX5_copyFrom_50 rfl ?_
  refine z_cV (pc' := 56) C hf (As := [.ref (zo w + (b1 + 13))]) (fun hq => c_X2_copyFrom (a := (a + 13)) (b1 := (b1 + 13)) (zc_o (o := 13) h_a13 rfl) (zc_i (o := 14) n_a14 rfl) (zc_i (o := 15) n_a15 rfl) (zc_i (o := 16) n_a16 rfl) (zc_i (o := 17) n_a17 rfl) (zc_i (o := 18) n_a18 rfl) (zc_f (m := 34) h_b113 (by omega) rfl) (zc_f (m := 34) h_b114 (by omega) rfl) (zc_f (m := 34) h_b115 (by omega) rfl) (zc_f (m := 34) h_b116 (by omega) rfl) (zc_f (m := 34) h_b117 (by omega) rfl) (zc_f (m := 34) h_b118 (by omega) rfl) (by omega) hq) (fun q_53 => (zu h a [(0, .inr (5, [.int pr_day_b1, .ref (zo w + (a + 1)), .ref (zo w + (a + 2)), .ref (zo w + pr_pricing_b1), .ref (zo w + (a + 13)), .ref (zo w + (a + 19)), .ref (zo w + (a + 23)), .ref (zo w + (a + 29)), .ref (zo w + (a + 34))])), (1, .inl (w.2.2.1 1, 9, .inr (.inl v_23))), (2, .inr (1, [.int q_34.1, .ref (zo w + (a + 3)), .ref (zo w + (a + 4)), .ref (zo w + (a + 5)), .ref (zo w + (a + 6)), .ref (zo w + (a + 7)), .ref (zo w + (a + 8)), .ref (zo w + (a + 9))])), (3, .inl (w.2.2.1 0, 8, .inl q_34.2.1)), (4, .inl (w.2.2.1 0, 8, .inl q_34.2.2.1)), (5, .inl (w.2.2.1 0, 8, .inl q_34.2.2.2.1)), (6, .inl (w.2.2.1 0, 8, .inl q_34.2.2.2.2.1)), (7, .inl (w.2.2.1 0, 8, .inl q_34.2.2.2.2.2.1)), (8, .inl (w.2.2.1 3, 8, .inl q_34.2.2.2.2.2.2.1)), (9, .inl (w.2.2.1 0, 8, .inl q_34.2.2.2.2.2.2.2)), (14, .inl (w.2.2.1 0, 8, .inl q_53.1)), (15, .inl (w.2.2.1 0, 48, .inl q_53.2.1)), (16, .inl (w.2.2.1 0, 48, .inl q_53.2.2.1)), (17, .inl (w.2.2.1 0, 48, .inl q_53.2.2.2.1)), (18, .inl (w.2.2.1 0, 48, .inl q_53.2.2.2.2)), (19, .inr (7, [.int va_count, .ref (zo w + (a + 20)), .ref (zo w + (a + 21)), .ref (zo w + (a + 22))])), (20, .inl (w.2.2.1 0, 20, .inl va_slot)), (21, .inl (w.2.2.1 0, 20, .inl va_change)), (22, .inl (w.2.2.1 3, 20, .inl va_approved)), (23, .inr (0, [.int ce_count, .ref (zo w + (a + 24)), .ref (zo w + (a + 25)), .ref (zo w + (a + 26)), .ref (zo w + (a + 27)), .ref (zo w + (a + 28))])), (24, .inl (w.2.2.1 0, 40, .inl ce_contract)), (25, .inl (w.2.2.1 1, 40, .inr (.inl ce_amount))), (26, .inl (w.2.2.1 1, 40, .inr (.inl ce_open))), (27, .inl (w.2.2.1 0, 40, .inl ce_issued)), (28, .inl (w.2.2.1 0, 40, .inl ce_due)), (29, .inr (3, [.int li_count, .ref (zo w + (a + 30)), .ref (zo w + (a + 31)), .ref (zo w + (a + 32)), .ref (zo w + (a + 33))])), (30, .inl (w.2.2.1 0, 12, .inl li_contract)), (31, .inl (w.2.2.1 1, 12, .inr (.inl li_amount))), (32, .inl (w.2.2.1 0, 12, .inl li_filed)), (33, .inl (w.2.2.1 3, 12, .inl li_withdrawn))])) (fun q_53 => []) (fun _ => zu_sh (d := 13) rfl rfl) (fun _ => rfl) zy_X2_copyFrom zw_679 zw_680 zw_681 (ci := 2) rfl (zc_o (o := 13) h_a13 rfl) ⟨rfl, rfl⟩ rfl rfl rfl rfl rfl dX5_copyFrom_53 rfl (fun q_53 hf => ?_)
  refine z_aload_n (pc' := 57) C 0 dX5_copyFrom_56 rfl rfl rfl ?_
  refine z_getf (pc' := 60) C zci_5 zw_248 (j := 5) rfl (zc_i (o := 0) n_a0 rfl) rfl rfl dX5_copyFrom_57 rfl ?_
  refine z_aload_n (pc' := 61) C 1 dX5_copyFrom_60 rfl rfl rfl ?_
  refine z_getf (pc' := 64) C zci_5 zw_248 (j := 5) rfl (zc_f (m := 34) h_b10 (by omega) rfl) rfl rfl dX5_copyFrom_61 rfl ?_
  refine z_cV (pc' := 67) C hf (As := [.ref (zo w + (b1 + 19))]) (fun hq => c_X7_copyFrom (a := (a + 19)) (b1 := (b1 + 19)) (zc_i (o := 19) n_a19 rfl) (zc_i (o := 20) n_a20 rfl) (zc_i (o := 21) n_a21 rfl) (zc_i (o := 22) n_a22 rfl) (zc_f (m := 34) h_b119 (by omega) rfl) (zc_f (m := 34) h_b120 (by omega) rfl) (zc_f (m := 34) h_b121 (by omega) rfl) (zc_f (m := 34) h_b122 (by omega) rfl) (by omega) hq) (fun q_64 => (zu h a [(0, .inr (5, [.int pr_day_b1, .ref (zo w + (a + 1)), .ref (zo w + (a + 2)), .ref (zo w + pr_pricing_b1), .ref (zo w + (a + 13)), .ref (zo w + (a + 19)), .ref (zo w + (a + 23)), .ref (zo w + (a + 29)), .ref (zo w + (a + 34))])), (1, .inl (w.2.2.1 1, 9, .inr (.inl v_23))), (2, .inr (1, [.int q_34.1, .ref (zo w + (a + 3)), .ref (zo w + (a + 4)), .ref (zo w + (a + 5)), .ref (zo w + (a + 6)), .ref (zo w + (a + 7)), .ref (zo w + (a + 8)), .ref (zo w + (a + 9))])), (3, .inl (w.2.2.1 0, 8, .inl q_34.2.1)), (4, .inl (w.2.2.1 0, 8, .inl q_34.2.2.1)), (5, .inl (w.2.2.1 0, 8, .inl q_34.2.2.2.1)), (6, .inl (w.2.2.1 0, 8, .inl q_34.2.2.2.2.1)), (7, .inl (w.2.2.1 0, 8, .inl q_34.2.2.2.2.2.1)), (8, .inl (w.2.2.1 3, 8, .inl q_34.2.2.2.2.2.2.1)), (9, .inl (w.2.2.1 0, 8, .inl q_34.2.2.2.2.2.2.2)), (14, .inl (w.2.2.1 0, 8, .inl q_53.1)), (15, .inl (w.2.2.1 0, 48, .inl q_53.2.1)), (16, .inl (w.2.2.1 0, 48, .inl q_53.2.2.1)), (17, .inl (w.2.2.1 0, 48, .inl q_53.2.2.2.1)), (18, .inl (w.2.2.1 0, 48, .inl q_53.2.2.2.2)), (19, .inr (7, [.int q_64.1, .ref (zo w + (a + 20)), .ref (zo w + (a + 21)), .ref (zo w + (a + 22))])), (20, .inl (w.2.2.1 0, 20, .inl q_64.2.1)), (21, .inl (w.2.2.1 0, 20, .inl q_64.2.2.1)), (22, .inl (w.2.2.1 3, 20, .inl q_64.2.2.2)), (23, .inr (0, [.int ce_count, .ref (zo w + (a + 24)), .ref (zo w + (a + 25)), .ref (zo w + (a + 26)), .ref (zo w + (a + 27)), .ref (zo w + (a + 28))])), (24, .inl (w.2.2.1 0, 40, .inl ce_contract)), (25, .inl (w.2.2.1 1, 40, .inr (.inl ce_amount))), (26, .inl (w.2.2.1 1, 40, .inr (.inl ce_open))), (27, .inl (w.2.2.1 0, 40, .inl ce_issued)), (28, .inl (w.2.2.1 0, 40, .inl ce_due)), (29, .inr (3, [.int li_count, .ref (zo w + (a + 30)), .ref (zo w + (a + 31)), .ref (zo w + (a + 32)), .ref (zo w + (a + 33))])), (30, .inl (w.2.2.1 0, 12, .inl li_contract)), (31, .inl (w.2.2.1 1, 12, .inr (.inl li_amount))), (32, .inl (w.2.2.1 0, 12, .inl li_filed)), (33, .inl (w.2.2.1 3, 12, .inl li_withdrawn))])) (fun q_64 => []) (fun _ => zu_sh (d := 19) rfl rfl) (fun _ => rfl) zy_X7_copyFrom zw_684 zw_685 zw_686 (ci := 7) rfl (zc_i (o := 19) n_a19 rfl) ⟨rfl, rfl⟩ rfl rfl rfl rfl rfl dX5_copyFrom_64 rfl (fun q_64 hf => ?_)
  refine z_aload_n (pc' := 68) C 0 dX5_copyFrom_67 rfl rfl rfl ?_
  refine z_getf (pc' := 71) C zci_5 zw_250 (j := 6) rfl (zc_i (o := 0) n_a0 rfl) rfl rfl dX5_copyFrom_68 rfl ?_
  refine z_aload_n (pc' := 72) C 1 dX5_copyFrom_71 rfl rfl rfl ?_
  refine z_getf (pc' := 75) C zci_5 zw_250 (j := 6) rfl (zc_f (m := 34) h_b10 (by omega) rfl) rfl rfl dX5_copyFrom_72 rfl ?_
  refine z_cV (pc' := 78) C hf (As := [.ref (zo w + (b1 + 23))]) (fun hq => c_X0_copyFrom (a := (a + 23)) (b1 := (b1 + 23)) (zc_i (o := 23) n_a23 rfl) (zc_i (o := 24) n_a24 rfl) (zc_i (o := 25) n_a25 rfl) (zc_i (o := 26) n_a26 rfl) (zc_i (o := 27) n_a27 rfl) (zc_i (o := 28) n_a28 rfl) (zc_f (m := 34) h_b123 (by omega) rfl) (zc_f (m := 34) h_b124 (by omega) rfl) (zc_f (m := 34) h_b125 (by omega) rfl) (zc_f (m := 34) h_b126 (by omega) rfl) (zc_f (m := 34) h_b127 (by omega) rfl) (zc_f (m := 34) h_b128 (by omega) rfl) (by omega) hq) (fun q_75 => (zu h a [(0, .inr (5, [.int pr_day_b1, .ref (zo w + (a + 1)), .ref (zo w + (a + 2)), .ref (zo w + pr_pricing_b1), .ref (zo w + (a + 13)), .ref (zo w + (a + 19)), .ref (zo w + (a + 23)), .ref (zo w + (a + 29)), .ref (zo w + (a + 34))])), (1, .inl (w.2.2.1 1, 9, .inr (.inl v_23))), (2, .inr (1, [.int q_34.1, .ref (zo w + (a + 3)), .ref (zo w + (a + 4)), .ref (zo w + (a + 5)), .ref (zo w + (a + 6)), .ref (zo w + (a + 7)), .ref (zo w + (a + 8)), .ref (zo w + (a + 9))])), (3, .inl (w.2.2.1 0, 8, .inl q_34.2.1)), (4, .inl (w.2.2.1 0, 8, .inl q_34.2.2.1)), (5, .inl (w.2.2.1 0, 8, .inl q_34.2.2.2.1)), (6, .inl (w.2.2.1 0, 8, .inl q_34.2.2.2.2.1)), (7, .inl (w.2.2.1 0, 8, .inl q_34.2.2.2.2.2.1)), (8, .inl (w.2.2.1 3, 8, .inl q_34.2.2.2.2.2.2.1)), (9, .inl (w.2.2.1 0, 8, .inl q_34.2.2.2.2.2.2.2)), (14, .inl (w.2.2.1 0, 8, .inl q_53.1)), (15, .inl (w.2.2.1 0, 48, .inl q_53.2.1)), (16, .inl (w.2.2.1 0, 48, .inl q_53.2.2.1)), (17, .inl (w.2.2.1 0, 48, .inl q_53.2.2.2.1)), (18, .inl (w.2.2.1 0, 48, .inl q_53.2.2.2.2)), (19, .inr (7, [.int q_64.1, .ref (zo w + (a + 20)), .ref (zo w + (a + 21)), .ref (zo w + (a + 22))])), (20, .inl (w.2.2.1 0, 20, .inl q_64.2.1)), (21, .inl (w.2.2.1 0, 20, .inl q_64.2.2.1)), (22, .inl (w.2.2.1 3, 20, .inl q_64.2.2.2)), (23, .inr (0, [.int q_75.1, .ref (zo w + (a + 24)), .ref (zo w + (a + 25)), .ref (zo w + (a + 26)), .ref (zo w + (a + 27)), .ref (zo w + (a + 28))])), (24, .inl (w.2.2.1 0, 40, .inl q_75.2.1)), (25, .inl (w.2.2.1 1, 40, .inr (.inl q_75.2.2.1))), (26, .inl (w.2.2.1 1, 40, .inr (.inl q_75.2.2.2.1))), (27, .inl (w.2.2.1 0, 40, .inl q_75.2.2.2.2.1)), (28, .inl (w.2.2.1 0, 40, .inl q_75.2.2.2.2.2)), (29, .inr (3, [.int li_count, .ref (zo w + (a + 30)), .ref (zo w + (a + 31)), .ref (zo w + (a + 32)), .ref (zo w + (a + 33))])), (30, .inl (w.2.2.1 0, 12, .inl li_contract)), (31, .inl (w.2.2.1 1, 12, .inr (.inl li_amount))), (32, .inl (w.2.2.1 0, 12, .inl li_filed)), (33, .inl (w.2.2.1 3, 12, .inl li_withdrawn))])) (fun q_75 => []) (fun _ => zu_sh (d := 23) rfl rfl) (fun _ => rfl) zy_X0_copyFrom zw_689 zw_690 zw_691 (ci := 0) rfl (zc_i (o := 23) n_a23 rfl) ⟨rfl, rfl⟩ rfl rfl rfl rfl rfl dX5_copyFrom_75 rfl (fun q_75 hf => ?_)
  refine z_aload_n (pc' := 79) C 0 dX5_copyFrom_78 rfl rfl rfl ?_
  refine z_getf (pc' := 82) C zci_5 zw_252 (j := 7) rfl (zc_i (o := 0) n_a0 rfl) rfl rfl dX5_copyFrom_79 rfl ?_
  refine z_aload_n (pc' := 83) C 1 dX5_copyFrom_82 rfl rfl rfl ?_
  refine z_getf (pc' := 86) C zci_5 zw_252 (j := 7) rfl (zc_f (m := 34) h_b10 (by omega) rfl) rfl rfl dX5_copyFrom_83 rfl ?_
  refine z_cV (pc' := 89) C hf (As := [.ref (zo w + (b1 + 29))]) (fun hq => c_X3_copyFrom (a := (a + 29)) (b1 := (b1 + 29)) (zc_i (o := 29) n_a29 rfl) (zc_i (o := 30) n_a30 rfl) (zc_i (o := 31) n_a31 rfl) (zc_i (o := 32) n_a32 rfl) (zc_i (o := 33) n_a33 rfl) (zc_f (m := 34) h_b129 (by omega) rfl) (zc_f (m := 34) h_b130 (by omega) rfl) (zc_f (m := 34) h_b131 (by omega) rfl) (zc_f (m := 34) h_b132 (by omega) rfl) (zc_f (m := 34) h_b133 (by omega) rfl) (by omega) hq) (fun q_86 => (zu h a [(0, .inr (5, [.int pr_day_b1, .ref (zo w + (a + 1)), .ref (zo w + (a + 2)), .ref (zo w + pr_pricing_b1), .ref (zo w + (a + 13)), .ref (zo w + (a + 19)), .ref (zo w + (a + 23)), .ref (zo w + (a + 29)), .ref (zo w + (a + 34))])), (1, .inl (w.2.2.1 1, 9, .inr (.inl v_23))), (2, .inr (1, [.int q_34.1, .ref (zo w + (a + 3)), .ref (zo w + (a + 4)), .ref (zo w + (a + 5)), .ref (zo w + (a + 6)), .ref (zo w + (a + 7)), .ref (zo w + (a + 8)), .ref (zo w + (a + 9))])), (3, .inl (w.2.2.1 0, 8, .inl q_34.2.1)), (4, .inl (w.2.2.1 0, 8, .inl q_34.2.2.1)), (5, .inl (w.2.2.1 0, 8, .inl q_34.2.2.2.1)), (6, .inl (w.2.2.1 0, 8, .inl q_34.2.2.2.2.1)), (7, .inl (w.2.2.1 0, 8, .inl q_34.2.2.2.2.2.1)), (8, .inl (w.2.2.1 3, 8, .inl q_34.2.2.2.2.2.2.1)), (9, .inl (w.2.2.1 0, 8, .inl q_34.2.2.2.2.2.2.2)), (14, .inl (w.2.2.1 0, 8, .inl q_53.1)), (15, .inl (w.2.2.1 0, 48, .inl q_53.2.1)), (16, .inl (w.2.2.1 0, 48, .inl q_53.2.2.1)), (17, .inl (w.2.2.1 0, 48, .inl q_53.2.2.2.1)), (18, .inl (w.2.2.1 0, 48, .inl q_53.2.2.2.2)), (19, .inr (7, [.int q_64.1, .ref (zo w + (a + 20)), .ref (zo w + (a + 21)), .ref (zo w + (a + 22))])), (20, .inl (w.2.2.1 0, 20, .inl q_64.2.1)), (21, .inl (w.2.2.1 0, 20, .inl q_64.2.2.1)), (22, .inl (w.2.2.1 3, 20, .inl q_64.2.2.2)), (23, .inr (0, [.int q_75.1, .ref (zo w + (a + 24)), .ref (zo w + (a + 25)), .ref (zo w + (a + 26)), .ref (zo w + (a + 27)), .ref (zo w + (a + 28))])), (24, .inl (w.2.2.1 0, 40, .inl q_75.2.1)), (25, .inl (w.2.2.1 1, 40, .inr (.inl q_75.2.2.1))), (26, .inl (w.2.2.1 1, 40, .inr (.inl q_75.2.2.2.1))), (27, .inl (w.2.2.1 0, 40, .inl q_75.2.2.2.2.1)), (28, .inl (w.2.2.1 0, 40, .inl q_75.2.2.2.2.2)), (29, .inr (3, [.int q_86.1, .ref (zo w + (a + 30)), .ref (zo w + (a + 31)), .ref (zo w + (a + 32)), .ref (zo w + (a + 33))])), (30, .inl (w.2.2.1 0, 12, .inl q_86.2.1)), (31, .inl (w.2.2.1 1, 12, .inr (.inl q_86.2.2.1))), (32, .inl (w.2.2.1 0, 12, .inl q_86.2.2.2.1)), (33, .inl (w.2.2.1 3, 12, .inl q_86.2.2.2.2))])) (fun q_86 => []) (fun _ => zu_sh (d := 29) rfl rfl) (fun _ => rfl) zy_X3_copyFrom zw_694 zw_695 zw_696 (ci := 3) rfl (zc_i (o := 29) n_a29 rfl) ⟨rfl, rfl⟩ rfl rfl rfl rfl rfl dX5_copyFrom_86 rfl (fun q_86 hf => ?_)
  cases hf
  exact z_vret C rfl rfl dX5_copyFrom_89
set_option maxRecDepth 20000 in
theorem w_X5_presentSumOf_5 {X : zC} {w : zV} {N : Nat} {h : zH} {a : Nat} {pr_day : Int32} {pr_pricing : Nat} {it_count : Nat → Int32} {it_first : Nat → Int32} {it_price : Nat → Int32} {it_quantity : Nat → Int32} {pg_threshold : Int32} {pg_length : Int32} {pg_clen : Nat} {pg_code : Nat → Int32} (C : zK X w RX5 cX5_presentSumOf 6 (some .long) (zr 5 172)) (h_a0 : zc N h (a + 0) (.inr (5, [.int pr_day, .ref (zo w + (a + 1)), .ref (zo w + (a + 2)), .ref (zo w + pr_pricing), .ref (zo w + (a + 13)), .ref (zo w + (a + 19)), .ref (zo w + (a + 23)), .ref (zo w + (a + 29)), .ref (zo w + (a + 34))]))) (h_a13 : zc N h (a + 13) (.inr (2, [.ref (zo w + (a + 14)), .ref (zo w + (a + 15)), .ref (zo w + (a + 16)), .ref (zo w + (a + 17)), .ref (zo w + (a + 18))]))) (h_a14 : zc N h (a + 14) (.inl (w.2.2.1 0, 8, .inl it_count))) (h_a15 : zc N h (a + 15) (.inl (w.2.2.1 0, 48, .inl it_first))) (h_a16 : zc N h (a + 16) (.inl (w.2.2.1 0, 48, .inl it_price))) (h_a17 : zc N h (a + 17) (.inl (w.2.2.1 0, 48, .inl it_quantity))) (h_pr_pricing0 : zc N h (pr_pricing + 0) (.inr (4, [.int pg_threshold, .int pg_length, .ref (zo w + (pr_pricing + 2)), .ref (zo w + (pr_pricing + 1))]))) (n_pr_pricing1 : pr_pricing + 1 < N) (h_pr_pricing2 : zc N h (pr_pricing + 2) (.inl (w.2.2.1 0, pg_clen, .inl pg_code))) (far_a : pr_pricing + 1 < a ∨ a + 35 ≤ pr_pricing + 1 ∨ pr_pricing = a + 10) {r : Int64 × (Nat → Int32)} (n : Nat) : ∀ {pg_stack : Nat → Int32} {x1 : Int32} {x2 : Int64} {x4 : Int32}, f_X5_presentSumOf_5  n pg_threshold pg_length pg_clen pg_code pg_stack it_count it_first it_price it_quantity x1 x2 x4 = some r → zZ X w (zQ X w (zr 5 172) (some (.long r.1)) false N (zu h pr_pricing [(1, .inl (w.2.2.1 0, 16, .inl r.2))])) 0 0 false N (zu h pr_pricing [(1, .inl (w.2.2.1 0, 16, .inl pg_stack))]) 5 [(0, .ref (zo w + a)), (1, .int x1), (2, .long x2), (4, .int x4)] [] := by
  induction n with
  | zero =>
    intro pg_stack x1 x2 x4 hf
    have hf : (none : Option (Int64 × (Nat → Int32))) = some r := hf
    cases hf
  | succ z ih =>
    intro pg_stack x1 x2 x4 hf
    rw [f_X5_presentSumOf_5] at hf
    refine z_iload (pc' := 7) C 3 dX5_presentSumOf_5 rfl rfl ?_
    refine z_aload_n (pc' := 8) C 0 dX5_presentSumOf_7 rfl rfl rfl ?_
    refine z_getf (pc' := 11) C zci_5 zw_245 (j := 4) rfl (zc_1 h_a0 (by omega)) rfl rfl dX5_presentSumOf_8 rfl ?_
    refine z_getf (pc' := 14) C zci_2 zw_123 (j := 0) rfl (zc_1 h_a13 (by omega)) rfl rfl dX5_presentSumOf_11 rfl ?_
    refine z_iload_n (pc' := 15) C 1 dX5_presentSumOf_14 rfl rfl rfl ?_
    refine z_iald (pc' := 16) C hf (zc_1 h_a14 (by omega)) dX5_presentSumOf_15 rfl (fun v_15 hf => ?_)
    refine z_icmp_ge (pc' := 19) C 59 hf dX5_presentSumOf_16 rfl rfl (fun g_16 hf => ?_) (fun g_16 hf => ?_)
    · refine z_lload_n (pc' := 60) C 2 dX5_presentSumOf_59 rfl rfl rfl ?_
      cases hf
      exact z_lret C rfl rfl dX5_presentSumOf_60
    · refine z_iload_n (pc' := 20) C 1 dX5_presentSumOf_19 rfl rfl rfl ?_
      refine z_iload (pc' := 22) C 3 dX5_presentSumOf_20 rfl rfl ?_
      refine z_cS (pc' := 25) C hf (As := [.int x1, .int x4]) (fun hq => c_X2_slotOf  hq) (fun _ => (zu h pr_pricing [(1, .inl (w.2.2.1 0, 16, .inl pg_stack))])) (fun q_22 => [.int q_22]) (fun _ => rfl) (fun _ => rfl) zy_X2_slotOf zw_394 zw_395 ⟨rfl, rfl⟩ rfl rfl rfl rfl rfl dX5_presentSumOf_22 rfl (fun q_22 hf => ?_)
      refine z_istore (pc' := 27) C [(5, .int q_22), (0, .ref (zo w + a)), (1, .int x1), (2, .long x2), (4, .int x4)] dX5_presentSumOf_25 rfl rfl rfl ?_
      refine z_lload_n (pc' := 28) C 3 dX5_presentSumOf_27 rfl rfl rfl ?_
      refine z_aload_n (pc' := 29) C 1 dX5_presentSumOf_28 rfl rfl rfl ?_
      refine z_getf (pc' := 32) C zci_5 zw_245 (j := 4) rfl (zc_1 h_a0 (by omega)) rfl rfl dX5_presentSumOf_29 rfl ?_
      refine z_iload (pc' := 34) C 0 dX5_presentSumOf_32 rfl rfl ?_
      refine z_aload_n (pc' := 35) C 1 dX5_presentSumOf_34 rfl rfl rfl ?_
      refine z_getf (pc' := 38) C zci_5 zw_245 (j := 4) rfl (zc_1 h_a0 (by omega)) rfl rfl dX5_presentSumOf_35 rfl ?_
      refine z_getf (pc' := 41) C zci_2 zw_129 (j := 3) rfl (zc_1 h_a13 (by omega)) rfl rfl dX5_presentSumOf_38 rfl ?_
      refine z_iload (pc' := 43) C 0 dX5_presentSumOf_41 rfl rfl ?_
      refine z_iald (pc' := 44) C hf (zc_1 h_a17 (by omega)) dX5_presentSumOf_43 rfl (fun v_43 hf => ?_)
      refine z_aload_n (pc' := 45) C 1 dX5_presentSumOf_44 rfl rfl rfl ?_
      refine z_getf (pc' := 48) C zci_5 zw_242 (j := 3) rfl (zc_1 h_a0 (by omega)) rfl rfl dX5_presentSumOf_45 rfl ?_
      refine z_cV (pc' := 51) C hf (As := [.int q_22, .int v_43, .ref (zo w + pr_pricing)]) (fun hq => c_X2_fullValueOf (a := (a + 13)) (b3 := pr_pricing) (zc_1 h_a13 (by omega)) (zc_1 h_a15 (by omega)) (zc_1 h_a16 (by omega)) (zc_o (o := 0) h_pr_pricing0 rfl) (zc_i (o := 1) n_pr_pricing1 rfl) (zc_o (o := 2) h_pr_pricing2 rfl) (by omega) hq) (fun q_48 => (zu h pr_pricing [(1, .inl (w.2.2.1 0, 16, .inl q_48.2))])) (fun q_48 => [.long q_48.1, .long x2]) (fun _ => zu_sh (d := 0) rfl rfl) (fun _ => rfl) zy_X2_fullValueOf zw_795 zw_796 zw_797 (ci := 2) rfl (zc_1 h_a13 (by omega)) ⟨rfl, rfl⟩ rfl rfl rfl rfl rfl dX5_presentSumOf_48 rfl (fun q_48 hf => ?_)
      refine z_ladd (pc' := 52) C dX5_presentSumOf_51 rfl ?_
      refine z_lstore_n (pc' := 53) C [(2, .long (x2 + q_48.1)), (5, .int q_22), (0, .ref (zo w + a)), (1, .int x1), (4, .int x4)] dX5_presentSumOf_52 rfl rfl rfl rfl ?_
      refine z_iinc (pc' := 56) C 4 [(4, .int (x4 + (1 : Int32))), (2, .long (x2 + q_48.1)), (5, .int q_22), (0, .ref (zo w + a)), (1, .int x1)] dX5_presentSumOf_53 rfl zk_iconst_1 rfl rfl rfl ?_
      refine z_goto C 5 dX5_presentSumOf_56 rfl ?_
      refine z_pick (lv' := [(0, .ref (zo w + a)), (1, .int x1), (2, .long (x2 + q_48.1)), (4, .int (x4 + (1 : Int32)))]) [3, 4, 1, 0] rfl ?_
      exact ih hf
set_option maxRecDepth 20000 in
theorem c_X5_presentSumOf {w : zV} {N : Nat} {h : zH} {a : Nat} {pr_day : Int32} {pr_pricing : Nat} {it_count : Nat → Int32} {it_first : Nat → Int32} {it_price : Nat → Int32} {it_quantity : Nat → Int32} {pg_threshold : Int32} {pg_length : Int32} {pg_stack : Nat → Int32} {pg_clen : Nat} {pg_code : Nat → Int32} {p1 : Int32} (h_a0 : zc N h (a + 0) (.inr (5, [.int pr_day, .ref (zo w + (a + 1)), .ref (zo w + (a + 2)), .ref (zo w + pr_pricing), .ref (zo w + (a + 13)), .ref (zo w + (a + 19)), .ref (zo w + (a + 23)), .ref (zo w + (a + 29)), .ref (zo w + (a + 34))]))) (h_a13 : zc N h (a + 13) (.inr (2, [.ref (zo w + (a + 14)), .ref (zo w + (a + 15)), .ref (zo w + (a + 16)), .ref (zo w + (a + 17)), .ref (zo w + (a + 18))]))) (h_a14 : zc N h (a + 14) (.inl (w.2.2.1 0, 8, .inl it_count))) (h_a15 : zc N h (a + 15) (.inl (w.2.2.1 0, 48, .inl it_first))) (h_a16 : zc N h (a + 16) (.inl (w.2.2.1 0, 48, .inl it_price))) (h_a17 : zc N h (a + 17) (.inl (w.2.2.1 0, 48, .inl it_quantity))) (h_pr_pricing0 : zc N h (pr_pricing + 0) (.inr (4, [.int pg_threshold, .int pg_length, .ref (zo w + (pr_pricing + 2)), .ref (zo w + (pr_pricing + 1))]))) (h_pr_pricing1 : zc N h (pr_pricing + 1) (.inl (w.2.2.1 0, 16, .inl pg_stack))) (h_pr_pricing2 : zc N h (pr_pricing + 2) (.inl (w.2.2.1 0, pg_clen, .inl pg_code))) (far_a : pr_pricing + 1 < a ∨ a + 35 ≤ pr_pricing + 1 ∨ pr_pricing = a + 10) {r : Int64 × (Nat → Int32)} (hf : f_X5_presentSumOf pg_threshold pg_length pg_clen pg_code pg_stack it_count it_first it_price it_quantity p1 = some r) : zM w yX5_presentSumOf cX5_presentSumOf 6 (some .long) (zr 5 172) false N N h [.ref (zo w + a), .int p1] (some (.long r.1)) (zu h pr_pricing [(1, .inl (w.2.2.1 0, 16, .inl r.2))]) := by
  unfold f_X5_presentSumOf at hf
  refine zM_of (by decide) rfl (fun X C _ => ?_)
  refine z_eq (h' := (zu h pr_pricing [(1, .inl (w.2.2.1 0, 16, .inl pg_stack))])) (zu_s h_pr_pricing1 zu_0).symm ?_
  have n_pr_pricing1 := h_pr_pricing1.1
  refine z_pick (lv' := [(0, .ref (zo w + a)), (1, .int p1)]) [0, 1] rfl ?_
  refine z_lconst (pc' := 1) C dX5_presentSumOf_0 zl_0 rfl ?_
  refine z_lstore_n (pc' := 2) C [(2, .long (0 : Int64)), (0, .ref (zo w + a)), (1, .int p1)] dX5_presentSumOf_1 rfl rfl rfl rfl ?_
  refine z_iconst (pc' := 3) C dX5_presentSumOf_2 zk_iconst_0 rfl ?_
  refine z_istore (pc' := 5) C [(4, .int (0 : Int32)), (2, .long (0 : Int64)), (0, .ref (zo w + a)), (1, .int p1)] dX5_presentSumOf_3 rfl rfl rfl ?_
  refine z_pick (lv' := [(0, .ref (zo w + a)), (1, .int p1), (2, .long (0 : Int64)), (4, .int (0 : Int32))]) [2, 3, 1, 0] rfl ?_
  exact w_X5_presentSumOf_5 C h_a0 h_a13 h_a14 h_a15 h_a16 h_a17 h_pr_pricing0 n_pr_pricing1 h_pr_pricing2 far_a  FU hf
set_option maxRecDepth 20000 in
theorem w_X5_grossOf_5 {X : zC} {w : zV} {N : Nat} {h : zH} {a : Nat} {pr_day : Int32} {pr_pricing : Nat} {it_count : Nat → Int32} {it_first : Nat → Int32} {it_price : Nat → Int32} {it_quantity : Nat → Int32} {it_progress : Nat → Int32} {pg_threshold : Int32} {pg_length : Int32} {pg_clen : Nat} {pg_code : Nat → Int32} (C : zK X w RX5 cX5_grossOf 5 (some .long) (zr 5 173)) (h_a0 : zc N h (a + 0) (.inr (5, [.int pr_day, .ref (zo w + (a + 1)), .ref (zo w + (a + 2)), .ref (zo w + pr_pricing), .ref (zo w + (a + 13)), .ref (zo w + (a + 19)), .ref (zo w + (a + 23)), .ref (zo w + (a + 29)), .ref (zo w + (a + 34))]))) (h_a13 : zc N h (a + 13) (.inr (2, [.ref (zo w + (a + 14)), .ref (zo w + (a + 15)), .ref (zo w + (a + 16)), .ref (zo w + (a + 17)), .ref (zo w + (a + 18))]))) (h_a14 : zc N h (a + 14) (.inl (w.2.2.1 0, 8, .inl it_count))) (h_a15 : zc N h (a + 15) (.inl (w.2.2.1 0, 48, .inl it_first))) (h_a16 : zc N h (a + 16) (.inl (w.2.2.1 0, 48, .inl it_price))) (h_a17 : zc N h (a + 17) (.inl (w.2.2.1 0, 48, .inl it_quantity))) (h_a18 : zc N h (a + 18) (.inl (w.2.2.1 0, 48, .inl it_progress))) (h_pr_pricing0 : zc N h (pr_pricing + 0) (.inr (4, [.int pg_threshold, .int pg_length, .ref (zo w + (pr_pricing + 2)), .ref (zo w + (pr_pricing + 1))]))) (n_pr_pricing1 : pr_pricing + 1 < N) (h_pr_pricing2 : zc N h (pr_pricing + 2) (.inl (w.2.2.1 0, pg_clen, .inl pg_code))) (far_a : pr_pricing + 1 < a ∨ a + 35 ≤ pr_pricing + 1 ∨ pr_pricing = a + 10) {r : Int64 × (Nat → Int32)} (n : Nat) : ∀ {pg_stack : Nat → Int32} {x1 : Int32} {x2 : Int64} {x4 : Int32}, f_X5_grossOf_5  n pg_threshold pg_length pg_clen pg_code pg_stack it_count it_first it_price it_quantity it_progress x1 x2 x4 = some r → zZ X w (zQ X w (zr 5 173) (some (.long r.1)) false N (zu h pr_pricing [(1, .inl (w.2.2.1 0, 16, .inl r.2))])) 0 0 false N (zu h pr_pricing [(1, .inl (w.2.2.1 0, 16, .inl pg_stack))]) 5 [(0, .ref (zo w + a)), (1, .int x1), (2, .long x2), (4, .int x4)] [] := by
  induction n with
  | zero =>
    intro pg_stack x1 x2 x4 hf
    have hf : (none : Option (Int64 × (Nat → Int32))) = some r := hf
    cases hf
  | succ z ih =>
    intro pg_stack x1 x2 x4 hf
    rw [f_X5_grossOf_5] at hf
    refine z_iload (pc' := 7) C 3 dX5_grossOf_5 rfl rfl ?_
    refine z_aload_n (pc' := 8) C 0 dX5_grossOf_7 rfl rfl rfl ?_
    refine z_getf (pc' := 11) C zci_5 zw_245 (j := 4) rfl (zc_1 h_a0 (by omega)) rfl rfl dX5_grossOf_8 rfl ?_
    refine z_getf (pc' := 14) C zci_2 zw_123 (j := 0) rfl (zc_1 h_a13 (by omega)) rfl rfl dX5_grossOf_11 rfl ?_
    refine z_iload_n (pc' := 15) C 1 dX5_grossOf_14 rfl rfl rfl ?_
    refine z_iald (pc' := 16) C hf (zc_1 h_a14 (by omega)) dX5_grossOf_15 rfl (fun v_15 hf => ?_)
    refine z_icmp_ge (pc' := 19) C 45 hf dX5_grossOf_16 rfl rfl (fun g_16 hf => ?_) (fun g_16 hf => ?_)
    · refine z_lload_n (pc' := 46) C 2 dX5_grossOf_45 rfl rfl rfl ?_
      cases hf
      exact z_lret C rfl rfl dX5_grossOf_46
    · refine z_lload_n (pc' := 20) C 2 dX5_grossOf_19 rfl rfl rfl ?_
      refine z_aload_n (pc' := 21) C 0 dX5_grossOf_20 rfl rfl rfl ?_
      refine z_getf (pc' := 24) C zci_5 zw_245 (j := 4) rfl (zc_1 h_a0 (by omega)) rfl rfl dX5_grossOf_21 rfl ?_
      refine z_iload_n (pc' := 25) C 1 dX5_grossOf_24 rfl rfl rfl ?_
      refine z_iload (pc' := 27) C 3 dX5_grossOf_25 rfl rfl ?_
      refine z_cS (pc' := 30) C hf (As := [.int x1, .int x4]) (fun hq => c_X2_slotOf  hq) (fun _ => (zu h pr_pricing [(1, .inl (w.2.2.1 0, 16, .inl pg_stack))])) (fun q_27 => [.int q_27, .ref (zo w + (a + 13)), .long x2]) (fun _ => rfl) (fun _ => rfl) zy_X2_slotOf zw_394 zw_395 ⟨rfl, rfl⟩ rfl rfl rfl rfl rfl dX5_grossOf_27 rfl (fun q_27 hf => ?_)
      refine z_aload_n (pc' := 31) C 0 dX5_grossOf_30 rfl rfl rfl ?_
      refine z_getf (pc' := 34) C zci_5 zw_242 (j := 3) rfl (zc_1 h_a0 (by omega)) rfl rfl dX5_grossOf_31 rfl ?_
      refine z_cV (pc' := 37) C hf (As := [.int q_27, .ref (zo w + pr_pricing)]) (fun hq => c_X2_valueOf (a := (a + 13)) (b2 := pr_pricing) (zc_1 h_a13 (by omega)) (zc_1 h_a15 (by omega)) (zc_1 h_a16 (by omega)) (zc_1 h_a17 (by omega)) (zc_1 h_a18 (by omega)) (zc_o (o := 0) h_pr_pricing0 rfl) (zc_i (o := 1) n_pr_pricing1 rfl) (zc_o (o := 2) h_pr_pricing2 rfl) (by omega) hq) (fun q_34 => (zu h pr_pricing [(1, .inl (w.2.2.1 0, 16, .inl q_34.2))])) (fun q_34 => [.long q_34.1, .long x2]) (fun _ => zu_sh (d := 0) rfl rfl) (fun _ => rfl) zy_X2_valueOf zw_397 zw_398 zw_399 (ci := 2) rfl (zc_1 h_a13 (by omega)) ⟨rfl, rfl⟩ rfl rfl rfl rfl rfl dX5_grossOf_34 rfl (fun q_34 hf => ?_)
      refine z_ladd (pc' := 38) C dX5_grossOf_37 rfl ?_
      refine z_lstore_n (pc' := 39) C [(2, .long (x2 + q_34.1)), (0, .ref (zo w + a)), (1, .int x1), (4, .int x4)] dX5_grossOf_38 rfl rfl rfl rfl ?_
      refine z_iinc (pc' := 42) C 3 [(4, .int (x4 + (1 : Int32))), (2, .long (x2 + q_34.1)), (0, .ref (zo w + a)), (1, .int x1)] dX5_grossOf_39 rfl zk_iconst_1 rfl rfl rfl ?_
      refine z_goto C 5 dX5_grossOf_42 rfl ?_
      refine z_pick (lv' := [(0, .ref (zo w + a)), (1, .int x1), (2, .long (x2 + q_34.1)), (4, .int (x4 + (1 : Int32)))]) [2, 3, 1, 0] rfl ?_
      exact ih hf
set_option maxRecDepth 20000 in
theorem c_X5_grossOf {w : zV} {N : Nat} {h : zH} {a : Nat} {pr_day : Int32} {pr_pricing : Nat} {it_count : Nat → Int32} {it_first : Nat → Int32} {it_price : Nat → Int32} {it_quantity : Nat → Int32} {it_progress : Nat → Int32} {pg_threshold : Int32} {pg_length : Int32} {pg_stack : Nat → Int32} {pg_clen : Nat} {pg_code : Nat → Int32} {p1 : Int32} (h_a0 : zc N h (a + 0) (.inr (5, [.int pr_day, .ref (zo w + (a + 1)), .ref (zo w + (a + 2)), .ref (zo w + pr_pricing), .ref (zo w + (a + 13)), .ref (zo w + (a + 19)), .ref (zo w + (a + 23)), .ref (zo w + (a + 29)), .ref (zo w + (a + 34))]))) (h_a13 : zc N h (a + 13) (.inr (2, [.ref (zo w + (a + 14)), .ref (zo w + (a + 15)), .ref (zo w + (a + 16)), .ref (zo w + (a + 17)), .ref (zo w + (a + 18))]))) (h_a14 : zc N h (a + 14) (.inl (w.2.2.1 0, 8, .inl it_count))) (h_a15 : zc N h (a + 15) (.inl (w.2.2.1 0, 48, .inl it_first))) (h_a16 : zc N h (a + 16) (.inl (w.2.2.1 0, 48, .inl it_price))) (h_a17 : zc N h (a + 17) (.inl (w.2.2.1 0, 48, .inl it_quantity))) (h_a18 : zc N h (a + 18) (.inl (w.2.2.1 0, 48, .inl it_progress))) (h_pr_pricing0 : zc N h (pr_pricing + 0) (.inr (4, [.int pg_threshold, .int pg_length, .ref (zo w + (pr_pricing + 2)), .ref (zo w + (pr_pricing + 1))]))) (h_pr_pricing1 : zc N h (pr_pricing + 1) (.inl (w.2.2.1 0, 16, .inl pg_stack))) (h_pr_pricing2 : zc N h (pr_pricing + 2) (.inl (w.2.2.1 0, pg_clen, .inl pg_code))) (far_a : pr_pricing + 1 < a ∨ a + 35 ≤ pr_pricing + 1 ∨ pr_pricing = a + 10) {r : Int64 × (Nat → Int32)} (hf : f_X5_grossOf pg_threshold pg_length pg_clen pg_code pg_stack it_count it_first it_price it_quantity it_progress p1 = some r) : zM w yX5_grossOf cX5_grossOf 5 (some .long) (zr 5 173) false N N h [.ref (zo w + a), .int p1] (some (.long r.1)) (zu h pr_pricing [(1, .inl (w.2.2.1 0, 16, .inl r.2))]) := by
  unfold f_X5_grossOf at hf
  refine zM_of (by decide) rfl (fun X C _ => ?_)
  refine z_eq (h' := (zu h pr_pricing [(1, .inl (w.2.2.1 0, 16, .inl pg_stack))])) (zu_s h_pr_pricing1 zu_0).symm ?_
  have n_pr_pricing1 := h_pr_pricing1.1
  refine z_pick (lv' := [(0, .ref (zo w + a)), (1, .int p1)]) [0, 1] rfl ?_
  refine z_lconst (pc' := 1) C dX5_grossOf_0 zl_0 rfl ?_
  refine z_lstore_n (pc' := 2) C [(2, .long (0 : Int64)), (0, .ref (zo w + a)), (1, .int p1)] dX5_grossOf_1 rfl rfl rfl rfl ?_
  refine z_iconst (pc' := 3) C dX5_grossOf_2 zk_iconst_0 rfl ?_
  refine z_istore (pc' := 5) C [(4, .int (0 : Int32)), (2, .long (0 : Int64)), (0, .ref (zo w + a)), (1, .int p1)] dX5_grossOf_3 rfl rfl rfl ?_
  refine z_pick (lv' := [(0, .ref (zo w + a)), (1, .int p1), (2, .long (0 : Int64)), (4, .int (0 : Int32))]) [2, 3, 1, 0] rfl ?_
  exact w_X5_grossOf_5 C h_a0 h_a13 h_a14 h_a15 h_a16 h_a17 h_a18 h_pr_pricing0 n_pr_pricing1 h_pr_pricing2 far_a  FU hf
set_option maxRecDepth 20000 in
theorem c_X5_retentionOf {w : zV} {N : Nat} {h : zH} {a : Nat} {pr_day : Int32} {pr_pricing : Nat} {it_count : Nat → Int32} {it_first : Nat → Int32} {it_price : Nat → Int32} {co_count : Int32} {co_retentionPercent : Nat → Int32} {co_limitPercent : Nat → Int32} {co_stage : Nat → Int32} {p1 : Int32} {p2 : Int64} (h_a0 : zc N h (a + 0) (.inr (5, [.int pr_day, .ref (zo w + (a + 1)), .ref (zo w + (a + 2)), .ref (zo w + pr_pricing), .ref (zo w + (a + 13)), .ref (zo w + (a + 19)), .ref (zo w + (a + 23)), .ref (zo w + (a + 29)), .ref (zo w + (a + 34))]))) (h_a2 : zc N h (a + 2) (.inr (1, [.int co_count, .ref (zo w + (a + 3)), .ref (zo w + (a + 4)), .ref (zo w + (a + 5)), .ref (zo w + (a + 6)), .ref (zo w + (a + 7)), .ref (zo w + (a + 8)), .ref (zo w + (a + 9))]))) (h_a4 : zc N h (a + 4) (.inl (w.2.2.1 0, 8, .inl co_retentionPercent))) (h_a5 : zc N h (a + 5) (.inl (w.2.2.1 0, 8, .inl co_limitPercent))) (h_a9 : zc N h (a + 9) (.inl (w.2.2.1 0, 8, .inl co_stage))) (h_a13 : zc N h (a + 13) (.inr (2, [.ref (zo w + (a + 14)), .ref (zo w + (a + 15)), .ref (zo w + (a + 16)), .ref (zo w + (a + 17)), .ref (zo w + (a + 18))]))) (h_a14 : zc N h (a + 14) (.inl (w.2.2.1 0, 8, .inl it_count))) (h_a15 : zc N h (a + 15) (.inl (w.2.2.1 0, 48, .inl it_first))) (h_a16 : zc N h (a + 16) (.inl (w.2.2.1 0, 48, .inl it_price))) {r : Int64} (hf : f_X5_retentionOf co_retentionPercent co_limitPercent co_stage it_count it_first it_price p1 p2 = some r) : zM w yX5_retentionOf cX5_retentionOf 10 (some .long) (zr 2 62) false N N h [.ref (zo w + a), .int p1, .long p2] (some (.long r)) h := by
  unfold f_X5_retentionOf at hf
  refine zM_of (by decide) rfl (fun X C _ => ?_)
  refine z_pick (lv' := [(0, .ref (zo w + a)), (1, .int p1), (2, .long p2)]) [0, 1, 2] rfl ?_
  refine z_lload_n (pc' := 1) C 2 dX5_retentionOf_0 rfl rfl rfl ?_
  refine z_aload_n (pc' := 2) C 0 dX5_retentionOf_1 rfl rfl rfl ?_
  refine z_getf (pc' := 5) C zci_5 zw_239 (j := 2) rfl h_a0 rfl rfl dX5_retentionOf_2 rfl ?_
  refine z_getf (pc' := 8) C zci_1 zw_57 (j := 2) rfl h_a2 rfl rfl dX5_retentionOf_5 rfl ?_
  refine z_iload_n (pc' := 9) C 1 dX5_retentionOf_8 rfl rfl rfl ?_
  refine z_iald (pc' := 10) C hf h_a4 dX5_retentionOf_9 rfl (fun v_9 hf => ?_)
  refine z_i2l (pc' := 11) C dX5_retentionOf_10 rfl ?_
  refine z_lmul (pc' := 12) C dX5_retentionOf_11 rfl ?_
  refine z_ldc2 (pc' := 15) C zw_818 dX5_retentionOf_12 rfl ?_
  refine z_ldiv (pc' := 16) C dX5_retentionOf_15 (by decide) rfl ?_
  refine z_lstore (pc' := 18) C [(4, .long ((p2 * (v_9).toInt64) / (100 : Int64))), (0, .ref (zo w + a)), (1, .int p1), (2, .long p2)] dX5_retentionOf_16 rfl rfl rfl ?_
  refine z_aload_n (pc' := 19) C 1 dX5_retentionOf_18 rfl rfl rfl ?_
  refine z_getf (pc' := 22) C zci_5 zw_245 (j := 4) rfl h_a0 rfl rfl dX5_retentionOf_19 rfl ?_
  refine z_iload_n (pc' := 23) C 2 dX5_retentionOf_22 rfl rfl rfl ?_
  refine z_cV (pc' := 26) C hf (As := [.int p1]) (fun hq => c_X2_firstSumOf (a := (a + 13)) h_a13 h_a14 h_a15 h_a16 hq) (fun _ => h) (fun q_23 => [.long q_23]) (fun _ => rfl) (fun _ => rfl) zy_X2_firstSumOf zw_819 zw_781 zw_782 (ci := 2) rfl h_a13 ⟨rfl, rfl⟩ rfl rfl rfl rfl rfl dX5_retentionOf_23 rfl (fun q_23 hf => ?_)
  refine z_aload_n (pc' := 27) C 1 dX5_retentionOf_26 rfl rfl rfl ?_
  refine z_getf (pc' := 30) C zci_5 zw_239 (j := 2) rfl h_a0 rfl rfl dX5_retentionOf_27 rfl ?_
  refine z_getf (pc' := 33) C zci_1 zw_59 (j := 3) rfl h_a2 rfl rfl dX5_retentionOf_30 rfl ?_
  refine z_iload_n (pc' := 34) C 2 dX5_retentionOf_33 rfl rfl rfl ?_
  refine z_iald (pc' := 35) C hf h_a5 dX5_retentionOf_34 rfl (fun v_34 hf => ?_)
  refine z_i2l (pc' := 36) C dX5_retentionOf_35 rfl ?_
  refine z_lmul (pc' := 37) C dX5_retentionOf_36 rfl ?_
  refine z_ldc2 (pc' := 40) C zw_818 dX5_retentionOf_37 rfl ?_
  refine z_ldiv (pc' := 41) C dX5_retentionOf_40 (by decide) rfl ?_
  refine z_lstore (pc' := 43) C [(6, .long ((q_23 * (v_34).toInt64) / (100 : Int64))), (4, .long ((p2 * (v_9).toInt64) / (100 : Int64))), (0, .ref (zo w + a)), (1, .int p1), (2, .long p2)] dX5_retentionOf_41 rfl rfl rfl ?_
  refine z_lload (pc' := 45) C 1 dX5_retentionOf_43 rfl rfl ?_
  refine z_lload (pc' := 47) C 0 dX5_retentionOf_45 rfl rfl ?_
  refine z_lmin (pc' := 50) C zw_441 rfl rfl dX5_retentionOf_47 rfl ?_
  refine z_lstore (pc' := 52) C [(8, .long (if ((q_23 * (v_34).toInt64) / (100 : Int64)) < ((p2 * (v_9).toInt64) / (100 : Int64)) then ((q_23 * (v_34).toInt64) / (100 : Int64)) else ((p2 * (v_9).toInt64) / (100 : Int64)))), (6, .long ((q_23 * (v_34).toInt64) / (100 : Int64))), (4, .long ((p2 * (v_9).toInt64) / (100 : Int64))), (0, .ref (zo w + a)), (1, .int p1), (2, .long p2)] dX5_retentionOf_50 rfl rfl rfl ?_
  refine z_aload_n (pc' := 53) C 3 dX5_retentionOf_52 rfl rfl rfl ?_
  refine z_getf (pc' := 56) C zci_5 zw_239 (j := 2) rfl h_a0 rfl rfl dX5_retentionOf_53 rfl ?_
  refine z_getf (pc' := 59) C zci_1 zw_67 (j := 7) rfl h_a2 rfl rfl dX5_retentionOf_56 rfl ?_
  refine z_iload_n (pc' := 60) C 4 dX5_retentionOf_59 rfl rfl rfl ?_
  refine z_iald (pc' := 61) C hf h_a9 dX5_retentionOf_60 rfl (fun v_60 hf => ?_)
  refine z_look2 C 88 91 98 hf dX5_retentionOf_61 (by decide) (by decide) (by decide) (by decide) (by decide) (by decide) (fun hf => ?_) (fun hf => ?_) (fun _ _ hf => ?_)
  · refine z_lload (pc' := 90) C 0 dX5_retentionOf_88 rfl rfl ?_
    cases hf
    exact z_lret C rfl rfl dX5_retentionOf_90
  · refine z_lload (pc' := 93) C 0 dX5_retentionOf_91 rfl rfl ?_
    refine z_ldc2 (pc' := 96) C zw_820 dX5_retentionOf_93 rfl ?_
    refine z_ldiv (pc' := 97) C dX5_retentionOf_96 (by decide) rfl ?_
    cases hf
    exact z_lret C rfl rfl dX5_retentionOf_97
  · refine z_lconst (pc' := 99) C dX5_retentionOf_98 zl_0 rfl ?_
    cases hf
    exact z_lret C rfl rfl dX5_retentionOf_99
set_option maxRecDepth 20000 in
theorem c_X5_amountToCertify {w : zV} {N : Nat} {h : zH} {a : Nat} {pr_day : Int32} {pr_pricing : Nat} {it_count : Nat → Int32} {it_first : Nat → Int32} {it_price : Nat → Int32} {it_quantity : Nat → Int32} {it_progress : Nat → Int32} {co_count : Int32} {ce_count : Int32} {ce_contract : Nat → Int32} {ce_amount : Nat → Int64} {co_retentionPercent : Nat → Int32} {co_limitPercent : Nat → Int32} {co_stage : Nat → Int32} {pg_threshold : Int32} {pg_length : Int32} {pg_stack : Nat → Int32} {pg_clen : Nat} {pg_code : Nat → Int32} {p1 : Int32} (h_a0 : zc N h (a + 0) (.inr (5, [.int pr_day, .ref (zo w + (a + 1)), .ref (zo w + (a + 2)), .ref (zo w + pr_pricing), .ref (zo w + (a + 13)), .ref (zo w + (a + 19)), .ref (zo w + (a + 23)), .ref (zo w + (a + 29)), .ref (zo w + (a + 34))]))) (h_a2 : zc N h (a + 2) (.inr (1, [.int co_count, .ref (zo w + (a + 3)), .ref (zo w + (a + 4)), .ref (zo w + (a + 5)), .ref (zo w + (a + 6)), .ref (zo w + (a + 7)), .ref (zo w + (a + 8)), .ref (zo w + (a + 9))]))) (h_a4 : zc N h (a + 4) (.inl (w.2.2.1 0, 8, .inl co_retentionPercent))) (h_a5 : zc N h (a + 5) (.inl (w.2.2.1 0, 8, .inl co_limitPercent))) (h_a9 : zc N h (a + 9) (.inl (w.2.2.1 0, 8, .inl co_stage))) (h_a13 : zc N h (a + 13) (.inr (2, [.ref (zo w + (a + 14)), .ref (zo w + (a + 15)), .ref (zo w + (a + 16)), .ref (zo w + (a + 17)), .ref (zo w + (a + 18))]))) (h_a14 : zc N h (a + 14) (.inl (w.2.2.1 0, 8, .inl it_count))) (h_a15 : zc N h (a + 15) (.inl (w.2.2.1 0, 48, .inl it_first))) (h_a16 : zc N h (a + 16) (.inl (w.2.2.1 0, 48, .inl it_price))) (h_a17 : zc N h (a + 17) (.inl (w.2.2.1 0, 48, .inl it_quantity))) (h_a18 : zc N h (a + 18) (.inl (w.2.2.1 0, 48, .inl it_progress))) (h_a23 : zc N h (a + 23) (.inr (0, [.int ce_count, .ref (zo w + (a + 24)), .ref (zo w + (a + 25)), .ref (zo w + (a + 26)), .ref (zo w + (a + 27)), .ref (zo w + (a + 28))]))) (h_a24 : zc N h (a + 24) (.inl (w.2.2.1 0, 40, .inl ce_contract))) (h_a25 : zc N h (a + 25) (.inl (w.2.2.1 1, 40, .inr (.inl ce_amount)))) (h_pr_pricing0 : zc N h (pr_pricing + 0) (.inr (4, [.int pg_threshold, .int pg_length, .ref (zo w + (pr_pricing + 2)), .ref (zo w + (pr_pricing + 1))]))) (h_pr_pricing1 : zc N h (pr_pricing + 1) (.inl (w.2.2.1 0, 16, .inl pg_stack))) (h_pr_pricing2 : zc N h (pr_pricing + 2) (.inl (w.2.2.1 0, pg_clen, .inl pg_code))) (far_a : pr_pricing + 1 < a ∨ a + 35 ≤ pr_pricing + 1 ∨ pr_pricing = a + 10) {r : Int64 × (Nat → Int32)} (hf : f_X5_amountToCertify co_retentionPercent co_limitPercent co_stage pg_threshold pg_length pg_clen pg_code pg_stack it_count it_first it_price it_quantity it_progress ce_count ce_contract ce_amount p1 = some r) : zM w yX5_amountToCertify cX5_amountToCertify 6 (some .long) (zr 6 205) false N N h [.ref (zo w + a), .int p1] (some (.long r.1)) (zu h pr_pricing [(1, .inl (w.2.2.1 0, 16, .inl r.2))]) := by
  unfold f_X5_amountToCertify at hf
  refine zM_of (by decide) rfl (fun X C _ => ?_)
  refine z_eq (h' := (zu h pr_pricing [(1, .inl (w.2.2.1 0, 16, .inl pg_stack))])) (zu_s h_pr_pricing1 zu_0).symm ?_
  have n_pr_pricing1 := h_pr_pricing1.1
  refine z_pick (lv' := [(0, .ref (zo w + a)), (1, .int p1)]) [0, 1] rfl ?_
  refine z_aload_n (pc' := 1) C 0 dX5_amountToCertify_0 rfl rfl rfl ?_
  refine z_iload_n (pc' := 2) C 1 dX5_amountToCertify_1 rfl rfl rfl ?_
  refine z_cV (pc' := 5) C hf (As := [.int p1]) (fun hq => c_X5_grossOf (a := a) (pr_pricing := pr_pricing) (zc_1 h_a0 (by omega)) (zc_1 h_a13 (by omega)) (zc_1 h_a14 (by omega)) (zc_1 h_a15 (by omega)) (zc_1 h_a16 (by omega)) (zc_1 h_a17 (by omega)) (zc_1 h_a18 (by omega)) (zc_o (o := 0) h_pr_pricing0 rfl) (zc_i (o := 1) n_pr_pricing1 rfl) (zc_o (o := 2) h_pr_pricing2 rfl) (by omega) hq) (fun q_2 => (zu h pr_pricing [(1, .inl (w.2.2.1 0, 16, .inl q_2.2))])) (fun q_2 => [.long q_2.1]) (fun _ => zu_sh (d := 0) rfl rfl) (fun _ => rfl) zy_X5_grossOf zw_390 zw_391 zw_392 (ci := 5) rfl (zc_1 h_a0 (by omega)) ⟨rfl, rfl⟩ rfl rfl rfl rfl rfl dX5_amountToCertify_2 rfl (fun q_2 hf => ?_)
  refine z_lstore_n (pc' := 6) C [(2, .long q_2.1), (0, .ref (zo w + a)), (1, .int p1)] dX5_amountToCertify_5 rfl rfl rfl rfl ?_
  refine z_lload_n (pc' := 7) C 0 dX5_amountToCertify_6 rfl rfl rfl ?_
  refine z_aload_n (pc' := 8) C 1 dX5_amountToCertify_7 rfl rfl rfl ?_
  refine z_iload_n (pc' := 9) C 2 dX5_amountToCertify_8 rfl rfl rfl ?_
  refine z_lload_n (pc' := 10) C 0 dX5_amountToCertify_9 rfl rfl rfl ?_
  refine z_cV (pc' := 13) C hf (As := [.int p1, .long q_2.1]) (fun hq => c_X5_retentionOf (a := a) (zc_1 h_a0 (by omega)) (zc_1 h_a2 (by omega)) (zc_1 h_a4 (by omega)) (zc_1 h_a5 (by omega)) (zc_1 h_a9 (by omega)) (zc_1 h_a13 (by omega)) (zc_1 h_a14 (by omega)) (zc_1 h_a15 (by omega)) (zc_1 h_a16 (by omega)) hq) (fun _ => (zu h pr_pricing [(1, .inl (w.2.2.1 0, 16, .inl q_2.2))])) (fun q_10 => [.long q_10, .long q_2.1]) (fun _ => rfl) (fun _ => rfl) zy_X5_retentionOf zw_1101 zw_815 zw_816 (ci := 5) rfl (zc_1 h_a0 (by omega)) ⟨rfl, rfl⟩ rfl rfl rfl rfl rfl dX5_amountToCertify_10 rfl (fun q_10 hf => ?_)
  refine z_lsub (pc' := 14) C dX5_amountToCertify_13 rfl ?_
  refine z_lstore (pc' := 16) C [(4, .long (q_2.1 - q_10)), (2, .long q_2.1), (0, .ref (zo w + a)), (1, .int p1)] dX5_amountToCertify_14 rfl rfl rfl ?_
  refine z_lload (pc' := 18) C 0 dX5_amountToCertify_16 rfl rfl ?_
  refine z_aload_n (pc' := 19) C 2 dX5_amountToCertify_18 rfl rfl rfl ?_
  refine z_getf (pc' := 22) C zci_5 zw_250 (j := 6) rfl (zc_1 h_a0 (by omega)) rfl rfl dX5_amountToCertify_19 rfl ?_
  refine z_iload_n (pc' := 23) C 3 dX5_amountToCertify_22 rfl rfl rfl ?_
  refine z_cV (pc' := 26) C hf (As := [.int p1]) (fun hq => c_X0_certifiedOf (a := (a + 23)) (zc_1 h_a23 (by omega)) (zc_1 h_a24 (by omega)) (zc_1 h_a25 (by omega)) hq) (fun _ => (zu h pr_pricing [(1, .inl (w.2.2.1 0, 16, .inl q_2.2))])) (fun q_23 => [.long q_23, .long (q_2.1 - q_10)]) (fun _ => rfl) (fun _ => rfl) zy_X0_certifiedOf zw_429 zw_430 zw_431 (ci := 0) rfl (zc_1 h_a23 (by omega)) ⟨rfl, rfl⟩ rfl rfl rfl rfl rfl dX5_amountToCertify_23 rfl (fun q_23 hf => ?_)
  refine z_lsub (pc' := 27) C dX5_amountToCertify_26 rfl ?_
  cases hf
  exact z_lret C rfl rfl dX5_amountToCertify_27
set_option maxRecDepth 20000 in
theorem w_X5_marginOf_9 {X : zC} {w : zV} {N : Nat} {h : zH} {a : Nat} {pr_day : Int32} {pr_pricing : Nat} {it_count : Nat → Int32} {it_first : Nat → Int32} {it_price : Nat → Int32} {it_quantity : Nat → Int32} {co_count : Int32} {co_parent : Nat → Int32} {pg_threshold : Int32} {pg_length : Int32} {pg_clen : Nat} {pg_code : Nat → Int32} (C : zK X w RX5 cX5_marginOf 5 (some .long) (zr 6 205)) (h_a0 : zc N h (a + 0) (.inr (5, [.int pr_day, .ref (zo w + (a + 1)), .ref (zo w + (a + 2)), .ref (zo w + pr_pricing), .ref (zo w + (a + 13)), .ref (zo w + (a + 19)), .ref (zo w + (a + 23)), .ref (zo w + (a + 29)), .ref (zo w + (a + 34))]))) (h_a2 : zc N h (a + 2) (.inr (1, [.int co_count, .ref (zo w + (a + 3)), .ref (zo w + (a + 4)), .ref (zo w + (a + 5)), .ref (zo w + (a + 6)), .ref (zo w + (a + 7)), .ref (zo w + (a + 8)), .ref (zo w + (a + 9))]))) (h_a3 : zc N h (a + 3) (.inl (w.2.2.1 0, 8, .inl co_parent))) (h_a13 : zc N h (a + 13) (.inr (2, [.ref (zo w + (a + 14)), .ref (zo w + (a + 15)), .ref (zo w + (a + 16)), .ref (zo w + (a + 17)), .ref (zo w + (a + 18))]))) (h_a14 : zc N h (a + 14) (.inl (w.2.2.1 0, 8, .inl it_count))) (h_a15 : zc N h (a + 15) (.inl (w.2.2.1 0, 48, .inl it_first))) (h_a16 : zc N h (a + 16) (.inl (w.2.2.1 0, 48, .inl it_price))) (h_a17 : zc N h (a + 17) (.inl (w.2.2.1 0, 48, .inl it_quantity))) (h_pr_pricing0 : zc N h (pr_pricing + 0) (.inr (4, [.int pg_threshold, .int pg_length, .ref (zo w + (pr_pricing + 2)), .ref (zo w + (pr_pricing + 1))]))) (n_pr_pricing1 : pr_pricing + 1 < N) (h_pr_pricing2 : zc N h (pr_pricing + 2) (.inl (w.2.2.1 0, pg_clen, .inl pg_code))) (far_a : pr_pricing + 1 < a ∨ a + 35 ≤ pr_pricing + 1 ∨ pr_pricing = a + 10) {r : Int64 × (Nat → Int32)} (n : Nat) : ∀ {pg_stack : Nat → Int32} {x1 : Int32} {x2 : Int64} {x4 : Int32}, f_X5_marginOf_9  n co_count co_parent pg_threshold pg_length pg_clen pg_code pg_stack it_count it_first it_price it_quantity x1 x2 x4 = some r → zZ X w (zQ X w (zr 6 205) (some (.long r.1)) false N (zu h pr_pricing [(1, .inl (w.2.2.1 0, 16, .inl r.2))])) 0 0 false N (zu h pr_pricing [(1, .inl (w.2.2.1 0, 16, .inl pg_stack))]) 9 [(0, .ref (zo w + a)), (1, .int x1), (2, .long x2), (4, .int x4)] [] := by
  induction n with
  | zero =>
    intro pg_stack x1 x2 x4 hf
    have hf : (none : Option (Int64 × (Nat → Int32))) = some r := hf
    cases hf
  | succ z ih =>
    intro pg_stack x1 x2 x4 hf
    rw [f_X5_marginOf_9] at hf
    refine z_iload (pc' := 11) C 3 dX5_marginOf_9 rfl rfl ?_
    refine z_aload_n (pc' := 12) C 0 dX5_marginOf_11 rfl rfl rfl ?_
    refine z_getf (pc' := 15) C zci_5 zw_239 (j := 2) rfl (zc_1 h_a0 (by omega)) rfl rfl dX5_marginOf_12 rfl ?_
    refine z_getf (pc' := 18) C zci_1 zw_50 (j := 0) rfl (zc_1 h_a2 (by omega)) rfl rfl dX5_marginOf_15 rfl ?_
    refine z_icmp_ge (pc' := 21) C 50 hf dX5_marginOf_18 rfl rfl (fun g_18 hf => ?_) (fun g_18 hf => ?_)
    · refine z_lload_n (pc' := 51) C 2 dX5_marginOf_50 rfl rfl rfl ?_
      cases hf
      exact z_lret C rfl rfl dX5_marginOf_51
    · refine z_aload_n (pc' := 22) C 0 dX5_marginOf_21 rfl rfl rfl ?_
      refine z_getf (pc' := 25) C zci_5 zw_239 (j := 2) rfl (zc_1 h_a0 (by omega)) rfl rfl dX5_marginOf_22 rfl ?_
      refine z_getf (pc' := 28) C zci_1 zw_55 (j := 1) rfl (zc_1 h_a2 (by omega)) rfl rfl dX5_marginOf_25 rfl ?_
      refine z_iload (pc' := 30) C 3 dX5_marginOf_28 rfl rfl ?_
      refine z_iald (pc' := 31) C hf (zc_1 h_a3 (by omega)) dX5_marginOf_30 rfl (fun v_30 hf => ?_)
      refine z_iload_n (pc' := 32) C 1 dX5_marginOf_31 rfl rfl rfl ?_
      refine z_icmp_ne (pc' := 35) C 44 hf dX5_marginOf_32 rfl rfl (fun g_32 hf => ?_) (fun g_32 hf => ?_)
      · refine z_iinc (pc' := 47) C 3 [(4, .int (x4 + (1 : Int32))), (0, .ref (zo w + a)), (1, .int x1), (2, .long x2)] dX5_marginOf_44 rfl zk_iconst_1 rfl rfl rfl ?_
        refine z_goto C 9 dX5_marginOf_47 rfl ?_
        refine z_pick (lv' := [(0, .ref (zo w + a)), (1, .int x1), (2, .long x2), (4, .int (x4 + (1 : Int32)))]) [1, 2, 3, 0] rfl ?_
        exact ih hf
      · refine z_lload_n (pc' := 36) C 2 dX5_marginOf_35 rfl rfl rfl ?_
        refine z_aload_n (pc' := 37) C 0 dX5_marginOf_36 rfl rfl rfl ?_
        refine z_iload (pc' := 39) C 3 dX5_marginOf_37 rfl rfl ?_
        refine z_cV (pc' := 42) C hf (As := [.int x4]) (fun hq => c_X5_presentSumOf (a := a) (pr_pricing := pr_pricing) (zc_1 h_a0 (by omega)) (zc_1 h_a13 (by omega)) (zc_1 h_a14 (by omega)) (zc_1 h_a15 (by omega)) (zc_1 h_a16 (by omega)) (zc_1 h_a17 (by omega)) (zc_o (o := 0) h_pr_pricing0 rfl) (zc_i (o := 1) n_pr_pricing1 rfl) (zc_o (o := 2) h_pr_pricing2 rfl) (by omega) hq) (fun q_39 => (zu h pr_pricing [(1, .inl (w.2.2.1 0, 16, .inl q_39.2))])) (fun q_39 => [.long q_39.1, .long x2]) (fun _ => zu_sh (d := 0) rfl rfl) (fun _ => rfl) zy_X5_presentSumOf zw_870 zw_792 zw_793 (ci := 5) rfl (zc_1 h_a0 (by omega)) ⟨rfl, rfl⟩ rfl rfl rfl rfl rfl dX5_marginOf_39 rfl (fun q_39 hf => ?_)
        refine z_lsub (pc' := 43) C dX5_marginOf_42 rfl ?_
        refine z_lstore_n (pc' := 44) C [(2, .long (x2 - q_39.1)), (0, .ref (zo w + a)), (1, .int x1), (4, .int x4)] dX5_marginOf_43 rfl rfl rfl rfl ?_
        refine z_iinc (pc' := 47) C 3 [(4, .int (x4 + (1 : Int32))), (2, .long (x2 - q_39.1)), (0, .ref (zo w + a)), (1, .int x1)] dX5_marginOf_44 rfl zk_iconst_1 rfl rfl rfl ?_
        refine z_goto C 9 dX5_marginOf_47 rfl ?_
        refine z_pick (lv' := [(0, .ref (zo w + a)), (1, .int x1), (2, .long (x2 - q_39.1)), (4, .int (x4 + (1 : Int32)))]) [2, 3, 1, 0] rfl ?_
        exact ih hf
set_option maxRecDepth 20000 in
theorem c_X5_marginOf {w : zV} {N : Nat} {h : zH} {a : Nat} {pr_day : Int32} {pr_pricing : Nat} {it_count : Nat → Int32} {it_first : Nat → Int32} {it_price : Nat → Int32} {it_quantity : Nat → Int32} {co_count : Int32} {co_parent : Nat → Int32} {pg_threshold : Int32} {pg_length : Int32} {pg_stack : Nat → Int32} {pg_clen : Nat} {pg_code : Nat → Int32} {p1 : Int32} (h_a0 : zc N h (a + 0) (.inr (5, [.int pr_day, .ref (zo w + (a + 1)), .ref (zo w + (a + 2)), .ref (zo w + pr_pricing), .ref (zo w + (a + 13)), .ref (zo w + (a + 19)), .ref (zo w + (a + 23)), .ref (zo w + (a + 29)), .ref (zo w + (a + 34))]))) (h_a2 : zc N h (a + 2) (.inr (1, [.int co_count, .ref (zo w + (a + 3)), .ref (zo w + (a + 4)), .ref (zo w + (a + 5)), .ref (zo w + (a + 6)), .ref (zo w + (a + 7)), .ref (zo w + (a + 8)), .ref (zo w + (a + 9))]))) (h_a3 : zc N h (a + 3) (.inl (w.2.2.1 0, 8, .inl co_parent))) (h_a13 : zc N h (a + 13) (.inr (2, [.ref (zo w + (a + 14)), .ref (zo w + (a + 15)), .ref (zo w + (a + 16)), .ref (zo w + (a + 17)), .ref (zo w + (a + 18))]))) (h_a14 : zc N h (a + 14) (.inl (w.2.2.1 0, 8, .inl it_count))) (h_a15 : zc N h (a + 15) (.inl (w.2.2.1 0, 48, .inl it_first))) (h_a16 : zc N h (a + 16) (.inl (w.2.2.1 0, 48, .inl it_price))) (h_a17 : zc N h (a + 17) (.inl (w.2.2.1 0, 48, .inl it_quantity))) (h_pr_pricing0 : zc N h (pr_pricing + 0) (.inr (4, [.int pg_threshold, .int pg_length, .ref (zo w + (pr_pricing + 2)), .ref (zo w + (pr_pricing + 1))]))) (h_pr_pricing1 : zc N h (pr_pricing + 1) (.inl (w.2.2.1 0, 16, .inl pg_stack))) (h_pr_pricing2 : zc N h (pr_pricing + 2) (.inl (w.2.2.1 0, pg_clen, .inl pg_code))) (far_a : pr_pricing + 1 < a ∨ a + 35 ≤ pr_pricing + 1 ∨ pr_pricing = a + 10) {r : Int64 × (Nat → Int32)} (hf : f_X5_marginOf co_count co_parent pg_threshold pg_length pg_clen pg_code pg_stack it_count it_first it_price it_quantity p1 = some r) : zM w yX5_marginOf cX5_marginOf 5 (some .long) (zr 6 205) false N N h [.ref (zo w + a), .int p1] (some (.long r.1)) (zu h pr_pricing [(1, .inl (w.2.2.1 0, 16, .inl r.2))]) := by
  unfold f_X5_marginOf at hf
  refine zM_of (by decide) rfl (fun X C _ => ?_)
  refine z_eq (h' := (zu h pr_pricing [(1, .inl (w.2.2.1 0, 16, .inl pg_stack))])) (zu_s h_pr_pricing1 zu_0).symm ?_
  have n_pr_pricing1 := h_pr_pricing1.1
  refine z_pick (lv' := [(0, .ref (zo w + a)), (1, .int p1)]) [0, 1] rfl ?_
  refine z_aload_n (pc' := 1) C 0 dX5_marginOf_0 rfl rfl rfl ?_
  refine z_iload_n (pc' := 2) C 1 dX5_marginOf_1 rfl rfl rfl ?_
  refine z_cV (pc' := 5) C hf (As := [.int p1]) (fun hq => c_X5_presentSumOf (a := a) (pr_pricing := pr_pricing) (zc_1 h_a0 (by omega)) (zc_1 h_a13 (by omega)) (zc_1 h_a14 (by omega)) (zc_1 h_a15 (by omega)) (zc_1 h_a16 (by omega)) (zc_1 h_a17 (by omega)) (zc_o (o := 0) h_pr_pricing0 rfl) (zc_i (o := 1) n_pr_pricing1 rfl) (zc_o (o := 2) h_pr_pricing2 rfl) (by omega) hq) (fun q_2 => (zu h pr_pricing [(1, .inl (w.2.2.1 0, 16, .inl q_2.2))])) (fun q_2 => [.long q_2.1]) (fun _ => zu_sh (d := 0) rfl rfl) (fun _ => rfl) zy_X5_presentSumOf zw_870 zw_792 zw_793 (ci := 5) rfl (zc_1 h_a0 (by omega)) ⟨rfl, rfl⟩ rfl rfl rfl rfl rfl dX5_marginOf_2 rfl (fun q_2 hf => ?_)
  refine z_lstore_n (pc' := 6) C [(2, .long q_2.1), (0, .ref (zo w + a)), (1, .int p1)] dX5_marginOf_5 rfl rfl rfl rfl ?_
  refine z_iconst (pc' := 7) C dX5_marginOf_6 zk_iconst_0 rfl ?_
  refine z_istore (pc' := 9) C [(4, .int (0 : Int32)), (2, .long q_2.1), (0, .ref (zo w + a)), (1, .int p1)] dX5_marginOf_7 rfl rfl rfl ?_
  refine z_pick (lv' := [(0, .ref (zo w + a)), (1, .int p1), (2, .long q_2.1), (4, .int (0 : Int32))]) [2, 3, 1, 0] rfl ?_
  exact w_X5_marginOf_9 C h_a0 h_a2 h_a3 h_a13 h_a14 h_a15 h_a16 h_a17 h_pr_pricing0 n_pr_pricing1 h_pr_pricing2 far_a  FU hf
set_option maxRecDepth 20000 in
theorem c_X5_overdueOf {w : zV} {N : Nat} {h : zH} {a : Nat} {pr_day : Int32} {pr_pricing : Nat} {ce_count : Int32} {ce_contract : Nat → Int32} {ce_open : Nat → Int64} {ce_due : Nat → Int32} {p1 : Int32} (h_a0 : zc N h (a + 0) (.inr (5, [.int pr_day, .ref (zo w + (a + 1)), .ref (zo w + (a + 2)), .ref (zo w + pr_pricing), .ref (zo w + (a + 13)), .ref (zo w + (a + 19)), .ref (zo w + (a + 23)), .ref (zo w + (a + 29)), .ref (zo w + (a + 34))]))) (h_a23 : zc N h (a + 23) (.inr (0, [.int ce_count, .ref (zo w + (a + 24)), .ref (zo w + (a + 25)), .ref (zo w + (a + 26)), .ref (zo w + (a + 27)), .ref (zo w + (a + 28))]))) (h_a24 : zc N h (a + 24) (.inl (w.2.2.1 0, 40, .inl ce_contract))) (h_a26 : zc N h (a + 26) (.inl (w.2.2.1 1, 40, .inr (.inl ce_open)))) (h_a28 : zc N h (a + 28) (.inl (w.2.2.1 0, 40, .inl ce_due))) {r : Int64} (hf : f_X5_overdueOf pr_day ce_count ce_contract ce_open ce_due p1 = some r) : zM w yX5_overdueOf cX5_overdueOf 2 (some .long) (zr 1 33) false N N h [.ref (zo w + a), .int p1] (some (.long r)) h := by
  unfold f_X5_overdueOf at hf
  refine zM_of (by decide) rfl (fun X C _ => ?_)
  refine z_pick (lv' := [(0, .ref (zo w + a)), (1, .int p1)]) [0, 1] rfl ?_
  refine z_aload_n (pc' := 1) C 0 dX5_overdueOf_0 rfl rfl rfl ?_
  refine z_getf (pc' := 4) C zci_5 zw_250 (j := 6) rfl h_a0 rfl rfl dX5_overdueOf_1 rfl ?_
  refine z_iload_n (pc' := 5) C 1 dX5_overdueOf_4 rfl rfl rfl ?_
  refine z_aload_n (pc' := 6) C 0 dX5_overdueOf_5 rfl rfl rfl ?_
  refine z_getf (pc' := 9) C zci_5 zw_234 (j := 0) rfl h_a0 rfl rfl dX5_overdueOf_6 rfl ?_
  refine z_cV (pc' := 12) C hf (As := [.int p1, .int pr_day]) (fun hq => c_X0_overdueOf (a := (a + 23)) h_a23 h_a24 h_a26 h_a28 hq) (fun _ => h) (fun q_9 => [.long q_9]) (fun _ => rfl) (fun _ => rfl) zy_X0_overdueOf zw_848 zw_849 zw_850 (ci := 0) rfl h_a23 ⟨rfl, rfl⟩ rfl rfl rfl rfl rfl dX5_overdueOf_9 rfl (fun q_9 hf => ?_)
  cases hf
  exact z_lret C rfl rfl dX5_overdueOf_12
set_option maxRecDepth 20000 in
theorem c_X5_quantityWith {w : zV} {N : Nat} {h : zH} {a : Nat} {pr_day : Int32} {pr_pricing : Nat} {it_quantity : Nat → Int32} {va_count : Int32} {va_slot : Nat → Int32} {va_change : Nat → Int32} {p1 : Int32} (h_a0 : zc N h (a + 0) (.inr (5, [.int pr_day, .ref (zo w + (a + 1)), .ref (zo w + (a + 2)), .ref (zo w + pr_pricing), .ref (zo w + (a + 13)), .ref (zo w + (a + 19)), .ref (zo w + (a + 23)), .ref (zo w + (a + 29)), .ref (zo w + (a + 34))]))) (h_a13 : zc N h (a + 13) (.inr (2, [.ref (zo w + (a + 14)), .ref (zo w + (a + 15)), .ref (zo w + (a + 16)), .ref (zo w + (a + 17)), .ref (zo w + (a + 18))]))) (h_a17 : zc N h (a + 17) (.inl (w.2.2.1 0, 48, .inl it_quantity))) (h_a19 : zc N h (a + 19) (.inr (7, [.int va_count, .ref (zo w + (a + 20)), .ref (zo w + (a + 21)), .ref (zo w + (a + 22))]))) (h_a20 : zc N h (a + 20) (.inl (w.2.2.1 0, 20, .inl va_slot))) (h_a21 : zc N h (a + 21) (.inl (w.2.2.1 0, 20, .inl va_change))) {r : Int32} (hf : f_X5_quantityWith it_quantity va_slot va_change p1 = some r) : zM w yX5_quantityWith cX5_quantityWith 2 (some .int) (zr 0 0) false N N h [.ref (zo w + a), .int p1] (some (.int r)) h := by
  unfold f_X5_quantityWith at hf
  refine zM_of (by decide) rfl (fun X C _ => ?_)
  refine z_pick (lv' := [(0, .ref (zo w + a)), (1, .int p1)]) [0, 1] rfl ?_
  refine z_aload_n (pc' := 1) C 0 dX5_quantityWith_0 rfl rfl rfl ?_
  refine z_getf (pc' := 4) C zci_5 zw_245 (j := 4) rfl h_a0 rfl rfl dX5_quantityWith_1 rfl ?_
  refine z_getf (pc' := 7) C zci_2 zw_129 (j := 3) rfl h_a13 rfl rfl dX5_quantityWith_4 rfl ?_
  refine z_aload_n (pc' := 8) C 0 dX5_quantityWith_7 rfl rfl rfl ?_
  refine z_getf (pc' := 11) C zci_5 zw_248 (j := 5) rfl h_a0 rfl rfl dX5_quantityWith_8 rfl ?_
  refine z_getf (pc' := 14) C zci_7 zw_154 (j := 1) rfl h_a19 rfl rfl dX5_quantityWith_11 rfl ?_
  refine z_iload_n (pc' := 15) C 1 dX5_quantityWith_14 rfl rfl rfl ?_
  refine z_iald (pc' := 16) C hf h_a20 dX5_quantityWith_15 rfl (fun v_15 hf => ?_)
  refine z_iald (pc' := 17) C hf h_a17 dX5_quantityWith_16 rfl (fun v_16 hf => ?_)
  refine z_aload_n (pc' := 18) C 0 dX5_quantityWith_17 rfl rfl rfl ?_
  refine z_getf (pc' := 21) C zci_5 zw_248 (j := 5) rfl h_a0 rfl rfl dX5_quantityWith_18 rfl ?_
  refine z_getf (pc' := 24) C zci_7 zw_157 (j := 2) rfl h_a19 rfl rfl dX5_quantityWith_21 rfl ?_
  refine z_iload_n (pc' := 25) C 1 dX5_quantityWith_24 rfl rfl rfl ?_
  refine z_iald (pc' := 26) C hf h_a21 dX5_quantityWith_25 rfl (fun v_25 hf => ?_)
  refine z_iadd (pc' := 27) C dX5_quantityWith_26 rfl ?_
  cases hf
  exact z_iret C rfl rfl dX5_quantityWith_27
set_option maxRecDepth 20000 in
theorem c_X5_worthOf {w : zV} {N : Nat} {h : zH} {a : Nat} {pr_day : Int32} {pr_pricing : Nat} {it_first : Nat → Int32} {it_price : Nat → Int32} {it_quantity : Nat → Int32} {va_count : Int32} {va_slot : Nat → Int32} {va_change : Nat → Int32} {va_approved : Nat → Int32} {pg_threshold : Int32} {pg_length : Int32} {pg_stack : Nat → Int32} {pg_clen : Nat} {pg_code : Nat → Int32} {p1 : Int32} (h_a0 : zc N h (a + 0) (.inr (5, [.int pr_day, .ref (zo w + (a + 1)), .ref (zo w + (a + 2)), .ref (zo w + pr_pricing), .ref (zo w + (a + 13)), .ref (zo w + (a + 19)), .ref (zo w + (a + 23)), .ref (zo w + (a + 29)), .ref (zo w + (a + 34))]))) (h_a13 : zc N h (a + 13) (.inr (2, [.ref (zo w + (a + 14)), .ref (zo w + (a + 15)), .ref (zo w + (a + 16)), .ref (zo w + (a + 17)), .ref (zo w + (a + 18))]))) (h_a15 : zc N h (a + 15) (.inl (w.2.2.1 0, 48, .inl it_first))) (h_a16 : zc N h (a + 16) (.inl (w.2.2.1 0, 48, .inl it_price))) (h_a17 : zc N h (a + 17) (.inl (w.2.2.1 0, 48, .inl it_quantity))) (h_a19 : zc N h (a + 19) (.inr (7, [.int va_count, .ref (zo w + (a + 20)), .ref (zo w + (a + 21)), .ref (zo w + (a + 22))]))) (h_a20 : zc N h (a + 20) (.inl (w.2.2.1 0, 20, .inl va_slot))) (h_a21 : zc N h (a + 21) (.inl (w.2.2.1 0, 20, .inl va_change))) (h_a22 : zc N h (a + 22) (.inl (w.2.2.1 3, 20, .inl va_approved))) (h_pr_pricing0 : zc N h (pr_pricing + 0) (.inr (4, [.int pg_threshold, .int pg_length, .ref (zo w + (pr_pricing + 2)), .ref (zo w + (pr_pricing + 1))]))) (h_pr_pricing1 : zc N h (pr_pricing + 1) (.inl (w.2.2.1 0, 16, .inl pg_stack))) (h_pr_pricing2 : zc N h (pr_pricing + 2) (.inl (w.2.2.1 0, pg_clen, .inl pg_code))) (far_a : pr_pricing + 1 < a ∨ a + 35 ≤ pr_pricing + 1 ∨ pr_pricing = a + 10) {r : Int64 × (Nat → Int32)} (hf : f_X5_worthOf pg_threshold pg_length pg_clen pg_code pg_stack it_first it_price it_quantity va_slot va_change va_approved p1 = some r) : zM w yX5_worthOf cX5_worthOf 4 (some .long) (zr 5 172) false N N h [.ref (zo w + a), .int p1] (some (.long r.1)) (zu h pr_pricing [(1, .inl (w.2.2.1 0, 16, .inl r.2))]) := by
  unfold f_X5_worthOf at hf
  refine zM_of (by decide) rfl (fun X C _ => ?_)
  refine z_eq (h' := (zu h pr_pricing [(1, .inl (w.2.2.1 0, 16, .inl pg_stack))])) (zu_s h_pr_pricing1 zu_0).symm ?_
  have n_pr_pricing1 := h_pr_pricing1.1
  refine z_pick (lv' := [(0, .ref (zo w + a)), (1, .int p1)]) [0, 1] rfl ?_
  refine z_aload_n (pc' := 1) C 0 dX5_worthOf_0 rfl rfl rfl ?_
  refine z_getf (pc' := 4) C zci_5 zw_248 (j := 5) rfl (zc_1 h_a0 (by omega)) rfl rfl dX5_worthOf_1 rfl ?_
  refine z_getf (pc' := 7) C zci_7 zw_154 (j := 1) rfl (zc_1 h_a19 (by omega)) rfl rfl dX5_worthOf_4 rfl ?_
  refine z_iload_n (pc' := 8) C 1 dX5_worthOf_7 rfl rfl rfl ?_
  refine z_iald (pc' := 9) C hf (zc_1 h_a20 (by omega)) dX5_worthOf_8 rfl (fun v_8 hf => ?_)
  refine z_istore_n (pc' := 10) C [(2, .int v_8), (0, .ref (zo w + a)), (1, .int p1)] dX5_worthOf_9 rfl rfl rfl rfl ?_
  refine z_aload_n (pc' := 11) C 1 dX5_worthOf_10 rfl rfl rfl ?_
  refine z_iload_n (pc' := 12) C 2 dX5_worthOf_11 rfl rfl rfl ?_
  refine z_cV (pc' := 15) C hf (As := [.int p1]) (fun hq => c_X5_quantityWith (a := a) (zc_1 h_a0 (by omega)) (zc_1 h_a13 (by omega)) (zc_1 h_a17 (by omega)) (zc_1 h_a19 (by omega)) (zc_1 h_a20 (by omega)) (zc_1 h_a21 (by omega)) hq) (fun _ => (zu h pr_pricing [(1, .inl (w.2.2.1 0, 16, .inl pg_stack))])) (fun q_12 => [.int q_12]) (fun _ => rfl) (fun _ => rfl) zy_X5_quantityWith zw_988 zw_989 zw_990 (ci := 5) rfl (zc_1 h_a0 (by omega)) ⟨rfl, rfl⟩ rfl rfl rfl rfl rfl dX5_worthOf_12 rfl (fun q_12 hf => ?_)
  refine z_istore_n (pc' := 16) C [(3, .int q_12), (2, .int v_8), (0, .ref (zo w + a)), (1, .int p1)] dX5_worthOf_15 rfl rfl rfl rfl ?_
  refine z_aload_n (pc' := 17) C 2 dX5_worthOf_16 rfl rfl rfl ?_
  refine z_getf (pc' := 20) C zci_5 zw_248 (j := 5) rfl (zc_1 h_a0 (by omega)) rfl rfl dX5_worthOf_17 rfl ?_
  refine z_getf (pc' := 23) C zci_7 zw_159 (j := 3) rfl (zc_1 h_a19 (by omega)) rfl rfl dX5_worthOf_20 rfl ?_
  refine z_iload_n (pc' := 24) C 3 dX5_worthOf_23 rfl rfl rfl ?_
  refine z_zald (pc' := 25) C hf (zc_1 h_a22 (by omega)) dX5_worthOf_24 rfl (fun v_24 hf => ?_)
  refine z_if_ne (pc' := 28) C 32 hf dX5_worthOf_25 rfl rfl (fun g_25 hf => ?_) (fun g_25 hf => ?_)
  · refine z_lconst (pc' := 33) C dX5_worthOf_32 zl_0 rfl ?_
    cases hf
    exact z_lret C rfl rfl dX5_worthOf_33
  · refine z_iload_n (pc' := 29) C 0 dX5_worthOf_28 rfl rfl rfl ?_
    refine z_if_ge (pc' := 32) C 34 hf dX5_worthOf_29 rfl rfl (fun g_29 hf => ?_) (fun g_29 hf => ?_)
    · refine z_aload_n (pc' := 35) C 2 dX5_worthOf_34 rfl rfl rfl ?_
      refine z_getf (pc' := 38) C zci_5 zw_245 (j := 4) rfl (zc_1 h_a0 (by omega)) rfl rfl dX5_worthOf_35 rfl ?_
      refine z_iload_n (pc' := 39) C 1 dX5_worthOf_38 rfl rfl rfl ?_
      refine z_iload_n (pc' := 40) C 0 dX5_worthOf_39 rfl rfl rfl ?_
      refine z_aload_n (pc' := 41) C 2 dX5_worthOf_40 rfl rfl rfl ?_
      refine z_getf (pc' := 44) C zci_5 zw_242 (j := 3) rfl (zc_1 h_a0 (by omega)) rfl rfl dX5_worthOf_41 rfl ?_
      refine z_cV (pc' := 47) C hf (As := [.int v_8, .int q_12, .ref (zo w + pr_pricing)]) (fun hq => c_X2_fullValueOf (a := (a + 13)) (b3 := pr_pricing) (zc_1 h_a13 (by omega)) (zc_1 h_a15 (by omega)) (zc_1 h_a16 (by omega)) (zc_o (o := 0) h_pr_pricing0 rfl) (zc_i (o := 1) n_pr_pricing1 rfl) (zc_o (o := 2) h_pr_pricing2 rfl) (by omega) hq) (fun q_44 => (zu h pr_pricing [(1, .inl (w.2.2.1 0, 16, .inl q_44.2))])) (fun q_44 => [.long q_44.1]) (fun _ => zu_sh (d := 0) rfl rfl) (fun _ => rfl) zy_X2_fullValueOf zw_795 zw_796 zw_797 (ci := 2) rfl (zc_1 h_a13 (by omega)) ⟨rfl, rfl⟩ rfl rfl rfl rfl rfl dX5_worthOf_44 rfl (fun q_44 hf => ?_)
      refine z_aload_n (pc' := 48) C 2 dX5_worthOf_47 rfl rfl rfl ?_
      refine z_getf (pc' := 51) C zci_5 zw_245 (j := 4) rfl (zc_1 h_a0 (by omega)) rfl rfl dX5_worthOf_48 rfl ?_
      refine z_iload_n (pc' := 52) C 1 dX5_worthOf_51 rfl rfl rfl ?_
      refine z_aload_n (pc' := 53) C 2 dX5_worthOf_52 rfl rfl rfl ?_
      refine z_getf (pc' := 56) C zci_5 zw_245 (j := 4) rfl (zc_1 h_a0 (by omega)) rfl rfl dX5_worthOf_53 rfl ?_
      refine z_getf (pc' := 59) C zci_2 zw_129 (j := 3) rfl (zc_1 h_a13 (by omega)) rfl rfl dX5_worthOf_56 rfl ?_
      refine z_iload_n (pc' := 60) C 1 dX5_worthOf_59 rfl rfl rfl ?_
      refine z_iald (pc' := 61) C hf (zc_1 h_a17 (by omega)) dX5_worthOf_60 rfl (fun v_60 hf => ?_)
      refine z_aload_n (pc' := 62) C 2 dX5_worthOf_61 rfl rfl rfl ?_
      refine z_getf (pc' := 65) C zci_5 zw_242 (j := 3) rfl (zc_1 h_a0 (by omega)) rfl rfl dX5_worthOf_62 rfl ?_
      refine z_cV (pc' := 68) C hf (As := [.int v_8, .int v_60, .ref (zo w + pr_pricing)]) (fun hq => c_X2_fullValueOf (a := (a + 13)) (b3 := pr_pricing) (zc_1 h_a13 (by omega)) (zc_1 h_a15 (by omega)) (zc_1 h_a16 (by omega)) (zc_o (o := 0) h_pr_pricing0 rfl) (zc_i (o := 1) n_pr_pricing1 rfl) (zc_o (o := 2) h_pr_pricing2 rfl) (by omega) hq) (fun q_65 => (zu h pr_pricing [(1, .inl (w.2.2.1 0, 16, .inl q_65.2))])) (fun q_65 => [.long q_65.1, .long q_44.1]) (fun _ => zu_sh (d := 0) rfl rfl) (fun _ => rfl) zy_X2_fullValueOf zw_795 zw_796 zw_797 (ci := 2) rfl (zc_1 h_a13 (by omega)) ⟨rfl, rfl⟩ rfl rfl rfl rfl rfl dX5_worthOf_65 rfl (fun q_65 hf => ?_)
      refine z_lsub (pc' := 69) C dX5_worthOf_68 rfl ?_
      cases hf
      exact z_lret C rfl rfl dX5_worthOf_69
    · refine z_lconst (pc' := 33) C dX5_worthOf_32 zl_0 rfl ?_
      cases hf
      exact z_lret C rfl rfl dX5_worthOf_33
set_option maxRecDepth 20000 in
theorem c_X5_isHeldBack {w : zV} {N : Nat} {h : zH} {a : Nat} {pr_day : Int32} {pr_pricing : Nat} {co_count : Int32} {ce_count : Int32} {ce_contract : Nat → Int32} {ce_open : Nat → Int64} {ce_issued : Nat → Int32} {co_parent : Nat → Int32} {co_linked : Nat → Int32} {p1 : Int32} (h_a0 : zc N h (a + 0) (.inr (5, [.int pr_day, .ref (zo w + (a + 1)), .ref (zo w + (a + 2)), .ref (zo w + pr_pricing), .ref (zo w + (a + 13)), .ref (zo w + (a + 19)), .ref (zo w + (a + 23)), .ref (zo w + (a + 29)), .ref (zo w + (a + 34))]))) (h_a2 : zc N h (a + 2) (.inr (1, [.int co_count, .ref (zo w + (a + 3)), .ref (zo w + (a + 4)), .ref (zo w + (a + 5)), .ref (zo w + (a + 6)), .ref (zo w + (a + 7)), .ref (zo w + (a + 8)), .ref (zo w + (a + 9))]))) (h_a3 : zc N h (a + 3) (.inl (w.2.2.1 0, 8, .inl co_parent))) (h_a8 : zc N h (a + 8) (.inl (w.2.2.1 3, 8, .inl co_linked))) (h_a23 : zc N h (a + 23) (.inr (0, [.int ce_count, .ref (zo w + (a + 24)), .ref (zo w + (a + 25)), .ref (zo w + (a + 26)), .ref (zo w + (a + 27)), .ref (zo w + (a + 28))]))) (h_a24 : zc N h (a + 24) (.inl (w.2.2.1 0, 40, .inl ce_contract))) (h_a26 : zc N h (a + 26) (.inl (w.2.2.1 1, 40, .inr (.inl ce_open)))) (h_a27 : zc N h (a + 27) (.inl (w.2.2.1 0, 40, .inl ce_issued))) {r : Int32} (hf : f_X5_isHeldBack co_parent co_linked ce_count ce_contract ce_open ce_issued p1 = some r) : zM w yX5_isHeldBack cX5_isHeldBack 3 (some .boolean) (zr 1 31) false N N h [.ref (zo w + a), .int p1] (some (.int r)) h := by
  unfold f_X5_isHeldBack at hf
  refine zM_of (by decide) rfl (fun X C _ => ?_)
  refine z_pick (lv' := [(0, .ref (zo w + a)), (1, .int p1)]) [0, 1] rfl ?_
  refine z_aload_n (pc' := 1) C 0 dX5_isHeldBack_0 rfl rfl rfl ?_
  refine z_getf (pc' := 4) C zci_5 zw_250 (j := 6) rfl h_a0 rfl rfl dX5_isHeldBack_1 rfl ?_
  refine z_getf (pc' := 7) C zci_0 zw_180 (j := 1) rfl h_a23 rfl rfl dX5_isHeldBack_4 rfl ?_
  refine z_iload_n (pc' := 8) C 1 dX5_isHeldBack_7 rfl rfl rfl ?_
  refine z_iald (pc' := 9) C hf h_a24 dX5_isHeldBack_8 rfl (fun v_8 hf => ?_)
  refine z_istore_n (pc' := 10) C [(2, .int v_8), (0, .ref (zo w + a)), (1, .int p1)] dX5_isHeldBack_9 rfl rfl rfl rfl ?_
  refine z_aload_n (pc' := 11) C 1 dX5_isHeldBack_10 rfl rfl rfl ?_
  refine z_getf (pc' := 14) C zci_5 zw_239 (j := 2) rfl h_a0 rfl rfl dX5_isHeldBack_11 rfl ?_
  refine z_getf (pc' := 17) C zci_1 zw_65 (j := 6) rfl h_a2 rfl rfl dX5_isHeldBack_14 rfl ?_
  refine z_iload_n (pc' := 18) C 0 dX5_isHeldBack_17 rfl rfl rfl ?_
  refine z_zald (pc' := 19) C hf h_a8 dX5_isHeldBack_18 rfl (fun v_18 hf => ?_)
  refine z_if_eq (pc' := 22) C 54 hf dX5_isHeldBack_19 rfl rfl (fun g_19 hf => ?_) (fun g_19 hf => ?_)
  · refine z_iconst (pc' := 55) C dX5_isHeldBack_54 zk_iconst_0 rfl ?_
    cases hf
    exact z_zret C zb_0 rfl rfl dX5_isHeldBack_55
  · refine z_aload_n (pc' := 23) C 1 dX5_isHeldBack_22 rfl rfl rfl ?_
    refine z_getf (pc' := 26) C zci_5 zw_250 (j := 6) rfl h_a0 rfl rfl dX5_isHeldBack_23 rfl ?_
    refine z_aload_n (pc' := 27) C 1 dX5_isHeldBack_26 rfl rfl rfl ?_
    refine z_getf (pc' := 30) C zci_5 zw_239 (j := 2) rfl h_a0 rfl rfl dX5_isHeldBack_27 rfl ?_
    refine z_getf (pc' := 33) C zci_1 zw_55 (j := 1) rfl h_a2 rfl rfl dX5_isHeldBack_30 rfl ?_
    refine z_iload_n (pc' := 34) C 0 dX5_isHeldBack_33 rfl rfl rfl ?_
    refine z_iald (pc' := 35) C hf h_a3 dX5_isHeldBack_34 rfl (fun v_34 hf => ?_)
    refine z_aload_n (pc' := 36) C 1 dX5_isHeldBack_35 rfl rfl rfl ?_
    refine z_getf (pc' := 39) C zci_5 zw_250 (j := 6) rfl h_a0 rfl rfl dX5_isHeldBack_36 rfl ?_
    refine z_getf (pc' := 42) C zci_0 zw_188 (j := 4) rfl h_a23 rfl rfl dX5_isHeldBack_39 rfl ?_
    refine z_iload_n (pc' := 43) C 2 dX5_isHeldBack_42 rfl rfl rfl ?_
    refine z_iald (pc' := 44) C hf h_a27 dX5_isHeldBack_43 rfl (fun v_43 hf => ?_)
    refine z_cV (pc' := 47) C hf (As := [.int v_34, .int v_43]) (fun hq => c_X0_hasOpenUpTo (a := (a + 23)) h_a23 h_a24 h_a26 h_a27 hq) (fun _ => h) (fun q_44 => [.int q_44]) (fun _ => rfl) (fun _ => rfl) zy_X0_hasOpenUpTo zw_921 zw_922 zw_923 (ci := 0) rfl h_a23 ⟨rfl, rfl⟩ rfl rfl rfl rfl rfl dX5_isHeldBack_44 rfl (fun q_44 hf => ?_)
    refine z_if_eq (pc' := 50) C 54 hf dX5_isHeldBack_47 rfl rfl (fun g_47 hf => ?_) (fun g_47 hf => ?_)
    · refine z_iconst (pc' := 55) C dX5_isHeldBack_54 zk_iconst_0 rfl ?_
      cases hf
      exact z_zret C zb_0 rfl rfl dX5_isHeldBack_55
    · refine z_iconst (pc' := 51) C dX5_isHeldBack_50 zk_iconst_1 rfl ?_
      refine z_goto C 55 dX5_isHeldBack_51 rfl ?_
      cases hf
      exact z_zret C zb_1 rfl rfl dX5_isHeldBack_55
set_option maxRecDepth 20000 in
theorem c_X5_payerHolds {w : zV} {N : Nat} {h : zH} {a : Nat} {pr_day : Int32} {pr_pricing : Nat} {pr_accounts : Nat → Int64} {co_count : Int32} {ce_count : Int32} {ce_contract : Nat → Int32} {co_parent : Nat → Int32} {p1 : Int32} (h_a0 : zc N h (a + 0) (.inr (5, [.int pr_day, .ref (zo w + (a + 1)), .ref (zo w + (a + 2)), .ref (zo w + pr_pricing), .ref (zo w + (a + 13)), .ref (zo w + (a + 19)), .ref (zo w + (a + 23)), .ref (zo w + (a + 29)), .ref (zo w + (a + 34))]))) (h_a1 : zc N h (a + 1) (.inl (w.2.2.1 1, 9, .inr (.inl pr_accounts)))) (h_a2 : zc N h (a + 2) (.inr (1, [.int co_count, .ref (zo w + (a + 3)), .ref (zo w + (a + 4)), .ref (zo w + (a + 5)), .ref (zo w + (a + 6)), .ref (zo w + (a + 7)), .ref (zo w + (a + 8)), .ref (zo w + (a + 9))]))) (h_a3 : zc N h (a + 3) (.inl (w.2.2.1 0, 8, .inl co_parent))) (h_a23 : zc N h (a + 23) (.inr (0, [.int ce_count, .ref (zo w + (a + 24)), .ref (zo w + (a + 25)), .ref (zo w + (a + 26)), .ref (zo w + (a + 27)), .ref (zo w + (a + 28))]))) (h_a24 : zc N h (a + 24) (.inl (w.2.2.1 0, 40, .inl ce_contract))) {r : Int64} (hf : f_X5_payerHolds pr_accounts co_parent ce_contract p1 = some r) : zM w yX5_payerHolds cX5_payerHolds 2 (some .long) (zr 0 0) false N N h [.ref (zo w + a), .int p1] (some (.long r)) h := by
  unfold f_X5_payerHolds at hf
  refine zM_of (by decide) rfl (fun X C _ => ?_)
  refine z_pick (lv' := [(0, .ref (zo w + a)), (1, .int p1)]) [0, 1] rfl ?_
  refine z_aload_n (pc' := 1) C 0 dX5_payerHolds_0 rfl rfl rfl ?_
  refine z_getf (pc' := 4) C zci_5 zw_236 (j := 1) rfl h_a0 rfl rfl dX5_payerHolds_1 rfl ?_
  refine z_aload_n (pc' := 5) C 0 dX5_payerHolds_4 rfl rfl rfl ?_
  refine z_getf (pc' := 8) C zci_5 zw_239 (j := 2) rfl h_a0 rfl rfl dX5_payerHolds_5 rfl ?_
  refine z_getf (pc' := 11) C zci_1 zw_55 (j := 1) rfl h_a2 rfl rfl dX5_payerHolds_8 rfl ?_
  refine z_aload_n (pc' := 12) C 0 dX5_payerHolds_11 rfl rfl rfl ?_
  refine z_getf (pc' := 15) C zci_5 zw_250 (j := 6) rfl h_a0 rfl rfl dX5_payerHolds_12 rfl ?_
  refine z_getf (pc' := 18) C zci_0 zw_180 (j := 1) rfl h_a23 rfl rfl dX5_payerHolds_15 rfl ?_
  refine z_iload_n (pc' := 19) C 1 dX5_payerHolds_18 rfl rfl rfl ?_
  refine z_iald (pc' := 20) C hf h_a24 dX5_payerHolds_19 rfl (fun v_19 hf => ?_)
  refine z_iald (pc' := 21) C hf h_a3 dX5_payerHolds_20 rfl (fun v_20 hf => ?_)
  refine z_iconst (pc' := 22) C dX5_payerHolds_21 zk_iconst_1 rfl ?_
  refine z_iadd (pc' := 23) C dX5_payerHolds_22 rfl ?_
  refine z_lald (pc' := 24) C hf h_a1 dX5_payerHolds_23 rfl (fun v_23 hf => ?_)
  cases hf
  exact z_lret C rfl rfl dX5_payerHolds_24
set_option maxRecDepth 20000 in
theorem c_X5_transfer {w : zV} {N : Nat} {h : zH} {a : Nat} {pr_day : Int32} {pr_pricing : Nat} {pr_accounts : Nat → Int64} {co_count : Int32} {ce_count : Int32} {ce_contract : Nat → Int32} {ce_open : Nat → Int64} {co_parent : Nat → Int32} {p1 : Int32} {p2 : Int64} (h_a0 : zc N h (a + 0) (.inr (5, [.int pr_day, .ref (zo w + (a + 1)), .ref (zo w + (a + 2)), .ref (zo w + pr_pricing), .ref (zo w + (a + 13)), .ref (zo w + (a + 19)), .ref (zo w + (a + 23)), .ref (zo w + (a + 29)), .ref (zo w + (a + 34))]))) (h_a1 : zc N h (a + 1) (.inl (w.2.2.1 1, 9, .inr (.inl pr_accounts)))) (h_a2 : zc N h (a + 2) (.inr (1, [.int co_count, .ref (zo w + (a + 3)), .ref (zo w + (a + 4)), .ref (zo w + (a + 5)), .ref (zo w + (a + 6)), .ref (zo w + (a + 7)), .ref (zo w + (a + 8)), .ref (zo w + (a + 9))]))) (h_a3 : zc N h (a + 3) (.inl (w.2.2.1 0, 8, .inl co_parent))) (h_a23 : zc N h (a + 23) (.inr (0, [.int ce_count, .ref (zo w + (a + 24)), .ref (zo w + (a + 25)), .ref (zo w + (a + 26)), .ref (zo w + (a + 27)), .ref (zo w + (a + 28))]))) (h_a24 : zc N h (a + 24) (.inl (w.2.2.1 0, 40, .inl ce_contract))) (h_a26 : zc N h (a + 26) (.inl (w.2.2.1 1, 40, .inr (.inl ce_open)))) {r : (Nat → Int64) × (Nat → Int64)} (hf : f_X5_transfer pr_accounts co_parent ce_contract ce_open p1 p2 = some r) : zM w yX5_transfer cX5_transfer 5 none (zr 0 0) false N N h [.ref (zo w + a), .int p1, .long p2] (none) (zu h a [(1, .inl (w.2.2.1 1, 9, .inr (.inl r.1))), (26, .inl (w.2.2.1 1, 40, .inr (.inl r.2)))]) := by
  unfold f_X5_transfer at hf
  refine zM_of (by decide) rfl (fun X C _ => ?_)
  refine z_eq (h' := (zu h a [(1, .inl (w.2.2.1 1, 9, .inr (.inl pr_accounts))), (26, .inl (w.2.2.1 1, 40, .inr (.inl ce_open)))])) (zu_s h_a1 (zu_s h_a26 zu_0)).symm ?_
  have n_a1 := h_a1.1
  have n_a26 := h_a26.1
  refine z_pick (lv' := [(0, .ref (zo w + a)), (1, .int p1), (2, .long p2)]) [0, 1, 2] rfl ?_
  refine z_aload_n (pc' := 1) C 0 dX5_transfer_0 rfl rfl rfl ?_
  refine z_getf (pc' := 4) C zci_5 zw_250 (j := 6) rfl (zc_o (o := 0) h_a0 rfl) rfl rfl dX5_transfer_1 rfl ?_
  refine z_getf (pc' := 7) C zci_0 zw_180 (j := 1) rfl (zc_o (o := 23) h_a23 rfl) rfl rfl dX5_transfer_4 rfl ?_
  refine z_iload_n (pc' := 8) C 1 dX5_transfer_7 rfl rfl rfl ?_
  refine z_iald (pc' := 9) C hf (zc_o (o := 24) h_a24 rfl) dX5_transfer_8 rfl (fun v_8 hf => ?_)
  refine z_istore (pc' := 11) C [(4, .int v_8), (0, .ref (zo w + a)), (1, .int p1), (2, .long p2)] dX5_transfer_9 rfl rfl rfl ?_
  refine z_aload_n (pc' := 12) C 1 dX5_transfer_11 rfl rfl rfl ?_
  refine z_getf (pc' := 15) C zci_5 zw_236 (j := 1) rfl (zc_o (o := 0) h_a0 rfl) rfl rfl dX5_transfer_12 rfl ?_
  refine z_aload_n (pc' := 16) C 1 dX5_transfer_15 rfl rfl rfl ?_
  refine z_getf (pc' := 19) C zci_5 zw_239 (j := 2) rfl (zc_o (o := 0) h_a0 rfl) rfl rfl dX5_transfer_16 rfl ?_
  refine z_getf (pc' := 22) C zci_1 zw_55 (j := 1) rfl (zc_o (o := 2) h_a2 rfl) rfl rfl dX5_transfer_19 rfl ?_
  refine z_iload (pc' := 24) C 0 dX5_transfer_22 rfl rfl ?_
  refine z_iald (pc' := 25) C hf (zc_o (o := 3) h_a3 rfl) dX5_transfer_24 rfl (fun v_24 hf => ?_)
  refine z_iconst (pc' := 26) C dX5_transfer_25 zk_iconst_1 rfl ?_
  refine z_iadd (pc' := 27) C dX5_transfer_26 rfl ?_
  refine z_dup2 (pc' := 28) C dX5_transfer_27 rfl rfl rfl ?_
  refine z_lald (pc' := 29) C hf (zc_i (o := 1) n_a1 rfl) dX5_transfer_28 rfl (fun v_28 hf => ?_)
  refine z_lload_n (pc' := 30) C 3 dX5_transfer_29 rfl rfl rfl ?_
  refine z_lsub (pc' := 31) C dX5_transfer_30 rfl ?_
  refine z_last (pc' := 32) C hf (zc_i (o := 1) n_a1 rfl) (h' := fun v_31 => (zu h a [(1, .inl (w.2.2.1 1, 9, .inr (.inl v_31))), (26, .inl (w.2.2.1 1, 40, .inr (.inl ce_open)))])) (fun _ => zu_put (o := 1) rfl) dX5_transfer_31 rfl (fun v_31 hf => ?_)
  refine z_aload_n (pc' := 33) C 1 dX5_transfer_32 rfl rfl rfl ?_
  refine z_getf (pc' := 36) C zci_5 zw_236 (j := 1) rfl (zc_o (o := 0) h_a0 rfl) rfl rfl dX5_transfer_33 rfl ?_
  refine z_iload (pc' := 38) C 0 dX5_transfer_36 rfl rfl ?_
  refine z_iconst (pc' := 39) C dX5_transfer_38 zk_iconst_1 rfl ?_
  refine z_iadd (pc' := 40) C dX5_transfer_39 rfl ?_
  refine z_dup2 (pc' := 41) C dX5_transfer_40 rfl rfl rfl ?_
  refine z_lald (pc' := 42) C hf (zc_i (o := 1) n_a1 rfl) dX5_transfer_41 rfl (fun v_41 hf => ?_)
  refine z_lload_n (pc' := 43) C 3 dX5_transfer_42 rfl rfl rfl ?_
  refine z_ladd (pc' := 44) C dX5_transfer_43 rfl ?_
  refine z_last (pc' := 45) C hf (zc_i (o := 1) n_a1 rfl) (h' := fun v_44 => (zu h a [(1, .inl (w.2.2.1 1, 9, .inr (.inl v_44))), (26, .inl (w.2.2.1 1, 40, .inr (.inl ce_open)))])) (fun _ => zu_put (o := 1) rfl) dX5_transfer_44 rfl (fun v_44 hf => ?_)
  refine z_aload_n (pc' := 46) C 1 dX5_transfer_45 rfl rfl rfl ?_
  refine z_getf (pc' := 49) C zci_5 zw_250 (j := 6) rfl (zc_o (o := 0) h_a0 rfl) rfl rfl dX5_transfer_46 rfl ?_
  refine z_getf (pc' := 52) C zci_0 zw_185 (j := 3) rfl (zc_o (o := 23) h_a23 rfl) rfl rfl dX5_transfer_49 rfl ?_
  refine z_iload_n (pc' := 53) C 2 dX5_transfer_52 rfl rfl rfl ?_
  refine z_dup2 (pc' := 54) C dX5_transfer_53 rfl rfl rfl ?_
  refine z_lald (pc' := 55) C hf (zc_i (o := 26) n_a26 rfl) dX5_transfer_54 rfl (fun v_54 hf => ?_)
  refine z_lload_n (pc' := 56) C 3 dX5_transfer_55 rfl rfl rfl ?_
  refine z_lsub (pc' := 57) C dX5_transfer_56 rfl ?_
  refine z_last (pc' := 58) C hf (zc_i (o := 26) n_a26 rfl) (h' := fun v_57 => (zu h a [(1, .inl (w.2.2.1 1, 9, .inr (.inl v_44))), (26, .inl (w.2.2.1 1, 40, .inr (.inl v_57)))])) (fun _ => zu_put (o := 26) rfl) dX5_transfer_57 rfl (fun v_57 hf => ?_)
  cases hf
  exact z_vret C rfl rfl dX5_transfer_58
set_option maxRecDepth 20000 in
theorem c_X5_payFromAccount {w : zV} {N : Nat} {h : zH} {a : Nat} {pr_day : Int32} {pr_pricing : Nat} {pr_accounts : Nat → Int64} {co_count : Int32} {ce_count : Int32} {ce_contract : Nat → Int32} {ce_open : Nat → Int64} {ce_issued : Nat → Int32} {co_parent : Nat → Int32} {co_linked : Nat → Int32} {p1 : Int32} (h_a0 : zc N h (a + 0) (.inr (5, [.int pr_day, .ref (zo w + (a + 1)), .ref (zo w + (a + 2)), .ref (zo w + pr_pricing), .ref (zo w + (a + 13)), .ref (zo w + (a + 19)), .ref (zo w + (a + 23)), .ref (zo w + (a + 29)), .ref (zo w + (a + 34))]))) (h_a1 : zc N h (a + 1) (.inl (w.2.2.1 1, 9, .inr (.inl pr_accounts)))) (h_a2 : zc N h (a + 2) (.inr (1, [.int co_count, .ref (zo w + (a + 3)), .ref (zo w + (a + 4)), .ref (zo w + (a + 5)), .ref (zo w + (a + 6)), .ref (zo w + (a + 7)), .ref (zo w + (a + 8)), .ref (zo w + (a + 9))]))) (h_a3 : zc N h (a + 3) (.inl (w.2.2.1 0, 8, .inl co_parent))) (h_a8 : zc N h (a + 8) (.inl (w.2.2.1 3, 8, .inl co_linked))) (h_a23 : zc N h (a + 23) (.inr (0, [.int ce_count, .ref (zo w + (a + 24)), .ref (zo w + (a + 25)), .ref (zo w + (a + 26)), .ref (zo w + (a + 27)), .ref (zo w + (a + 28))]))) (h_a24 : zc N h (a + 24) (.inl (w.2.2.1 0, 40, .inl ce_contract))) (h_a26 : zc N h (a + 26) (.inl (w.2.2.1 1, 40, .inr (.inl ce_open)))) (h_a27 : zc N h (a + 27) (.inl (w.2.2.1 0, 40, .inl ce_issued))) {r : Int64 × (Nat → Int64) × (Nat → Int64)} (hf : f_X5_payFromAccount pr_accounts co_parent co_linked ce_count ce_contract ce_open ce_issued p1 = some r) : zM w yX5_payFromAccount cX5_payFromAccount 4 (some .long) (zr 2 61) false N N h [.ref (zo w + a), .int p1] (some (.long r.1)) (zu h a [(1, .inl (w.2.2.1 1, 9, .inr (.inl r.2.1))), (26, .inl (w.2.2.1 1, 40, .inr (.inl r.2.2)))]) := by
  unfold f_X5_payFromAccount at hf
  refine zM_of (by decide) rfl (fun X C _ => ?_)
  refine z_eq (h' := (zu h a [(1, .inl (w.2.2.1 1, 9, .inr (.inl pr_accounts))), (26, .inl (w.2.2.1 1, 40, .inr (.inl ce_open)))])) (zu_s h_a1 (zu_s h_a26 zu_0)).symm ?_
  have n_a1 := h_a1.1
  have n_a26 := h_a26.1
  refine z_pick (lv' := [(0, .ref (zo w + a)), (1, .int p1)]) [0, 1] rfl ?_
  refine z_aload_n (pc' := 1) C 0 dX5_payFromAccount_0 rfl rfl rfl ?_
  refine z_getf (pc' := 4) C zci_5 zw_250 (j := 6) rfl (zc_o (o := 0) h_a0 rfl) rfl rfl dX5_payFromAccount_1 rfl ?_
  refine z_getf (pc' := 7) C zci_0 zw_185 (j := 3) rfl (zc_o (o := 23) h_a23 rfl) rfl rfl dX5_payFromAccount_4 rfl ?_
  refine z_iload_n (pc' := 8) C 1 dX5_payFromAccount_7 rfl rfl rfl ?_
  refine z_lald (pc' := 9) C hf (zc_i (o := 26) n_a26 rfl) dX5_payFromAccount_8 rfl (fun v_8 hf => ?_)
  refine z_aload_n (pc' := 10) C 0 dX5_payFromAccount_9 rfl rfl rfl ?_
  refine z_iload_n (pc' := 11) C 1 dX5_payFromAccount_10 rfl rfl rfl ?_
  refine z_cV (pc' := 14) C hf (As := [.int p1]) (fun hq => c_X5_payerHolds (a := a) (zc_o (o := 0) h_a0 rfl) (zc_i (o := 1) n_a1 rfl) (zc_o (o := 2) h_a2 rfl) (zc_o (o := 3) h_a3 rfl) (zc_o (o := 23) h_a23 rfl) (zc_o (o := 24) h_a24 rfl) hq) (fun _ => (zu h a [(1, .inl (w.2.2.1 1, 9, .inr (.inl pr_accounts))), (26, .inl (w.2.2.1 1, 40, .inr (.inl ce_open)))])) (fun q_11 => [.long q_11, .long v_8]) (fun _ => rfl) (fun _ => rfl) zy_X5_payerHolds zw_952 zw_953 zw_954 (ci := 5) rfl (zc_o (o := 0) h_a0 rfl) ⟨rfl, rfl⟩ rfl rfl rfl rfl rfl dX5_payFromAccount_11 rfl (fun q_11 hf => ?_)
  refine z_lmin (pc' := 17) C zw_441 rfl rfl dX5_payFromAccount_14 rfl ?_
  refine z_lstore_n (pc' := 18) C [(2, .long (if q_11 < v_8 then q_11 else v_8)), (0, .ref (zo w + a)), (1, .int p1)] dX5_payFromAccount_17 rfl rfl rfl rfl ?_
  refine z_lload_n (pc' := 19) C 0 dX5_payFromAccount_18 rfl rfl rfl ?_
  refine z_lconst (pc' := 20) C dX5_payFromAccount_19 zl_0 rfl ?_
  refine z_lcmp_le (pc' := 24) C 32 hf dX5_payFromAccount_20 rfl dX5_payFromAccount_21 rfl rfl (fun g_20 hf => ?_) (fun g_20 hf => ?_)
  · refine z_lconst (pc' := 33) C dX5_payFromAccount_32 zl_0 rfl ?_
    cases hf
    exact z_lret C rfl rfl dX5_payFromAccount_33
  · refine z_aload_n (pc' := 25) C 1 dX5_payFromAccount_24 rfl rfl rfl ?_
    refine z_iload_n (pc' := 26) C 2 dX5_payFromAccount_25 rfl rfl rfl ?_
    refine z_cV (pc' := 29) C hf (As := [.int p1]) (fun hq => c_X5_isHeldBack (a := a) (zc_o (o := 0) h_a0 rfl) (zc_o (o := 2) h_a2 rfl) (zc_o (o := 3) h_a3 rfl) (zc_o (o := 8) h_a8 rfl) (zc_o (o := 23) h_a23 rfl) (zc_o (o := 24) h_a24 rfl) (zc_i (o := 26) n_a26 rfl) (zc_o (o := 27) h_a27 rfl) hq) (fun _ => (zu h a [(1, .inl (w.2.2.1 1, 9, .inr (.inl pr_accounts))), (26, .inl (w.2.2.1 1, 40, .inr (.inl ce_open)))])) (fun q_26 => [.int q_26]) (fun _ => rfl) (fun _ => rfl) zy_X5_isHeldBack zw_956 zw_918 zw_919 (ci := 5) rfl (zc_o (o := 0) h_a0 rfl) ⟨rfl, rfl⟩ rfl rfl rfl rfl rfl dX5_payFromAccount_26 rfl (fun q_26 hf => ?_)
    refine z_if_eq (pc' := 32) C 34 hf dX5_payFromAccount_29 rfl rfl (fun g_29 hf => ?_) (fun g_29 hf => ?_)
    · refine z_aload_n (pc' := 35) C 1 dX5_payFromAccount_34 rfl rfl rfl ?_
      refine z_iload_n (pc' := 36) C 2 dX5_payFromAccount_35 rfl rfl rfl ?_
      refine z_lload_n (pc' := 37) C 0 dX5_payFromAccount_36 rfl rfl rfl ?_
      refine z_cV (pc' := 40) C hf (As := [.int p1, .long (if q_11 < v_8 then q_11 else v_8)]) (fun hq => c_X5_transfer (a := a) (zc_o (o := 0) h_a0 rfl) (zc_i (o := 1) n_a1 rfl) (zc_o (o := 2) h_a2 rfl) (zc_o (o := 3) h_a3 rfl) (zc_o (o := 23) h_a23 rfl) (zc_o (o := 24) h_a24 rfl) (zc_i (o := 26) n_a26 rfl) hq) (fun q_37 => (zu h a [(1, .inl (w.2.2.1 1, 9, .inr (.inl q_37.1))), (26, .inl (w.2.2.1 1, 40, .inr (.inl q_37.2)))])) (fun q_37 => []) (fun _ => zu_sh (d := 0) rfl rfl) (fun _ => rfl) zy_X5_transfer zw_957 zw_958 zw_959 (ci := 5) rfl (zc_o (o := 0) h_a0 rfl) ⟨rfl, rfl⟩ rfl rfl rfl rfl rfl dX5_payFromAccount_37 rfl (fun q_37 hf => ?_)
      refine z_lload_n (pc' := 41) C 0 dX5_payFromAccount_40 rfl rfl rfl ?_
      cases hf
      exact z_lret C rfl rfl dX5_payFromAccount_41
    · refine z_lconst (pc' := 33) C dX5_payFromAccount_32 zl_0 rfl ?_
      cases hf
      exact z_lret C rfl rfl dX5_payFromAccount_33
set_option maxRecDepth 20000 in
theorem w_X5_settleOneDay_4 {X : zC} {w : zV} {N : Nat} {h : zH} {a : Nat} {pr_pricing : Nat} {co_count : Int32} {ce_count : Int32} {ce_contract : Nat → Int32} {ce_issued : Nat → Int32} {ce_due : Nat → Int32} {co_parent : Nat → Int32} {pr_order : Nat → Int32} {co_linked : Nat → Int32} (C : zK X w RX5 cX5_settleOneDay 4 (some .long) (zr 3 92)) (n_a0 : a + 0 < N) (n_a1 : a + 1 < N) (h_a2 : zc N h (a + 2) (.inr (1, [.int co_count, .ref (zo w + (a + 3)), .ref (zo w + (a + 4)), .ref (zo w + (a + 5)), .ref (zo w + (a + 6)), .ref (zo w + (a + 7)), .ref (zo w + (a + 8)), .ref (zo w + (a + 9))]))) (h_a3 : zc N h (a + 3) (.inl (w.2.2.1 0, 8, .inl co_parent))) (h_a8 : zc N h (a + 8) (.inl (w.2.2.1 3, 8, .inl co_linked))) (h_a23 : zc N h (a + 23) (.inr (0, [.int ce_count, .ref (zo w + (a + 24)), .ref (zo w + (a + 25)), .ref (zo w + (a + 26)), .ref (zo w + (a + 27)), .ref (zo w + (a + 28))]))) (h_a24 : zc N h (a + 24) (.inl (w.2.2.1 0, 40, .inl ce_contract))) (n_a26 : a + 26 < N) (h_a27 : zc N h (a + 27) (.inl (w.2.2.1 0, 40, .inl ce_issued))) (h_a28 : zc N h (a + 28) (.inl (w.2.2.1 0, 40, .inl ce_due))) (h_a34 : zc N h (a + 34) (.inl (w.2.2.1 0, 40, .inl pr_order))) {r : Int64 × Int32 × (Nat → Int64) × (Nat → Int64)} (n : Nat) : ∀ {pr_day : Int32} {pr_accounts : Nat → Int64} {ce_open : Nat → Int64} {x1 : Int64} {x3 : Int32}, f_X5_settleOneDay_4  n pr_day pr_accounts co_parent co_linked ce_count ce_contract ce_open ce_issued ce_due pr_order x1 x3 = some r → zZ X w (zQ X w (zr 3 92) (some (.long r.1)) false N (zu h a [(0, .inr (5, [.int r.2.1, .ref (zo w + (a + 1)), .ref (zo w + (a + 2)), .ref (zo w + pr_pricing), .ref (zo w + (a + 13)), .ref (zo w + (a + 19)), .ref (zo w + (a + 23)), .ref (zo w + (a + 29)), .ref (zo w + (a + 34))])), (1, .inl (w.2.2.1 1, 9, .inr (.inl r.2.2.1))), (26, .inl (w.2.2.1 1, 40, .inr (.inl r.2.2.2)))])) 0 0 false N (zu h a [(0, .inr (5, [.int pr_day, .ref (zo w + (a + 1)), .ref (zo w + (a + 2)), .ref (zo w + pr_pricing), .ref (zo w + (a + 13)), .ref (zo w + (a + 19)), .ref (zo w + (a + 23)), .ref (zo w + (a + 29)), .ref (zo w + (a + 34))])), (1, .inl (w.2.2.1 1, 9, .inr (.inl pr_accounts))), (26, .inl (w.2.2.1 1, 40, .inr (.inl ce_open)))]) 4 [(0, .ref (zo w + a)), (1, .long x1), (3, .int x3)] [] := by
  induction n with
  | zero =>
    intro pr_day pr_accounts ce_open x1 x3 hf
    have hf : (none : Option (Int64 × Int32 × (Nat → Int64) × (Nat → Int64))) = some r := hf
    cases hf
  | succ z ih =>
    intro pr_day pr_accounts ce_open x1 x3 hf
    rw [f_X5_settleOneDay_4] at hf
    refine z_iload_n (pc' := 5) C 2 dX5_settleOneDay_4 rfl rfl rfl ?_
    refine z_aload_n (pc' := 6) C 0 dX5_settleOneDay_5 rfl rfl rfl ?_
    refine z_getf (pc' := 9) C zci_5 zw_250 (j := 6) rfl (zc_i (o := 0) n_a0 rfl) rfl rfl dX5_settleOneDay_6 rfl ?_
    refine z_getf (pc' := 12) C zci_0 zw_177 (j := 0) rfl (zc_o (o := 23) h_a23 rfl) rfl rfl dX5_settleOneDay_9 rfl ?_
    refine z_icmp_ge (pc' := 15) C 55 hf dX5_settleOneDay_12 rfl rfl (fun g_12 hf => ?_) (fun g_12 hf => ?_)
    · refine z_aload_n (pc' := 56) C 0 dX5_settleOneDay_55 rfl rfl rfl ?_
      refine z_dup (pc' := 57) C dX5_settleOneDay_56 rfl rfl ?_
      refine z_getf (pc' := 60) C zci_5 zw_234 (j := 0) rfl (zc_i (o := 0) n_a0 rfl) rfl rfl dX5_settleOneDay_57 rfl ?_
      refine z_iconst (pc' := 61) C dX5_settleOneDay_60 zk_iconst_1 rfl ?_
      refine z_iadd (pc' := 62) C dX5_settleOneDay_61 rfl ?_
      refine z_putf (pc' := 65) C zci_5 zw_234 (j := 0) rfl (zc_i (o := 0) n_a0 rfl) (fs' := [.int (pr_day + (1 : Int32)), .ref (zo w + (a + 1)), .ref (zo w + (a + 2)), .ref (zo w + pr_pricing), .ref (zo w + (a + 13)), .ref (zo w + (a + 19)), .ref (zo w + (a + 23)), .ref (zo w + (a + 29)), .ref (zo w + (a + 34))]) rfl rfl rfl rfl rfl (zu_put (o := 0) (L' := [(0, .inr (5, [.int (pr_day + (1 : Int32)), .ref (zo w + (a + 1)), .ref (zo w + (a + 2)), .ref (zo w + pr_pricing), .ref (zo w + (a + 13)), .ref (zo w + (a + 19)), .ref (zo w + (a + 23)), .ref (zo w + (a + 29)), .ref (zo w + (a + 34))])), (1, .inl (w.2.2.1 1, 9, .inr (.inl pr_accounts))), (26, .inl (w.2.2.1 1, 40, .inr (.inl ce_open)))]) rfl) dX5_settleOneDay_62 rfl ?_
      refine z_lload_n (pc' := 66) C 1 dX5_settleOneDay_65 rfl rfl rfl ?_
      cases hf
      exact z_lret C rfl rfl dX5_settleOneDay_66
    · refine z_aload_n (pc' := 16) C 0 dX5_settleOneDay_15 rfl rfl rfl ?_
      refine z_getf (pc' := 19) C zci_5 zw_250 (j := 6) rfl (zc_i (o := 0) n_a0 rfl) rfl rfl dX5_settleOneDay_16 rfl ?_
      refine z_getf (pc' := 22) C zci_0 zw_190 (j := 5) rfl (zc_o (o := 23) h_a23 rfl) rfl rfl dX5_settleOneDay_19 rfl ?_
      refine z_aload_n (pc' := 23) C 0 dX5_settleOneDay_22 rfl rfl rfl ?_
      refine z_getf (pc' := 26) C zci_5 zw_254 (j := 8) rfl (zc_i (o := 0) n_a0 rfl) rfl rfl dX5_settleOneDay_23 rfl ?_
      refine z_iload_n (pc' := 27) C 2 dX5_settleOneDay_26 rfl rfl rfl ?_
      refine z_iald (pc' := 28) C hf (zc_o (o := 34) h_a34 rfl) dX5_settleOneDay_27 rfl (fun v_27 hf => ?_)
      refine z_iald (pc' := 29) C hf (zc_o (o := 28) h_a28 rfl) dX5_settleOneDay_28 rfl (fun v_28 hf => ?_)
      refine z_aload_n (pc' := 30) C 0 dX5_settleOneDay_29 rfl rfl rfl ?_
      refine z_getf (pc' := 33) C zci_5 zw_234 (j := 0) rfl (zc_i (o := 0) n_a0 rfl) rfl rfl dX5_settleOneDay_30 rfl ?_
      refine z_icmp_gt (pc' := 36) C 49 hf dX5_settleOneDay_33 rfl rfl (fun g_33 hf => ?_) (fun g_33 hf => ?_)
      · refine z_iinc (pc' := 52) C 2 [(3, .int (x3 + (1 : Int32))), (0, .ref (zo w + a)), (1, .long x1)] dX5_settleOneDay_49 rfl zk_iconst_1 rfl rfl rfl ?_
        refine z_goto C 4 dX5_settleOneDay_52 rfl ?_
        refine z_pick (lv' := [(0, .ref (zo w + a)), (1, .long x1), (3, .int (x3 + (1 : Int32)))]) [1, 2, 0] rfl ?_
        exact ih hf
      · refine z_lload_n (pc' := 37) C 1 dX5_settleOneDay_36 rfl rfl rfl ?_
        refine z_aload_n (pc' := 38) C 0 dX5_settleOneDay_37 rfl rfl rfl ?_
        refine z_aload_n (pc' := 39) C 0 dX5_settleOneDay_38 rfl rfl rfl ?_
        refine z_getf (pc' := 42) C zci_5 zw_254 (j := 8) rfl (zc_i (o := 0) n_a0 rfl) rfl rfl dX5_settleOneDay_39 rfl ?_
        refine z_iload_n (pc' := 43) C 2 dX5_settleOneDay_42 rfl rfl rfl ?_
        refine z_iald (pc' := 44) C hf (zc_o (o := 34) h_a34 rfl) dX5_settleOneDay_43 rfl (fun v_43 hf => ?_)
        refine z_cV (pc' := 47) C hf (As := [.int v_43]) (fun hq => c_X5_payFromAccount (a := a) (zc_i (o := 0) n_a0 rfl) (zc_i (o := 1) n_a1 rfl) (zc_o (o := 2) h_a2 rfl) (zc_o (o := 3) h_a3 rfl) (zc_o (o := 8) h_a8 rfl) (zc_o (o := 23) h_a23 rfl) (zc_o (o := 24) h_a24 rfl) (zc_i (o := 26) n_a26 rfl) (zc_o (o := 27) h_a27 rfl) hq) (fun q_44 => (zu h a [(0, .inr (5, [.int pr_day, .ref (zo w + (a + 1)), .ref (zo w + (a + 2)), .ref (zo w + pr_pricing), .ref (zo w + (a + 13)), .ref (zo w + (a + 19)), .ref (zo w + (a + 23)), .ref (zo w + (a + 29)), .ref (zo w + (a + 34))])), (1, .inl (w.2.2.1 1, 9, .inr (.inl q_44.2.1))), (26, .inl (w.2.2.1 1, 40, .inr (.inl q_44.2.2)))])) (fun q_44 => [.long q_44.1, .long x1]) (fun _ => zu_sh (d := 0) rfl rfl) (fun _ => rfl) zy_X5_payFromAccount zw_948 zw_949 zw_950 (ci := 5) rfl (zc_i (o := 0) n_a0 rfl) ⟨rfl, rfl⟩ rfl rfl rfl rfl rfl dX5_settleOneDay_44 rfl (fun q_44 hf => ?_)
        refine z_ladd (pc' := 48) C dX5_settleOneDay_47 rfl ?_
        refine z_lstore_n (pc' := 49) C [(1, .long (x1 + q_44.1)), (0, .ref (zo w + a)), (3, .int x3)] dX5_settleOneDay_48 rfl rfl rfl rfl ?_
        refine z_iinc (pc' := 52) C 2 [(3, .int (x3 + (1 : Int32))), (1, .long (x1 + q_44.1)), (0, .ref (zo w + a))] dX5_settleOneDay_49 rfl zk_iconst_1 rfl rfl rfl ?_
        refine z_goto C 4 dX5_settleOneDay_52 rfl ?_
        refine z_pick (lv' := [(0, .ref (zo w + a)), (1, .long (x1 + q_44.1)), (3, .int (x3 + (1 : Int32)))]) [2, 1, 0] rfl ?_
        exact ih hf
set_option maxRecDepth 20000 in
theorem c_X5_settleOneDay {w : zV} {N : Nat} {h : zH} {a : Nat} {pr_day : Int32} {pr_pricing : Nat} {pr_accounts : Nat → Int64} {co_count : Int32} {ce_count : Int32} {ce_contract : Nat → Int32} {ce_open : Nat → Int64} {ce_issued : Nat → Int32} {ce_due : Nat → Int32} {co_parent : Nat → Int32} {pr_order : Nat → Int32} {co_linked : Nat → Int32} (h_a0 : zc N h (a + 0) (.inr (5, [.int pr_day, .ref (zo w + (a + 1)), .ref (zo w + (a + 2)), .ref (zo w + pr_pricing), .ref (zo w + (a + 13)), .ref (zo w + (a + 19)), .ref (zo w + (a + 23)), .ref (zo w + (a + 29)), .ref (zo w + (a + 34))]))) (h_a1 : zc N h (a + 1) (.inl (w.2.2.1 1, 9, .inr (.inl pr_accounts)))) (h_a2 : zc N h (a + 2) (.inr (1, [.int co_count, .ref (zo w + (a + 3)), .ref (zo w + (a + 4)), .ref (zo w + (a + 5)), .ref (zo w + (a + 6)), .ref (zo w + (a + 7)), .ref (zo w + (a + 8)), .ref (zo w + (a + 9))]))) (h_a3 : zc N h (a + 3) (.inl (w.2.2.1 0, 8, .inl co_parent))) (h_a8 : zc N h (a + 8) (.inl (w.2.2.1 3, 8, .inl co_linked))) (h_a23 : zc N h (a + 23) (.inr (0, [.int ce_count, .ref (zo w + (a + 24)), .ref (zo w + (a + 25)), .ref (zo w + (a + 26)), .ref (zo w + (a + 27)), .ref (zo w + (a + 28))]))) (h_a24 : zc N h (a + 24) (.inl (w.2.2.1 0, 40, .inl ce_contract))) (h_a26 : zc N h (a + 26) (.inl (w.2.2.1 1, 40, .inr (.inl ce_open)))) (h_a27 : zc N h (a + 27) (.inl (w.2.2.1 0, 40, .inl ce_issued))) (h_a28 : zc N h (a + 28) (.inl (w.2.2.1 0, 40, .inl ce_due))) (h_a34 : zc N h (a + 34) (.inl (w.2.2.1 0, 40, .inl pr_order))) {r : Int64 × Int32 × (Nat → Int64) × (Nat → Int64)} (hf : f_X5_settleOneDay pr_day pr_accounts co_parent co_linked ce_count ce_contract ce_open ce_issued ce_due pr_order = some r) : zM w yX5_settleOneDay cX5_settleOneDay 4 (some .long) (zr 3 92) false N N h [.ref (zo w + a)] (some (.long r.1)) (zu h a [(0, .inr (5, [.int r.2.1, .ref (zo w + (a + 1)), .ref (zo w + (a + 2)), .ref (zo w + pr_pricing), .ref (zo w + (a + 13)), .ref (zo w + (a + 19)), .ref (zo w + (a + 23)), .ref (zo w + (a + 29)), .ref (zo w + (a + 34))])), (1, .inl (w.2.2.1 1, 9, .inr (.inl r.2.2.1))), (26, .inl (w.2.2.1 1, 40, .inr (.inl r.2.2.2)))]) := by
  unfold f_X5_settleOneDay at hf
  refine zM_of (by decide) rfl (fun X C _ => ?_)
  refine z_eq (h' := (zu h a [(0, .inr (5, [.int pr_day, .ref (zo w + (a + 1)), .ref (zo w + (a + 2)), .ref (zo w + pr_pricing), .ref (zo w + (a + 13)), .ref (zo w + (a + 19)), .ref (zo w + (a + 23)), .ref (zo w + (a + 29)), .ref (zo w + (a + 34))])), (1, .inl (w.2.2.1 1, 9, .inr (.inl pr_accounts))), (26, .inl (w.2.2.1 1, 40, .inr (.inl ce_open)))])) (zu_s h_a0 (zu_s h_a1 (zu_s h_a26 zu_0))).symm ?_
  have n_a0 := h_a0.1
  have n_a1 := h_a1.1
  have n_a26 := h_a26.1
  refine z_pick (lv' := [(0, .ref (zo w + a))]) [0] rfl ?_
  refine z_lconst (pc' := 1) C dX5_settleOneDay_0 zl_0 rfl ?_
  refine z_lstore_n (pc' := 2) C [(1, .long (0 : Int64)), (0, .ref (zo w + a))] dX5_settleOneDay_1 rfl rfl rfl rfl ?_
  refine z_iconst (pc' := 3) C dX5_settleOneDay_2 zk_iconst_0 rfl ?_
  refine z_istore_n (pc' := 4) C [(3, .int (0 : Int32)), (1, .long (0 : Int64)), (0, .ref (zo w + a))] dX5_settleOneDay_3 rfl rfl rfl rfl ?_
  refine z_pick (lv' := [(0, .ref (zo w + a)), (1, .long (0 : Int64)), (3, .int (0 : Int32))]) [2, 1, 0] rfl ?_
  exact w_X5_settleOneDay_4 C n_a0 n_a1 h_a2 h_a3 h_a8 h_a23 h_a24 n_a26 h_a27 h_a28 h_a34  FU hf
set_option maxRecDepth 20000 in
theorem w_X5_settleUntilPaid_24 {X : zC} {w : zV} {N : Nat} {h : zH} {a : Nat} {pr_pricing : Nat} {co_count : Int32} {ce_count : Int32} {ce_contract : Nat → Int32} {ce_issued : Nat → Int32} {ce_due : Nat → Int32} {co_parent : Nat → Int32} {co_linked : Nat → Int32} (C : zK X w RX5 cX5_settleUntilPaid 9 (some .long) (zr 4 123)) (n_a0 : a + 0 < N) (n_a1 : a + 1 < N) (h_a2 : zc N h (a + 2) (.inr (1, [.int co_count, .ref (zo w + (a + 3)), .ref (zo w + (a + 4)), .ref (zo w + (a + 5)), .ref (zo w + (a + 6)), .ref (zo w + (a + 7)), .ref (zo w + (a + 8)), .ref (zo w + (a + 9))]))) (h_a3 : zc N h (a + 3) (.inl (w.2.2.1 0, 8, .inl co_parent))) (h_a8 : zc N h (a + 8) (.inl (w.2.2.1 3, 8, .inl co_linked))) (h_a23 : zc N h (a + 23) (.inr (0, [.int ce_count, .ref (zo w + (a + 24)), .ref (zo w + (a + 25)), .ref (zo w + (a + 26)), .ref (zo w + (a + 27)), .ref (zo w + (a + 28))]))) (h_a24 : zc N h (a + 24) (.inl (w.2.2.1 0, 40, .inl ce_contract))) (n_a26 : a + 26 < N) (h_a27 : zc N h (a + 27) (.inl (w.2.2.1 0, 40, .inl ce_issued))) (h_a28 : zc N h (a + 28) (.inl (w.2.2.1 0, 40, .inl ce_due))) (n_a34 : a + 34 < N) {r : Int64 × Int32 × (Nat → Int64) × (Nat → Int64) × (Nat → Int32)} (n : Nat) : ∀ {pr_day : Int32} {pr_accounts : Nat → Int64} {ce_open : Nat → Int64} {pr_order : Nat → Int32} {x1 : Int32} {x2 : Int32} {x3 : Int32} {x4 : Int64} {x6 : Int32}, f_X5_settleUntilPaid_24  n pr_day pr_accounts co_parent co_linked ce_count ce_contract ce_open ce_issued ce_due pr_order x1 x2 x3 x4 x6 = some r → zZ X w (zQ X w (zr 4 123) (some (.long r.1)) false N (zu h a [(0, .inr (5, [.int r.2.1, .ref (zo w + (a + 1)), .ref (zo w + (a + 2)), .ref (zo w + pr_pricing), .ref (zo w + (a + 13)), .ref (zo w + (a + 19)), .ref (zo w + (a + 23)), .ref (zo w + (a + 29)), .ref (zo w + (a + 34))])), (1, .inl (w.2.2.1 1, 9, .inr (.inl r.2.2.1))), (26, .inl (w.2.2.1 1, 40, .inr (.inl r.2.2.2.1))), (34, .inl (w.2.2.1 0, 40, .inl r.2.2.2.2))])) 0 0 false N (zu h a [(0, .inr (5, [.int pr_day, .ref (zo w + (a + 1)), .ref (zo w + (a + 2)), .ref (zo w + pr_pricing), .ref (zo w + (a + 13)), .ref (zo w + (a + 19)), .ref (zo w + (a + 23)), .ref (zo w + (a + 29)), .ref (zo w + (a + 34))])), (1, .inl (w.2.2.1 1, 9, .inr (.inl pr_accounts))), (26, .inl (w.2.2.1 1, 40, .inr (.inl ce_open))), (34, .inl (w.2.2.1 0, 40, .inl pr_order))]) 24 [(0, .ref (zo w + a)), (1, .int x1), (2, .int x2), (3, .int x3), (4, .long x4), (6, .int x6)] [] := by
  induction n with
  | zero =>
    intro pr_day pr_accounts ce_open pr_order x1 x2 x3 x4 x6 hf
    have hf : (none : Option (Int64 × Int32 × (Nat → Int64) × (Nat → Int64) × (Nat → Int32))) = some r := hf
    cases hf
  | succ z ih =>
    intro pr_day pr_accounts ce_open pr_order x1 x2 x3 x4 x6 hf
    rw [f_X5_settleUntilPaid_24] at hf
    refine z_iload (pc' := 26) C 5 dX5_settleUntilPaid_24 rfl rfl ?_
    refine z_iload_n (pc' := 27) C 1 dX5_settleUntilPaid_26 rfl rfl rfl ?_
    refine z_icmp_ge (pc' := 30) C 91 hf dX5_settleUntilPaid_27 rfl rfl (fun g_27 hf => ?_) (fun g_27 hf => ?_)
    · refine z_lload (pc' := 93) C 4 dX5_settleUntilPaid_91 rfl rfl ?_
      cases hf
      exact z_lret C rfl rfl dX5_settleUntilPaid_93
    · refine z_aload_n (pc' := 31) C 0 dX5_settleUntilPaid_30 rfl rfl rfl ?_
      refine z_getf (pc' := 34) C zci_5 zw_234 (j := 0) rfl (zc_i (o := 0) n_a0 rfl) rfl rfl dX5_settleUntilPaid_31 rfl ?_
      refine z_iload_n (pc' := 35) C 3 dX5_settleUntilPaid_34 rfl rfl rfl ?_
      refine z_icmp_ge (pc' := 38) C 91 hf dX5_settleUntilPaid_35 rfl rfl (fun g_35 hf => ?_) (fun g_35 hf => ?_)
      · refine z_lload (pc' := 93) C 4 dX5_settleUntilPaid_91 rfl rfl ?_
        cases hf
        exact z_lret C rfl rfl dX5_settleUntilPaid_93
      · refine z_aload_n (pc' := 39) C 0 dX5_settleUntilPaid_38 rfl rfl rfl ?_
        refine z_getf (pc' := 42) C zci_5 zw_250 (j := 6) rfl (zc_i (o := 0) n_a0 rfl) rfl rfl dX5_settleUntilPaid_39 rfl ?_
        refine z_iload_n (pc' := 43) C 2 dX5_settleUntilPaid_42 rfl rfl rfl ?_
        refine z_cV (pc' := 46) C hf (As := [.int x2]) (fun hq => c_X0_isPaid (a := (a + 23)) (zc_o (o := 23) h_a23 rfl) (zc_i (o := 26) n_a26 rfl) hq) (fun _ => (zu h a [(0, .inr (5, [.int pr_day, .ref (zo w + (a + 1)), .ref (zo w + (a + 2)), .ref (zo w + pr_pricing), .ref (zo w + (a + 13)), .ref (zo w + (a + 19)), .ref (zo w + (a + 23)), .ref (zo w + (a + 29)), .ref (zo w + (a + 34))])), (1, .inl (w.2.2.1 1, 9, .inr (.inl pr_accounts))), (26, .inl (w.2.2.1 1, 40, .inr (.inl ce_open))), (34, .inl (w.2.2.1 0, 40, .inl pr_order))])) (fun q_43 => [.int q_43]) (fun _ => rfl) (fun _ => rfl) zy_X0_isPaid zw_940 zw_941 zw_942 (ci := 0) rfl (zc_o (o := 23) h_a23 rfl) ⟨rfl, rfl⟩ rfl rfl rfl rfl rfl dX5_settleUntilPaid_43 rfl (fun q_43 hf => ?_)
        refine z_if_ne (pc' := 49) C 91 hf dX5_settleUntilPaid_46 rfl rfl (fun g_46 hf => ?_) (fun g_46 hf => ?_)
        · refine z_lload (pc' := 93) C 4 dX5_settleUntilPaid_91 rfl rfl ?_
          cases hf
          exact z_lret C rfl rfl dX5_settleUntilPaid_93
        · refine z_aload_n (pc' := 50) C 0 dX5_settleUntilPaid_49 rfl rfl rfl ?_
          refine z_cV (pc' := 53) C hf (As := []) (fun hq => c_X5_settleOneDay (a := a) (zc_i (o := 0) n_a0 rfl) (zc_i (o := 1) n_a1 rfl) (zc_o (o := 2) h_a2 rfl) (zc_o (o := 3) h_a3 rfl) (zc_o (o := 8) h_a8 rfl) (zc_o (o := 23) h_a23 rfl) (zc_o (o := 24) h_a24 rfl) (zc_i (o := 26) n_a26 rfl) (zc_o (o := 27) h_a27 rfl) (zc_o (o := 28) h_a28 rfl) (zc_i (o := 34) n_a34 rfl) hq) (fun q_50 => (zu h a [(0, .inr (5, [.int q_50.2.1, .ref (zo w + (a + 1)), .ref (zo w + (a + 2)), .ref (zo w + pr_pricing), .ref (zo w + (a + 13)), .ref (zo w + (a + 19)), .ref (zo w + (a + 23)), .ref (zo w + (a + 29)), .ref (zo w + (a + 34))])), (1, .inl (w.2.2.1 1, 9, .inr (.inl q_50.2.2.1))), (26, .inl (w.2.2.1 1, 40, .inr (.inl q_50.2.2.2))), (34, .inl (w.2.2.1 0, 40, .inl pr_order))])) (fun q_50 => [.long q_50.1]) (fun _ => zu_sh (d := 0) rfl rfl) (fun _ => rfl) zy_X5_settleOneDay zw_944 zw_945 zw_946 (ci := 5) rfl (zc_i (o := 0) n_a0 rfl) ⟨rfl, rfl⟩ rfl rfl rfl rfl rfl dX5_settleUntilPaid_50 rfl (fun q_50 hf => ?_)
          refine z_lstore (pc' := 55) C [(7, .long q_50.1), (0, .ref (zo w + a)), (1, .int x1), (2, .int x2), (3, .int x3), (4, .long x4), (6, .int x6)] dX5_settleUntilPaid_53 rfl rfl rfl ?_
          refine z_lload (pc' := 57) C 5 dX5_settleUntilPaid_55 rfl rfl ?_
          refine z_lload (pc' := 59) C 0 dX5_settleUntilPaid_57 rfl rfl ?_
          refine z_ladd (pc' := 60) C dX5_settleUntilPaid_59 rfl ?_
          refine z_lstore (pc' := 62) C [(4, .long (x4 + q_50.1)), (7, .long q_50.1), (0, .ref (zo w + a)), (1, .int x1), (2, .int x2), (3, .int x3), (6, .int x6)] dX5_settleUntilPaid_60 rfl rfl rfl ?_
          refine z_lload (pc' := 64) C 1 dX5_settleUntilPaid_62 rfl rfl ?_
          refine z_lconst (pc' := 65) C dX5_settleUntilPaid_64 zl_0 rfl ?_
          refine z_lcmp_ne (pc' := 69) C 85 hf dX5_settleUntilPaid_65 rfl dX5_settleUntilPaid_66 rfl rfl (fun g_65 hf => ?_) (fun g_65 hf => ?_)
          · refine z_iinc (pc' := 88) C 6 [(6, .int (x6 + (1 : Int32))), (4, .long (x4 + q_50.1)), (7, .long q_50.1), (0, .ref (zo w + a)), (1, .int x1), (2, .int x2), (3, .int x3)] dX5_settleUntilPaid_85 rfl zk_iconst_1 rfl rfl rfl ?_
            refine z_goto C 24 dX5_settleUntilPaid_88 rfl ?_
            refine z_pick (lv' := [(0, .ref (zo w + a)), (1, .int x1), (2, .int x2), (3, .int x3), (4, .long (x4 + q_50.1)), (6, .int (x6 + (1 : Int32)))]) [3, 4, 5, 6, 1, 0] rfl ?_
            exact ih hf
          · refine z_aload_n (pc' := 70) C 2 dX5_settleUntilPaid_69 rfl rfl rfl ?_
            refine z_aload_n (pc' := 71) C 2 dX5_settleUntilPaid_70 rfl rfl rfl ?_
            refine z_getf (pc' := 74) C zci_5 zw_250 (j := 6) rfl (zc_i (o := 0) n_a0 rfl) rfl rfl dX5_settleUntilPaid_71 rfl ?_
            refine z_aload_n (pc' := 75) C 2 dX5_settleUntilPaid_74 rfl rfl rfl ?_
            refine z_getf (pc' := 78) C zci_5 zw_234 (j := 0) rfl (zc_i (o := 0) n_a0 rfl) rfl rfl dX5_settleUntilPaid_75 rfl ?_
            refine z_iload_n (pc' := 79) C 5 dX5_settleUntilPaid_78 rfl rfl rfl ?_
            refine z_cV (pc' := 82) C hf (As := [.int q_50.2.1, .int x3]) (fun hq => c_X0_nextDueDay (a := (a + 23)) (zc_o (o := 23) h_a23 rfl) (zc_o (o := 28) h_a28 rfl) hq) (fun _ => (zu h a [(0, .inr (5, [.int q_50.2.1, .ref (zo w + (a + 1)), .ref (zo w + (a + 2)), .ref (zo w + pr_pricing), .ref (zo w + (a + 13)), .ref (zo w + (a + 19)), .ref (zo w + (a + 23)), .ref (zo w + (a + 29)), .ref (zo w + (a + 34))])), (1, .inl (w.2.2.1 1, 9, .inr (.inl q_50.2.2.1))), (26, .inl (w.2.2.1 1, 40, .inr (.inl q_50.2.2.2))), (34, .inl (w.2.2.1 0, 40, .inl pr_order))])) (fun q_79 => [.int q_79, .ref (zo w + a)]) (fun _ => rfl) (fun _ => rfl) zy_X0_nextDueDay zw_961 zw_962 zw_963 (ci := 0) rfl (zc_o (o := 23) h_a23 rfl) ⟨rfl, rfl⟩ rfl rfl rfl rfl rfl dX5_settleUntilPaid_79 rfl (fun q_79 hf => ?_)
            refine z_putf (pc' := 85) C zci_5 zw_234 (j := 0) rfl (zc_i (o := 0) n_a0 rfl) (fs' := [.int q_79, .ref (zo w + (a + 1)), .ref (zo w + (a + 2)), .ref (zo w + pr_pricing), .ref (zo w + (a + 13)), .ref (zo w + (a + 19)), .ref (zo w + (a + 23)), .ref (zo w + (a + 29)), .ref (zo w + (a + 34))]) rfl rfl rfl rfl rfl (zu_put (o := 0) (L' := [(0, .inr (5, [.int q_79, .ref (zo w + (a + 1)), .ref (zo w + (a + 2)), .ref (zo w + pr_pricing), .ref (zo w + (a + 13)), .ref (zo w + (a + 19)), .ref (zo w + (a + 23)), .ref (zo w + (a + 29)), .ref (zo w + (a + 34))])), (1, .inl (w.2.2.1 1, 9, .inr (.inl q_50.2.2.1))), (26, .inl (w.2.2.1 1, 40, .inr (.inl q_50.2.2.2))), (34, .inl (w.2.2.1 0, 40, .inl pr_order))]) rfl) dX5_settleUntilPaid_82 rfl ?_
            refine z_iinc (pc' := 88) C 6 [(6, .int (x6 + (1 : Int32))), (4, .long (x4 + q_50.1)), (7, .long q_50.1), (0, .ref (zo w + a)), (1, .int x1), (2, .int x2), (3, .int x3)] dX5_settleUntilPaid_85 rfl zk_iconst_1 rfl rfl rfl ?_
            refine z_goto C 24 dX5_settleUntilPaid_88 rfl ?_
            refine z_pick (lv' := [(0, .ref (zo w + a)), (1, .int x1), (2, .int x2), (3, .int x3), (4, .long (x4 + q_50.1)), (6, .int (x6 + (1 : Int32)))]) [3, 4, 5, 6, 1, 0] rfl ?_
            exact ih hf
set_option maxRecDepth 20000 in
theorem c_X5_settleUntilPaid {w : zV} {N : Nat} {h : zH} {a : Nat} {pr_day : Int32} {pr_pricing : Nat} {pr_accounts : Nat → Int64} {co_count : Int32} {ce_count : Int32} {ce_contract : Nat → Int32} {ce_open : Nat → Int64} {ce_issued : Nat → Int32} {ce_due : Nat → Int32} {co_parent : Nat → Int32} {pr_order : Nat → Int32} {co_linked : Nat → Int32} {p1 : Int32} {p2 : Int32} (h_a0 : zc N h (a + 0) (.inr (5, [.int pr_day, .ref (zo w + (a + 1)), .ref (zo w + (a + 2)), .ref (zo w + pr_pricing), .ref (zo w + (a + 13)), .ref (zo w + (a + 19)), .ref (zo w + (a + 23)), .ref (zo w + (a + 29)), .ref (zo w + (a + 34))]))) (h_a1 : zc N h (a + 1) (.inl (w.2.2.1 1, 9, .inr (.inl pr_accounts)))) (h_a2 : zc N h (a + 2) (.inr (1, [.int co_count, .ref (zo w + (a + 3)), .ref (zo w + (a + 4)), .ref (zo w + (a + 5)), .ref (zo w + (a + 6)), .ref (zo w + (a + 7)), .ref (zo w + (a + 8)), .ref (zo w + (a + 9))]))) (h_a3 : zc N h (a + 3) (.inl (w.2.2.1 0, 8, .inl co_parent))) (h_a8 : zc N h (a + 8) (.inl (w.2.2.1 3, 8, .inl co_linked))) (h_a23 : zc N h (a + 23) (.inr (0, [.int ce_count, .ref (zo w + (a + 24)), .ref (zo w + (a + 25)), .ref (zo w + (a + 26)), .ref (zo w + (a + 27)), .ref (zo w + (a + 28))]))) (h_a24 : zc N h (a + 24) (.inl (w.2.2.1 0, 40, .inl ce_contract))) (h_a26 : zc N h (a + 26) (.inl (w.2.2.1 1, 40, .inr (.inl ce_open)))) (h_a27 : zc N h (a + 27) (.inl (w.2.2.1 0, 40, .inl ce_issued))) (h_a28 : zc N h (a + 28) (.inl (w.2.2.1 0, 40, .inl ce_due))) (h_a34 : zc N h (a + 34) (.inl (w.2.2.1 0, 40, .inl pr_order))) {r : Int64 × Int32 × (Nat → Int64) × (Nat → Int64) × (Nat → Int32)} (hf : f_X5_settleUntilPaid pr_day pr_accounts co_parent co_linked ce_count ce_contract ce_open ce_issued ce_due pr_order p1 p2 = some r) : zM w yX5_settleUntilPaid cX5_settleUntilPaid 9 (some .long) (zr 4 123) false N N h [.ref (zo w + a), .int p1, .int p2] (some (.long r.1)) (zu h a [(0, .inr (5, [.int r.2.1, .ref (zo w + (a + 1)), .ref (zo w + (a + 2)), .ref (zo w + pr_pricing), .ref (zo w + (a + 13)), .ref (zo w + (a + 19)), .ref (zo w + (a + 23)), .ref (zo w + (a + 29)), .ref (zo w + (a + 34))])), (1, .inl (w.2.2.1 1, 9, .inr (.inl r.2.2.1))), (26, .inl (w.2.2.1 1, 40, .inr (.inl r.2.2.2.1))), (34, .inl (w.2.2.1 0, 40, .inl r.2.2.2.2))]) := by
  unfold f_X5_settleUntilPaid at hf
  refine zM_of (by decide) rfl (fun X C _ => ?_)
  refine z_eq (h' := (zu h a [(0, .inr (5, [.int pr_day, .ref (zo w + (a + 1)), .ref (zo w + (a + 2)), .ref (zo w + pr_pricing), .ref (zo w + (a + 13)), .ref (zo w + (a + 19)), .ref (zo w + (a + 23)), .ref (zo w + (a + 29)), .ref (zo w + (a + 34))])), (1, .inl (w.2.2.1 1, 9, .inr (.inl pr_accounts))), (26, .inl (w.2.2.1 1, 40, .inr (.inl ce_open))), (34, .inl (w.2.2.1 0, 40, .inl pr_order))])) (zu_s h_a0 (zu_s h_a1 (zu_s h_a26 (zu_s h_a34 zu_0)))).symm ?_
  have n_a0 := h_a0.1
  have n_a1 := h_a1.1
  have n_a26 := h_a26.1
  have n_a34 := h_a34.1
  refine z_pick (lv' := [(0, .ref (zo w + a)), (1, .int p1), (2, .int p2)]) [0, 1, 2] rfl ?_
  refine z_aload_n (pc' := 1) C 0 dX5_settleUntilPaid_0 rfl rfl rfl ?_
  refine z_getf (pc' := 4) C zci_5 zw_250 (j := 6) rfl (zc_i (o := 0) n_a0 rfl) rfl rfl dX5_settleUntilPaid_1 rfl ?_
  refine z_aload_n (pc' := 5) C 0 dX5_settleUntilPaid_4 rfl rfl rfl ?_
  refine z_getf (pc' := 8) C zci_5 zw_254 (j := 8) rfl (zc_i (o := 0) n_a0 rfl) rfl rfl dX5_settleUntilPaid_5 rfl ?_
  refine z_cV (pc' := 11) C hf (As := [.ref (zo w + (a + 34))]) (fun hq => c_X0_sortByDueDay (a := (a + 23)) (b1 := (a + 34)) (zc_o (o := 23) h_a23 rfl) (zc_o (o := 28) h_a28 rfl) (zc_i (o := 34) n_a34 rfl) (by omega) hq) (fun q_8 => (zu h a [(0, .inr (5, [.int pr_day, .ref (zo w + (a + 1)), .ref (zo w + (a + 2)), .ref (zo w + pr_pricing), .ref (zo w + (a + 13)), .ref (zo w + (a + 19)), .ref (zo w + (a + 23)), .ref (zo w + (a + 29)), .ref (zo w + (a + 34))])), (1, .inl (w.2.2.1 1, 9, .inr (.inl pr_accounts))), (26, .inl (w.2.2.1 1, 40, .inr (.inl ce_open))), (34, .inl (w.2.2.1 0, 40, .inl q_8))])) (fun q_8 => []) (fun _ => zu_sh (d := 34) rfl rfl) (fun _ => rfl) zy_X0_sortByDueDay zw_936 zw_937 zw_938 (ci := 0) rfl (zc_o (o := 23) h_a23 rfl) ⟨rfl, rfl⟩ rfl rfl rfl rfl rfl dX5_settleUntilPaid_8 rfl (fun q_8 hf => ?_)
  refine z_aload_n (pc' := 12) C 0 dX5_settleUntilPaid_11 rfl rfl rfl ?_
  refine z_getf (pc' := 15) C zci_5 zw_234 (j := 0) rfl (zc_i (o := 0) n_a0 rfl) rfl rfl dX5_settleUntilPaid_12 rfl ?_
  refine z_iload_n (pc' := 16) C 1 dX5_settleUntilPaid_15 rfl rfl rfl ?_
  refine z_iadd (pc' := 17) C dX5_settleUntilPaid_16 rfl ?_
  refine z_istore_n (pc' := 18) C [(3, .int (pr_day + p1)), (0, .ref (zo w + a)), (1, .int p1), (2, .int p2)] dX5_settleUntilPaid_17 rfl rfl rfl rfl ?_
  refine z_lconst (pc' := 19) C dX5_settleUntilPaid_18 zl_0 rfl ?_
  refine z_lstore (pc' := 21) C [(4, .long (0 : Int64)), (3, .int (pr_day + p1)), (0, .ref (zo w + a)), (1, .int p1), (2, .int p2)] dX5_settleUntilPaid_19 rfl rfl rfl ?_
  refine z_iconst (pc' := 22) C dX5_settleUntilPaid_21 zk_iconst_0 rfl ?_
  refine z_istore (pc' := 24) C [(6, .int (0 : Int32)), (4, .long (0 : Int64)), (3, .int (pr_day + p1)), (0, .ref (zo w + a)), (1, .int p1), (2, .int p2)] dX5_settleUntilPaid_22 rfl rfl rfl ?_
  refine z_pick (lv' := [(0, .ref (zo w + a)), (1, .int p1), (2, .int p2), (3, .int (pr_day + p1)), (4, .long (0 : Int64)), (6, .int (0 : Int32))]) [3, 4, 5, 2, 1, 0] rfl ?_
  exact w_X5_settleUntilPaid_24 C n_a0 n_a1 h_a2 h_a3 h_a8 h_a23 h_a24 n_a26 h_a27 h_a28 n_a34  FU hf
set_option maxRecDepth 20000 in
theorem c_X5_claimOf {w : zV} {N : Nat} {h : zH} {a : Nat} {pr_day : Int32} {pr_pricing : Nat} {ce_count : Int32} {ce_contract : Nat → Int32} {ce_open : Nat → Int64} {li_count : Int32} {li_contract : Nat → Int32} {li_amount : Nat → Int64} {li_withdrawn : Nat → Int32} {p1 : Int32} (h_a0 : zc N h (a + 0) (.inr (5, [.int pr_day, .ref (zo w + (a + 1)), .ref (zo w + (a + 2)), .ref (zo w + pr_pricing), .ref (zo w + (a + 13)), .ref (zo w + (a + 19)), .ref (zo w + (a + 23)), .ref (zo w + (a + 29)), .ref (zo w + (a + 34))]))) (h_a23 : zc N h (a + 23) (.inr (0, [.int ce_count, .ref (zo w + (a + 24)), .ref (zo w + (a + 25)), .ref (zo w + (a + 26)), .ref (zo w + (a + 27)), .ref (zo w + (a + 28))]))) (h_a24 : zc N h (a + 24) (.inl (w.2.2.1 0, 40, .inl ce_contract))) (h_a26 : zc N h (a + 26) (.inl (w.2.2.1 1, 40, .inr (.inl ce_open)))) (h_a29 : zc N h (a + 29) (.inr (3, [.int li_count, .ref (zo w + (a + 30)), .ref (zo w + (a + 31)), .ref (zo w + (a + 32)), .ref (zo w + (a + 33))]))) (h_a30 : zc N h (a + 30) (.inl (w.2.2.1 0, 12, .inl li_contract))) (h_a31 : zc N h (a + 31) (.inl (w.2.2.1 1, 12, .inr (.inl li_amount)))) (h_a33 : zc N h (a + 33) (.inl (w.2.2.1 3, 12, .inl li_withdrawn))) {r : Int64} (hf : f_X5_claimOf ce_count ce_contract ce_open li_contract li_amount li_withdrawn p1 = some r) : zM w yX5_claimOf cX5_claimOf 2 (some .long) (zr 1 40) false N N h [.ref (zo w + a), .int p1] (some (.long r)) h := by
  unfold f_X5_claimOf at hf
  refine zM_of (by decide) rfl (fun X C _ => ?_)
  refine z_pick (lv' := [(0, .ref (zo w + a)), (1, .int p1)]) [0, 1] rfl ?_
  refine z_aload_n (pc' := 1) C 0 dX5_claimOf_0 rfl rfl rfl ?_
  refine z_getf (pc' := 4) C zci_5 zw_252 (j := 7) rfl h_a0 rfl rfl dX5_claimOf_1 rfl ?_
  refine z_getf (pc' := 7) C zci_3 zw_221 (j := 4) rfl h_a29 rfl rfl dX5_claimOf_4 rfl ?_
  refine z_iload_n (pc' := 8) C 1 dX5_claimOf_7 rfl rfl rfl ?_
  refine z_zald (pc' := 9) C hf h_a33 dX5_claimOf_8 rfl (fun v_8 hf => ?_)
  refine z_if_eq (pc' := 12) C 14 hf dX5_claimOf_9 rfl rfl (fun g_9 hf => ?_) (fun g_9 hf => ?_)
  · refine z_aload_n (pc' := 15) C 0 dX5_claimOf_14 rfl rfl rfl ?_
    refine z_getf (pc' := 18) C zci_5 zw_252 (j := 7) rfl h_a0 rfl rfl dX5_claimOf_15 rfl ?_
    refine z_getf (pc' := 21) C zci_3 zw_217 (j := 2) rfl h_a29 rfl rfl dX5_claimOf_18 rfl ?_
    refine z_iload_n (pc' := 22) C 1 dX5_claimOf_21 rfl rfl rfl ?_
    refine z_lald (pc' := 23) C hf h_a31 dX5_claimOf_22 rfl (fun v_22 hf => ?_)
    refine z_aload_n (pc' := 24) C 0 dX5_claimOf_23 rfl rfl rfl ?_
    refine z_getf (pc' := 27) C zci_5 zw_250 (j := 6) rfl h_a0 rfl rfl dX5_claimOf_24 rfl ?_
    refine z_aload_n (pc' := 28) C 0 dX5_claimOf_27 rfl rfl rfl ?_
    refine z_getf (pc' := 31) C zci_5 zw_252 (j := 7) rfl h_a0 rfl rfl dX5_claimOf_28 rfl ?_
    refine z_getf (pc' := 34) C zci_3 zw_215 (j := 1) rfl h_a29 rfl rfl dX5_claimOf_31 rfl ?_
    refine z_iload_n (pc' := 35) C 1 dX5_claimOf_34 rfl rfl rfl ?_
    refine z_iald (pc' := 36) C hf h_a30 dX5_claimOf_35 rfl (fun v_35 hf => ?_)
    refine z_cV (pc' := 39) C hf (As := [.int v_35]) (fun hq => c_X0_unpaidOf (a := (a + 23)) h_a23 h_a24 h_a26 hq) (fun _ => h) (fun q_36 => [.long q_36, .long v_22]) (fun _ => rfl) (fun _ => rfl) zy_X0_unpaidOf zw_437 zw_438 zw_439 (ci := 0) rfl h_a23 ⟨rfl, rfl⟩ rfl rfl rfl rfl rfl dX5_claimOf_36 rfl (fun q_36 hf => ?_)
    refine z_lmin (pc' := 42) C zw_441 rfl rfl dX5_claimOf_39 rfl ?_
    cases hf
    exact z_lret C rfl rfl dX5_claimOf_42
  · refine z_lconst (pc' := 13) C dX5_claimOf_12 zl_0 rfl ?_
    cases hf
    exact z_lret C rfl rfl dX5_claimOf_13
set_option maxRecDepth 20000 in
theorem w_X5_hasClaim_2 {X : zC} {w : zV} {N : Nat} {h : zH} {a : Nat} {pr_day : Int32} {pr_pricing : Nat} {ce_count : Int32} {ce_contract : Nat → Int32} {ce_open : Nat → Int64} {li_count : Int32} {li_contract : Nat → Int32} {li_amount : Nat → Int64} {li_withdrawn : Nat → Int32} (C : zK X w RX5 cX5_hasClaim 3 (some .boolean) (zr 2 69)) (h_a0 : zc N h (a + 0) (.inr (5, [.int pr_day, .ref (zo w + (a + 1)), .ref (zo w + (a + 2)), .ref (zo w + pr_pricing), .ref (zo w + (a + 13)), .ref (zo w + (a + 19)), .ref (zo w + (a + 23)), .ref (zo w + (a + 29)), .ref (zo w + (a + 34))]))) (h_a23 : zc N h (a + 23) (.inr (0, [.int ce_count, .ref (zo w + (a + 24)), .ref (zo w + (a + 25)), .ref (zo w + (a + 26)), .ref (zo w + (a + 27)), .ref (zo w + (a + 28))]))) (h_a24 : zc N h (a + 24) (.inl (w.2.2.1 0, 40, .inl ce_contract))) (h_a26 : zc N h (a + 26) (.inl (w.2.2.1 1, 40, .inr (.inl ce_open)))) (h_a29 : zc N h (a + 29) (.inr (3, [.int li_count, .ref (zo w + (a + 30)), .ref (zo w + (a + 31)), .ref (zo w + (a + 32)), .ref (zo w + (a + 33))]))) (h_a30 : zc N h (a + 30) (.inl (w.2.2.1 0, 12, .inl li_contract))) (h_a31 : zc N h (a + 31) (.inl (w.2.2.1 1, 12, .inr (.inl li_amount)))) (h_a33 : zc N h (a + 33) (.inl (w.2.2.1 3, 12, .inl li_withdrawn))) {r : Int32} (n : Nat) : ∀ {x1 : Int32} {x2 : Int32}, f_X5_hasClaim_2  n ce_count ce_contract ce_open li_count li_contract li_amount li_withdrawn x1 x2 = some r → zZ X w (zQ X w (zr 2 69) (some (.int r)) false N h) 0 0 false N h 2 [(0, .ref (zo w + a)), (1, .int x1), (2, .int x2)] [] := by
  induction n with
  | zero =>
    intro x1 x2 hf
    have hf : (none : Option (Int32)) = some r := hf
    cases hf
  | succ z ih =>
    intro x1 x2 hf
    rw [f_X5_hasClaim_2] at hf
    refine z_iload_n (pc' := 3) C 2 dX5_hasClaim_2 rfl rfl rfl ?_
    refine z_aload_n (pc' := 4) C 0 dX5_hasClaim_3 rfl rfl rfl ?_
    refine z_getf (pc' := 7) C zci_5 zw_252 (j := 7) rfl h_a0 rfl rfl dX5_hasClaim_4 rfl ?_
    refine z_getf (pc' := 10) C zci_3 zw_212 (j := 0) rfl h_a29 rfl rfl dX5_hasClaim_7 rfl ?_
    refine z_icmp_ge (pc' := 13) C 44 hf dX5_hasClaim_10 rfl rfl (fun g_10 hf => ?_) (fun g_10 hf => ?_)
    · refine z_iconst (pc' := 45) C dX5_hasClaim_44 zk_iconst_0 rfl ?_
      cases hf
      exact z_zret C zb_0 rfl rfl dX5_hasClaim_45
    · refine z_aload_n (pc' := 14) C 0 dX5_hasClaim_13 rfl rfl rfl ?_
      refine z_getf (pc' := 17) C zci_5 zw_252 (j := 7) rfl h_a0 rfl rfl dX5_hasClaim_14 rfl ?_
      refine z_getf (pc' := 20) C zci_3 zw_215 (j := 1) rfl h_a29 rfl rfl dX5_hasClaim_17 rfl ?_
      refine z_iload_n (pc' := 21) C 2 dX5_hasClaim_20 rfl rfl rfl ?_
      refine z_iald (pc' := 22) C hf h_a30 dX5_hasClaim_21 rfl (fun v_21 hf => ?_)
      refine z_iload_n (pc' := 23) C 1 dX5_hasClaim_22 rfl rfl rfl ?_
      refine z_icmp_ne (pc' := 26) C 38 hf dX5_hasClaim_23 rfl rfl (fun g_23 hf => ?_) (fun g_23 hf => ?_)
      · refine z_iinc (pc' := 41) C 2 [(2, .int (x2 + (1 : Int32))), (0, .ref (zo w + a)), (1, .int x1)] dX5_hasClaim_38 rfl zk_iconst_1 rfl rfl rfl ?_
        refine z_goto C 2 dX5_hasClaim_41 rfl ?_
        refine z_pick (lv' := [(0, .ref (zo w + a)), (1, .int x1), (2, .int (x2 + (1 : Int32)))]) [1, 2, 0] rfl ?_
        exact ih hf
      · refine z_aload_n (pc' := 27) C 0 dX5_hasClaim_26 rfl rfl rfl ?_
        refine z_iload_n (pc' := 28) C 2 dX5_hasClaim_27 rfl rfl rfl ?_
        refine z_cV (pc' := 31) C hf (As := [.int x2]) (fun hq => c_X5_claimOf (a := a) h_a0 h_a23 h_a24 h_a26 h_a29 h_a30 h_a31 h_a33 hq) (fun _ => h) (fun q_28 => [.long q_28]) (fun _ => rfl) (fun _ => rfl) zy_X5_claimOf zw_433 zw_434 zw_435 (ci := 5) rfl h_a0 ⟨rfl, rfl⟩ rfl rfl rfl rfl rfl dX5_hasClaim_28 rfl (fun q_28 hf => ?_)
        refine z_lconst (pc' := 32) C dX5_hasClaim_31 zl_0 rfl ?_
        refine z_lcmp_le (pc' := 36) C 38 hf dX5_hasClaim_32 rfl dX5_hasClaim_33 rfl rfl (fun g_32 hf => ?_) (fun g_32 hf => ?_)
        · refine z_iinc (pc' := 41) C 2 [(2, .int (x2 + (1 : Int32))), (0, .ref (zo w + a)), (1, .int x1)] dX5_hasClaim_38 rfl zk_iconst_1 rfl rfl rfl ?_
          refine z_goto C 2 dX5_hasClaim_41 rfl ?_
          refine z_pick (lv' := [(0, .ref (zo w + a)), (1, .int x1), (2, .int (x2 + (1 : Int32)))]) [1, 2, 0] rfl ?_
          exact ih hf
        · refine z_iconst (pc' := 37) C dX5_hasClaim_36 zk_iconst_1 rfl ?_
          cases hf
          exact z_zret C zb_1 rfl rfl dX5_hasClaim_37
set_option maxRecDepth 20000 in
theorem c_X5_hasClaim {w : zV} {N : Nat} {h : zH} {a : Nat} {pr_day : Int32} {pr_pricing : Nat} {ce_count : Int32} {ce_contract : Nat → Int32} {ce_open : Nat → Int64} {li_count : Int32} {li_contract : Nat → Int32} {li_amount : Nat → Int64} {li_withdrawn : Nat → Int32} {p1 : Int32} (h_a0 : zc N h (a + 0) (.inr (5, [.int pr_day, .ref (zo w + (a + 1)), .ref (zo w + (a + 2)), .ref (zo w + pr_pricing), .ref (zo w + (a + 13)), .ref (zo w + (a + 19)), .ref (zo w + (a + 23)), .ref (zo w + (a + 29)), .ref (zo w + (a + 34))]))) (h_a23 : zc N h (a + 23) (.inr (0, [.int ce_count, .ref (zo w + (a + 24)), .ref (zo w + (a + 25)), .ref (zo w + (a + 26)), .ref (zo w + (a + 27)), .ref (zo w + (a + 28))]))) (h_a24 : zc N h (a + 24) (.inl (w.2.2.1 0, 40, .inl ce_contract))) (h_a26 : zc N h (a + 26) (.inl (w.2.2.1 1, 40, .inr (.inl ce_open)))) (h_a29 : zc N h (a + 29) (.inr (3, [.int li_count, .ref (zo w + (a + 30)), .ref (zo w + (a + 31)), .ref (zo w + (a + 32)), .ref (zo w + (a + 33))]))) (h_a30 : zc N h (a + 30) (.inl (w.2.2.1 0, 12, .inl li_contract))) (h_a31 : zc N h (a + 31) (.inl (w.2.2.1 1, 12, .inr (.inl li_amount)))) (h_a33 : zc N h (a + 33) (.inl (w.2.2.1 3, 12, .inl li_withdrawn))) {r : Int32} (hf : f_X5_hasClaim ce_count ce_contract ce_open li_count li_contract li_amount li_withdrawn p1 = some r) : zM w yX5_hasClaim cX5_hasClaim 3 (some .boolean) (zr 2 69) false N N h [.ref (zo w + a), .int p1] (some (.int r)) h := by
  unfold f_X5_hasClaim at hf
  refine zM_of (by decide) rfl (fun X C _ => ?_)
  refine z_pick (lv' := [(0, .ref (zo w + a)), (1, .int p1)]) [0, 1] rfl ?_
  refine z_iconst (pc' := 1) C dX5_hasClaim_0 zk_iconst_0 rfl ?_
  refine z_istore_n (pc' := 2) C [(2, .int (0 : Int32)), (0, .ref (zo w + a)), (1, .int p1)] dX5_hasClaim_1 rfl rfl rfl rfl ?_
  refine z_pick (lv' := [(0, .ref (zo w + a)), (1, .int p1), (2, .int (0 : Int32))]) [1, 2, 0] rfl ?_
  exact w_X5_hasClaim_2 C h_a0 h_a23 h_a24 h_a26 h_a29 h_a30 h_a31 h_a33  FU hf
set_option maxRecDepth 20000 in
theorem c_X5_rankOf {w : zV} {N : Nat} {h : zH} {a : Nat} {pr_day : Int32} {pr_pricing : Nat} {co_count : Int32} {li_count : Int32} {li_contract : Nat → Int32} {co_rank : Nat → Int32} {p1 : Int32} (h_a0 : zc N h (a + 0) (.inr (5, [.int pr_day, .ref (zo w + (a + 1)), .ref (zo w + (a + 2)), .ref (zo w + pr_pricing), .ref (zo w + (a + 13)), .ref (zo w + (a + 19)), .ref (zo w + (a + 23)), .ref (zo w + (a + 29)), .ref (zo w + (a + 34))]))) (h_a2 : zc N h (a + 2) (.inr (1, [.int co_count, .ref (zo w + (a + 3)), .ref (zo w + (a + 4)), .ref (zo w + (a + 5)), .ref (zo w + (a + 6)), .ref (zo w + (a + 7)), .ref (zo w + (a + 8)), .ref (zo w + (a + 9))]))) (h_a7 : zc N h (a + 7) (.inl (w.2.2.1 0, 8, .inl co_rank))) (h_a29 : zc N h (a + 29) (.inr (3, [.int li_count, .ref (zo w + (a + 30)), .ref (zo w + (a + 31)), .ref (zo w + (a + 32)), .ref (zo w + (a + 33))]))) (h_a30 : zc N h (a + 30) (.inl (w.2.2.1 0, 12, .inl li_contract))) {r : Int32} (hf : f_X5_rankOf co_rank li_contract p1 = some r) : zM w yX5_rankOf cX5_rankOf 2 (some .int) (zr 0 0) false N N h [.ref (zo w + a), .int p1] (some (.int r)) h := by
  unfold f_X5_rankOf at hf
  refine zM_of (by decide) rfl (fun X C _ => ?_)
  refine z_pick (lv' := [(0, .ref (zo w + a)), (1, .int p1)]) [0, 1] rfl ?_
  refine z_aload_n (pc' := 1) C 0 dX5_rankOf_0 rfl rfl rfl ?_
  refine z_getf (pc' := 4) C zci_5 zw_239 (j := 2) rfl h_a0 rfl rfl dX5_rankOf_1 rfl ?_
  refine z_getf (pc' := 7) C zci_1 zw_63 (j := 5) rfl h_a2 rfl rfl dX5_rankOf_4 rfl ?_
  refine z_aload_n (pc' := 8) C 0 dX5_rankOf_7 rfl rfl rfl ?_
  refine z_getf (pc' := 11) C zci_5 zw_252 (j := 7) rfl h_a0 rfl rfl dX5_rankOf_8 rfl ?_
  refine z_getf (pc' := 14) C zci_3 zw_215 (j := 1) rfl h_a29 rfl rfl dX5_rankOf_11 rfl ?_
  refine z_iload_n (pc' := 15) C 1 dX5_rankOf_14 rfl rfl rfl ?_
  refine z_iald (pc' := 16) C hf h_a30 dX5_rankOf_15 rfl (fun v_15 hf => ?_)
  refine z_iald (pc' := 17) C hf h_a7 dX5_rankOf_16 rfl (fun v_16 hf => ?_)
  cases hf
  exact z_iret C rfl rfl dX5_rankOf_17
set_option maxRecDepth 20000 in
theorem c_X5_precedes {w : zV} {N : Nat} {h : zH} {a : Nat} {pr_day : Int32} {pr_pricing : Nat} {co_count : Int32} {li_count : Int32} {li_contract : Nat → Int32} {li_filed : Nat → Int32} {co_rank : Nat → Int32} {p1 : Int32} {p2 : Int32} (h_a0 : zc N h (a + 0) (.inr (5, [.int pr_day, .ref (zo w + (a + 1)), .ref (zo w + (a + 2)), .ref (zo w + pr_pricing), .ref (zo w + (a + 13)), .ref (zo w + (a + 19)), .ref (zo w + (a + 23)), .ref (zo w + (a + 29)), .ref (zo w + (a + 34))]))) (h_a2 : zc N h (a + 2) (.inr (1, [.int co_count, .ref (zo w + (a + 3)), .ref (zo w + (a + 4)), .ref (zo w + (a + 5)), .ref (zo w + (a + 6)), .ref (zo w + (a + 7)), .ref (zo w + (a + 8)), .ref (zo w + (a + 9))]))) (h_a7 : zc N h (a + 7) (.inl (w.2.2.1 0, 8, .inl co_rank))) (h_a29 : zc N h (a + 29) (.inr (3, [.int li_count, .ref (zo w + (a + 30)), .ref (zo w + (a + 31)), .ref (zo w + (a + 32)), .ref (zo w + (a + 33))]))) (h_a30 : zc N h (a + 30) (.inl (w.2.2.1 0, 12, .inl li_contract))) (h_a32 : zc N h (a + 32) (.inl (w.2.2.1 0, 12, .inl li_filed))) {r : Int32} (hf : f_X5_precedes co_rank li_contract li_filed p1 p2 = some r) : zM w yX5_precedes cX5_precedes 3 (some .boolean) (zr 1 29) false N N h [.ref (zo w + a), .int p1, .int p2] (some (.int r)) h := by
  unfold f_X5_precedes at hf
  refine zM_of (by decide) rfl (fun X C _ => ?_)
  refine z_pick (lv' := [(0, .ref (zo w + a)), (1, .int p1), (2, .int p2)]) [0, 1, 2] rfl ?_
  refine z_aload_n (pc' := 1) C 0 dX5_precedes_0 rfl rfl rfl ?_
  refine z_iload_n (pc' := 2) C 1 dX5_precedes_1 rfl rfl rfl ?_
  refine z_cV (pc' := 5) C hf (As := [.int p1]) (fun hq => c_X5_rankOf (a := a) h_a0 h_a2 h_a7 h_a29 h_a30 hq) (fun _ => h) (fun q_2 => [.int q_2]) (fun _ => rfl) (fun _ => rfl) zy_X5_rankOf zw_1019 zw_1020 zw_1021 (ci := 5) rfl h_a0 ⟨rfl, rfl⟩ rfl rfl rfl rfl rfl dX5_precedes_2 rfl (fun q_2 hf => ?_)
  refine z_aload_n (pc' := 6) C 0 dX5_precedes_5 rfl rfl rfl ?_
  refine z_iload_n (pc' := 7) C 2 dX5_precedes_6 rfl rfl rfl ?_
  refine z_cV (pc' := 10) C hf (As := [.int p2]) (fun hq => c_X5_rankOf (a := a) h_a0 h_a2 h_a7 h_a29 h_a30 hq) (fun _ => h) (fun q_7 => [.int q_7, .int q_2]) (fun _ => rfl) (fun _ => rfl) zy_X5_rankOf zw_1019 zw_1020 zw_1021 (ci := 5) rfl h_a0 ⟨rfl, rfl⟩ rfl rfl rfl rfl rfl dX5_precedes_7 rfl (fun q_7 hf => ?_)
  refine z_icmp_eq (pc' := 13) C 32 hf dX5_precedes_10 rfl rfl (fun g_10 hf => ?_) (fun g_10 hf => ?_)
  · refine z_aload_n (pc' := 33) C 0 dX5_precedes_32 rfl rfl rfl ?_
    refine z_getf (pc' := 36) C zci_5 zw_252 (j := 7) rfl h_a0 rfl rfl dX5_precedes_33 rfl ?_
    refine z_getf (pc' := 39) C zci_3 zw_219 (j := 3) rfl h_a29 rfl rfl dX5_precedes_36 rfl ?_
    refine z_iload_n (pc' := 40) C 1 dX5_precedes_39 rfl rfl rfl ?_
    refine z_iald (pc' := 41) C hf h_a32 dX5_precedes_40 rfl (fun v_40 hf => ?_)
    refine z_aload_n (pc' := 42) C 0 dX5_precedes_41 rfl rfl rfl ?_
    refine z_getf (pc' := 45) C zci_5 zw_252 (j := 7) rfl h_a0 rfl rfl dX5_precedes_42 rfl ?_
    refine z_getf (pc' := 48) C zci_3 zw_219 (j := 3) rfl h_a29 rfl rfl dX5_precedes_45 rfl ?_
    refine z_iload_n (pc' := 49) C 2 dX5_precedes_48 rfl rfl rfl ?_
    refine z_iald (pc' := 50) C hf h_a32 dX5_precedes_49 rfl (fun v_49 hf => ?_)
    refine z_icmp_eq (pc' := 53) C 80 hf dX5_precedes_50 rfl rfl (fun g_50 hf => ?_) (fun g_50 hf => ?_)
    · refine z_iload_n (pc' := 81) C 1 dX5_precedes_80 rfl rfl rfl ?_
      refine z_iload_n (pc' := 82) C 2 dX5_precedes_81 rfl rfl rfl ?_
      refine z_icmp_ge (pc' := 85) C 89 hf dX5_precedes_82 rfl rfl (fun g_82 hf => ?_) (fun g_82 hf => ?_)
      · refine z_iconst (pc' := 90) C dX5_precedes_89 zk_iconst_0 rfl ?_
        cases hf
        exact z_zret C zb_0 rfl rfl dX5_precedes_90
      · refine z_iconst (pc' := 86) C dX5_precedes_85 zk_iconst_1 rfl ?_
        refine z_goto C 90 dX5_precedes_86 rfl ?_
        cases hf
        exact z_zret C zb_1 rfl rfl dX5_precedes_90
    · refine z_aload_n (pc' := 54) C 0 dX5_precedes_53 rfl rfl rfl ?_
      refine z_getf (pc' := 57) C zci_5 zw_252 (j := 7) rfl h_a0 rfl rfl dX5_precedes_54 rfl ?_
      refine z_getf (pc' := 60) C zci_3 zw_219 (j := 3) rfl h_a29 rfl rfl dX5_precedes_57 rfl ?_
      refine z_iload_n (pc' := 61) C 1 dX5_precedes_60 rfl rfl rfl ?_
      refine z_iald (pc' := 62) C hf h_a32 dX5_precedes_61 rfl (fun v_61 hf => ?_)
      refine z_aload_n (pc' := 63) C 0 dX5_precedes_62 rfl rfl rfl ?_
      refine z_getf (pc' := 66) C zci_5 zw_252 (j := 7) rfl h_a0 rfl rfl dX5_precedes_63 rfl ?_
      refine z_getf (pc' := 69) C zci_3 zw_219 (j := 3) rfl h_a29 rfl rfl dX5_precedes_66 rfl ?_
      refine z_iload_n (pc' := 70) C 2 dX5_precedes_69 rfl rfl rfl ?_
      refine z_iald (pc' := 71) C hf h_a32 dX5_precedes_70 rfl (fun v_70 hf => ?_)
      refine z_icmp_ge (pc' := 74) C 78 hf dX5_precedes_71 rfl rfl (fun g_71 hf => ?_) (fun g_71 hf => ?_)
      · refine z_iconst (pc' := 79) C dX5_precedes_78 zk_iconst_0 rfl ?_
        cases hf
        exact z_zret C zb_0 rfl rfl dX5_precedes_79
      · refine z_iconst (pc' := 75) C dX5_precedes_74 zk_iconst_1 rfl ?_
        refine z_goto C 79 dX5_precedes_75 rfl ?_
        cases hf
        exact z_zret C zb_1 rfl rfl dX5_precedes_79
  · refine z_aload_n (pc' := 14) C 0 dX5_precedes_13 rfl rfl rfl ?_
    refine z_iload_n (pc' := 15) C 1 dX5_precedes_14 rfl rfl rfl ?_
    refine z_cV (pc' := 18) C hf (As := [.int p1]) (fun hq => c_X5_rankOf (a := a) h_a0 h_a2 h_a7 h_a29 h_a30 hq) (fun _ => h) (fun q_15 => [.int q_15]) (fun _ => rfl) (fun _ => rfl) zy_X5_rankOf zw_1019 zw_1020 zw_1021 (ci := 5) rfl h_a0 ⟨rfl, rfl⟩ rfl rfl rfl rfl rfl dX5_precedes_15 rfl (fun q_15 hf => ?_)
    refine z_aload_n (pc' := 19) C 0 dX5_precedes_18 rfl rfl rfl ?_
    refine z_iload_n (pc' := 20) C 2 dX5_precedes_19 rfl rfl rfl ?_
    refine z_cV (pc' := 23) C hf (As := [.int p2]) (fun hq => c_X5_rankOf (a := a) h_a0 h_a2 h_a7 h_a29 h_a30 hq) (fun _ => h) (fun q_20 => [.int q_20, .int q_15]) (fun _ => rfl) (fun _ => rfl) zy_X5_rankOf zw_1019 zw_1020 zw_1021 (ci := 5) rfl h_a0 ⟨rfl, rfl⟩ rfl rfl rfl rfl rfl dX5_precedes_20 rfl (fun q_20 hf => ?_)
    refine z_icmp_ge (pc' := 26) C 30 hf dX5_precedes_23 rfl rfl (fun g_23 hf => ?_) (fun g_23 hf => ?_)
    · refine z_iconst (pc' := 31) C dX5_precedes_30 zk_iconst_0 rfl ?_
      cases hf
      exact z_zret C zb_0 rfl rfl dX5_precedes_31
    · refine z_iconst (pc' := 27) C dX5_precedes_26 zk_iconst_1 rfl ?_
      refine z_goto C 31 dX5_precedes_27 rfl ?_
      cases hf
      exact z_zret C zb_1 rfl rfl dX5_precedes_31
set_option maxRecDepth 20000 in
theorem w_X5_lienAt_18 {X : zC} {w : zV} {N : Nat} {h : zH} {a : Nat} {pr_day : Int32} {pr_pricing : Nat} {co_count : Int32} {li_count : Int32} {li_contract : Nat → Int32} {li_filed : Nat → Int32} {co_rank : Nat → Int32} (C : zK X w RX5 cX5_lienAt 5 (some .int) (zr 2 59)) (h_a0 : zc N h (a + 0) (.inr (5, [.int pr_day, .ref (zo w + (a + 1)), .ref (zo w + (a + 2)), .ref (zo w + pr_pricing), .ref (zo w + (a + 13)), .ref (zo w + (a + 19)), .ref (zo w + (a + 23)), .ref (zo w + (a + 29)), .ref (zo w + (a + 34))]))) (h_a2 : zc N h (a + 2) (.inr (1, [.int co_count, .ref (zo w + (a + 3)), .ref (zo w + (a + 4)), .ref (zo w + (a + 5)), .ref (zo w + (a + 6)), .ref (zo w + (a + 7)), .ref (zo w + (a + 8)), .ref (zo w + (a + 9))]))) (h_a7 : zc N h (a + 7) (.inl (w.2.2.1 0, 8, .inl co_rank))) (h_a29 : zc N h (a + 29) (.inr (3, [.int li_count, .ref (zo w + (a + 30)), .ref (zo w + (a + 31)), .ref (zo w + (a + 32)), .ref (zo w + (a + 33))]))) (h_a30 : zc N h (a + 30) (.inl (w.2.2.1 0, 12, .inl li_contract))) (h_a32 : zc N h (a + 32) (.inl (w.2.2.1 0, 12, .inl li_filed))) {r : Int32} {k2 : (Nat → Int32) → Int32 → (Nat → Int32) → (Nat → Int32) → Int32 → Int32 → Option (Int32)} (hk2 : ∀ {x1 : Int32} {x2 : Int32}, k2 co_rank li_count li_contract li_filed x1 x2 = some r → zZ X w (zQ X w (zr 2 59) (some (.int r)) false N h) 0 0 false N h 2 [(0, .ref (zo w + a)), (1, .int x1), (2, .int x2)] []) (n : Nat) : ∀ {x1 : Int32} {x2 : Int32} {x3 : Int32} {x4 : Int32}, f_X5_lienAt_18 k2 n co_rank li_count li_contract li_filed x1 x2 x3 x4 = some r → zZ X w (zQ X w (zr 2 59) (some (.int r)) false N h) 0 0 false N h 18 [(0, .ref (zo w + a)), (1, .int x1), (2, .int x2), (3, .int x3), (4, .int x4)] [] := by
  induction n with
  | zero =>
    intro x1 x2 x3 x4 hf
    have hf : (none : Option (Int32)) = some r := hf
    cases hf
  | succ z ih =>
    intro x1 x2 x3 x4 hf
    rw [f_X5_lienAt_18] at hf
    refine z_iload (pc' := 20) C 4 dX5_lienAt_18 rfl rfl ?_
    refine z_aload_n (pc' := 21) C 0 dX5_lienAt_20 rfl rfl rfl ?_
    refine z_getf (pc' := 24) C zci_5 zw_252 (j := 7) rfl h_a0 rfl rfl dX5_lienAt_21 rfl ?_
    refine z_getf (pc' := 27) C zci_3 zw_212 (j := 0) rfl h_a29 rfl rfl dX5_lienAt_24 rfl ?_
    refine z_icmp_ge (pc' := 30) C 49 hf dX5_lienAt_27 rfl rfl (fun g_27 hf => ?_) (fun g_27 hf => ?_)
    · refine z_iload_n (pc' := 50) C 3 dX5_lienAt_49 rfl rfl rfl ?_
      refine z_iload_n (pc' := 51) C 1 dX5_lienAt_50 rfl rfl rfl ?_
      refine z_icmp_ne (pc' := 54) C 56 hf dX5_lienAt_51 rfl rfl (fun g_51 hf => ?_) (fun g_51 hf => ?_)
      · refine z_iinc (pc' := 59) C 2 [(2, .int (x2 + (1 : Int32))), (0, .ref (zo w + a)), (1, .int x1), (3, .int x3), (4, .int x4)] dX5_lienAt_56 rfl zk_iconst_1 rfl rfl rfl ?_
        refine z_goto C 2 dX5_lienAt_59 rfl ?_
        refine z_pick (lv' := [(0, .ref (zo w + a)), (1, .int x1), (2, .int (x2 + (1 : Int32)))]) [1, 2, 0] rfl ?_
        exact hk2 hf
      · refine z_iload_n (pc' := 55) C 2 dX5_lienAt_54 rfl rfl rfl ?_
        cases hf
        exact z_iret C rfl rfl dX5_lienAt_55
    · refine z_aload_n (pc' := 31) C 0 dX5_lienAt_30 rfl rfl rfl ?_
      refine z_iload (pc' := 33) C 4 dX5_lienAt_31 rfl rfl ?_
      refine z_iload_n (pc' := 34) C 2 dX5_lienAt_33 rfl rfl rfl ?_
      refine z_cV (pc' := 37) C hf (As := [.int x4, .int x2]) (fun hq => c_X5_precedes (a := a) h_a0 h_a2 h_a7 h_a29 h_a30 h_a32 hq) (fun _ => h) (fun q_34 => [.int q_34]) (fun _ => rfl) (fun _ => rfl) zy_X5_precedes zw_1015 zw_1016 zw_1017 (ci := 5) rfl h_a0 ⟨rfl, rfl⟩ rfl rfl rfl rfl rfl dX5_lienAt_34 rfl (fun q_34 hf => ?_)
      refine z_if_eq (pc' := 40) C 43 hf dX5_lienAt_37 rfl rfl (fun g_37 hf => ?_) (fun g_37 hf => ?_)
      · refine z_iinc (pc' := 46) C 4 [(4, .int (x4 + (1 : Int32))), (0, .ref (zo w + a)), (1, .int x1), (2, .int x2), (3, .int x3)] dX5_lienAt_43 rfl zk_iconst_1 rfl rfl rfl ?_
        refine z_goto C 18 dX5_lienAt_46 rfl ?_
        refine z_pick (lv' := [(0, .ref (zo w + a)), (1, .int x1), (2, .int x2), (3, .int x3), (4, .int (x4 + (1 : Int32)))]) [1, 2, 3, 4, 0] rfl ?_
        exact ih hf
      · refine z_iinc (pc' := 43) C 3 [(3, .int (x3 + (1 : Int32))), (0, .ref (zo w + a)), (1, .int x1), (2, .int x2), (4, .int x4)] dX5_lienAt_40 rfl zk_iconst_1 rfl rfl rfl ?_
        refine z_iinc (pc' := 46) C 4 [(4, .int (x4 + (1 : Int32))), (3, .int (x3 + (1 : Int32))), (0, .ref (zo w + a)), (1, .int x1), (2, .int x2)] dX5_lienAt_43 rfl zk_iconst_1 rfl rfl rfl ?_
        refine z_goto C 18 dX5_lienAt_46 rfl ?_
        refine z_pick (lv' := [(0, .ref (zo w + a)), (1, .int x1), (2, .int x2), (3, .int (x3 + (1 : Int32))), (4, .int (x4 + (1 : Int32)))]) [2, 3, 4, 1, 0] rfl ?_
        exact ih hf
set_option maxRecDepth 20000 in
theorem w_X5_lienAt_2 {X : zC} {w : zV} {N : Nat} {h : zH} {a : Nat} {pr_day : Int32} {pr_pricing : Nat} {co_count : Int32} {li_count : Int32} {li_contract : Nat → Int32} {li_filed : Nat → Int32} {co_rank : Nat → Int32} (C : zK X w RX5 cX5_lienAt 5 (some .int) (zr 2 59)) (h_a0 : zc N h (a + 0) (.inr (5, [.int pr_day, .ref (zo w + (a + 1)), .ref (zo w + (a + 2)), .ref (zo w + pr_pricing), .ref (zo w + (a + 13)), .ref (zo w + (a + 19)), .ref (zo w + (a + 23)), .ref (zo w + (a + 29)), .ref (zo w + (a + 34))]))) (h_a2 : zc N h (a + 2) (.inr (1, [.int co_count, .ref (zo w + (a + 3)), .ref (zo w + (a + 4)), .ref (zo w + (a + 5)), .ref (zo w + (a + 6)), .ref (zo w + (a + 7)), .ref (zo w + (a + 8)), .ref (zo w + (a + 9))]))) (h_a7 : zc N h (a + 7) (.inl (w.2.2.1 0, 8, .inl co_rank))) (h_a29 : zc N h (a + 29) (.inr (3, [.int li_count, .ref (zo w + (a + 30)), .ref (zo w + (a + 31)), .ref (zo w + (a + 32)), .ref (zo w + (a + 33))]))) (h_a30 : zc N h (a + 30) (.inl (w.2.2.1 0, 12, .inl li_contract))) (h_a32 : zc N h (a + 32) (.inl (w.2.2.1 0, 12, .inl li_filed))) {r : Int32} (n : Nat) : ∀ {x1 : Int32} {x2 : Int32}, f_X5_lienAt_2  n co_rank li_count li_contract li_filed x1 x2 = some r → zZ X w (zQ X w (zr 2 59) (some (.int r)) false N h) 0 0 false N h 2 [(0, .ref (zo w + a)), (1, .int x1), (2, .int x2)] [] := by
  induction n with
  | zero =>
    intro x1 x2 hf
    have hf : (none : Option (Int32)) = some r := hf
    cases hf
  | succ z ih =>
    intro x1 x2 hf
    rw [f_X5_lienAt_2] at hf
    refine z_iload_n (pc' := 3) C 2 dX5_lienAt_2 rfl rfl rfl ?_
    refine z_aload_n (pc' := 4) C 0 dX5_lienAt_3 rfl rfl rfl ?_
    refine z_getf (pc' := 7) C zci_5 zw_252 (j := 7) rfl h_a0 rfl rfl dX5_lienAt_4 rfl ?_
    refine z_getf (pc' := 10) C zci_3 zw_212 (j := 0) rfl h_a29 rfl rfl dX5_lienAt_7 rfl ?_
    refine z_icmp_ge (pc' := 13) C 62 hf dX5_lienAt_10 rfl rfl (fun g_10 hf => ?_) (fun g_10 hf => ?_)
    · refine z_iconst (pc' := 63) C dX5_lienAt_62 zk_iconst_m1 rfl ?_
      cases hf
      exact z_iret C rfl rfl dX5_lienAt_63
    · refine z_iconst (pc' := 14) C dX5_lienAt_13 zk_iconst_0 rfl ?_
      refine z_istore_n (pc' := 15) C [(3, .int (0 : Int32)), (0, .ref (zo w + a)), (1, .int x1), (2, .int x2)] dX5_lienAt_14 rfl rfl rfl rfl ?_
      refine z_iconst (pc' := 16) C dX5_lienAt_15 zk_iconst_0 rfl ?_
      refine z_istore (pc' := 18) C [(4, .int (0 : Int32)), (3, .int (0 : Int32)), (0, .ref (zo w + a)), (1, .int x1), (2, .int x2)] dX5_lienAt_16 rfl rfl rfl ?_
      refine z_pick (lv' := [(0, .ref (zo w + a)), (1, .int x1), (2, .int x2), (3, .int (0 : Int32)), (4, .int (0 : Int32))]) [2, 3, 4, 1, 0] rfl ?_
      exact w_X5_lienAt_18 C h_a0 h_a2 h_a7 h_a29 h_a30 h_a32 (fun hf => ih hf) FU hf
set_option maxRecDepth 20000 in
theorem c_X5_lienAt {w : zV} {N : Nat} {h : zH} {a : Nat} {pr_day : Int32} {pr_pricing : Nat} {co_count : Int32} {li_count : Int32} {li_contract : Nat → Int32} {li_filed : Nat → Int32} {co_rank : Nat → Int32} {p1 : Int32} (h_a0 : zc N h (a + 0) (.inr (5, [.int pr_day, .ref (zo w + (a + 1)), .ref (zo w + (a + 2)), .ref (zo w + pr_pricing), .ref (zo w + (a + 13)), .ref (zo w + (a + 19)), .ref (zo w + (a + 23)), .ref (zo w + (a + 29)), .ref (zo w + (a + 34))]))) (h_a2 : zc N h (a + 2) (.inr (1, [.int co_count, .ref (zo w + (a + 3)), .ref (zo w + (a + 4)), .ref (zo w + (a + 5)), .ref (zo w + (a + 6)), .ref (zo w + (a + 7)), .ref (zo w + (a + 8)), .ref (zo w + (a + 9))]))) (h_a7 : zc N h (a + 7) (.inl (w.2.2.1 0, 8, .inl co_rank))) (h_a29 : zc N h (a + 29) (.inr (3, [.int li_count, .ref (zo w + (a + 30)), .ref (zo w + (a + 31)), .ref (zo w + (a + 32)), .ref (zo w + (a + 33))]))) (h_a30 : zc N h (a + 30) (.inl (w.2.2.1 0, 12, .inl li_contract))) (h_a32 : zc N h (a + 32) (.inl (w.2.2.1 0, 12, .inl li_filed))) {r : Int32} (hf : f_X5_lienAt co_rank li_count li_contract li_filed p1 = some r) : zM w yX5_lienAt cX5_lienAt 5 (some .int) (zr 2 59) false N N h [.ref (zo w + a), .int p1] (some (.int r)) h := by
  unfold f_X5_lienAt at hf
  refine zM_of (by decide) rfl (fun X C _ => ?_)
  refine z_pick (lv' := [(0, .ref (zo w + a)), (1, .int p1)]) [0, 1] rfl ?_
  refine z_iconst (pc' := 1) C dX5_lienAt_0 zk_iconst_0 rfl ?_
  refine z_istore_n (pc' := 2) C [(2, .int (0 : Int32)), (0, .ref (zo w + a)), (1, .int p1)] dX5_lienAt_1 rfl rfl rfl rfl ?_
  refine z_pick (lv' := [(0, .ref (zo w + a)), (1, .int p1), (2, .int (0 : Int32))]) [1, 2, 0] rfl ?_
  exact w_X5_lienAt_2 C h_a0 h_a2 h_a7 h_a29 h_a30 h_a32  FU hf
set_option maxRecDepth 20000 in
theorem w_X5_claimsOfRank_5 {X : zC} {w : zV} {N : Nat} {h : zH} {a : Nat} {pr_day : Int32} {pr_pricing : Nat} {co_count : Int32} {ce_count : Int32} {ce_contract : Nat → Int32} {ce_open : Nat → Int64} {li_count : Int32} {li_contract : Nat → Int32} {li_amount : Nat → Int64} {li_withdrawn : Nat → Int32} {co_rank : Nat → Int32} (C : zK X w RX5 cX5_claimsOfRank 5 (some .long) (zr 2 69)) (h_a0 : zc N h (a + 0) (.inr (5, [.int pr_day, .ref (zo w + (a + 1)), .ref (zo w + (a + 2)), .ref (zo w + pr_pricing), .ref (zo w + (a + 13)), .ref (zo w + (a + 19)), .ref (zo w + (a + 23)), .ref (zo w + (a + 29)), .ref (zo w + (a + 34))]))) (h_a2 : zc N h (a + 2) (.inr (1, [.int co_count, .ref (zo w + (a + 3)), .ref (zo w + (a + 4)), .ref (zo w + (a + 5)), .ref (zo w + (a + 6)), .ref (zo w + (a + 7)), .ref (zo w + (a + 8)), .ref (zo w + (a + 9))]))) (h_a7 : zc N h (a + 7) (.inl (w.2.2.1 0, 8, .inl co_rank))) (h_a23 : zc N h (a + 23) (.inr (0, [.int ce_count, .ref (zo w + (a + 24)), .ref (zo w + (a + 25)), .ref (zo w + (a + 26)), .ref (zo w + (a + 27)), .ref (zo w + (a + 28))]))) (h_a24 : zc N h (a + 24) (.inl (w.2.2.1 0, 40, .inl ce_contract))) (h_a26 : zc N h (a + 26) (.inl (w.2.2.1 1, 40, .inr (.inl ce_open)))) (h_a29 : zc N h (a + 29) (.inr (3, [.int li_count, .ref (zo w + (a + 30)), .ref (zo w + (a + 31)), .ref (zo w + (a + 32)), .ref (zo w + (a + 33))]))) (h_a30 : zc N h (a + 30) (.inl (w.2.2.1 0, 12, .inl li_contract))) (h_a31 : zc N h (a + 31) (.inl (w.2.2.1 1, 12, .inr (.inl li_amount)))) (h_a33 : zc N h (a + 33) (.inl (w.2.2.1 3, 12, .inl li_withdrawn))) {r : Int64} (n : Nat) : ∀ {x1 : Int32} {x2 : Int64} {x4 : Int32}, f_X5_claimsOfRank_5  n co_rank ce_count ce_contract ce_open li_count li_contract li_amount li_withdrawn x1 x2 x4 = some r → zZ X w (zQ X w (zr 2 69) (some (.long r)) false N h) 0 0 false N h 5 [(0, .ref (zo w + a)), (1, .int x1), (2, .long x2), (4, .int x4)] [] := by
  induction n with
  | zero =>
    intro x1 x2 x4 hf
    have hf : (none : Option (Int64)) = some r := hf
    cases hf
  | succ z ih =>
    intro x1 x2 x4 hf
    rw [f_X5_claimsOfRank_5] at hf
    refine z_iload (pc' := 7) C 3 dX5_claimsOfRank_5 rfl rfl ?_
    refine z_aload_n (pc' := 8) C 0 dX5_claimsOfRank_7 rfl rfl rfl ?_
    refine z_getf (pc' := 11) C zci_5 zw_252 (j := 7) rfl h_a0 rfl rfl dX5_claimsOfRank_8 rfl ?_
    refine z_getf (pc' := 14) C zci_3 zw_212 (j := 0) rfl h_a29 rfl rfl dX5_claimsOfRank_11 rfl ?_
    refine z_icmp_ge (pc' := 17) C 42 hf dX5_claimsOfRank_14 rfl rfl (fun g_14 hf => ?_) (fun g_14 hf => ?_)
    · refine z_lload_n (pc' := 43) C 2 dX5_claimsOfRank_42 rfl rfl rfl ?_
      cases hf
      exact z_lret C rfl rfl dX5_claimsOfRank_43
    · refine z_aload_n (pc' := 18) C 0 dX5_claimsOfRank_17 rfl rfl rfl ?_
      refine z_iload (pc' := 20) C 3 dX5_claimsOfRank_18 rfl rfl ?_
      refine z_cV (pc' := 23) C hf (As := [.int x4]) (fun hq => c_X5_rankOf (a := a) h_a0 h_a2 h_a7 h_a29 h_a30 hq) (fun _ => h) (fun q_20 => [.int q_20]) (fun _ => rfl) (fun _ => rfl) zy_X5_rankOf zw_1019 zw_1020 zw_1021 (ci := 5) rfl h_a0 ⟨rfl, rfl⟩ rfl rfl rfl rfl rfl dX5_claimsOfRank_20 rfl (fun q_20 hf => ?_)
      refine z_iload_n (pc' := 24) C 1 dX5_claimsOfRank_23 rfl rfl rfl ?_
      refine z_icmp_ne (pc' := 27) C 36 hf dX5_claimsOfRank_24 rfl rfl (fun g_24 hf => ?_) (fun g_24 hf => ?_)
      · refine z_iinc (pc' := 39) C 3 [(4, .int (x4 + (1 : Int32))), (0, .ref (zo w + a)), (1, .int x1), (2, .long x2)] dX5_claimsOfRank_36 rfl zk_iconst_1 rfl rfl rfl ?_
        refine z_goto C 5 dX5_claimsOfRank_39 rfl ?_
        refine z_pick (lv' := [(0, .ref (zo w + a)), (1, .int x1), (2, .long x2), (4, .int (x4 + (1 : Int32)))]) [1, 2, 3, 0] rfl ?_
        exact ih hf
      · refine z_lload_n (pc' := 28) C 2 dX5_claimsOfRank_27 rfl rfl rfl ?_
        refine z_aload_n (pc' := 29) C 0 dX5_claimsOfRank_28 rfl rfl rfl ?_
        refine z_iload (pc' := 31) C 3 dX5_claimsOfRank_29 rfl rfl ?_
        refine z_cV (pc' := 34) C hf (As := [.int x4]) (fun hq => c_X5_claimOf (a := a) h_a0 h_a23 h_a24 h_a26 h_a29 h_a30 h_a31 h_a33 hq) (fun _ => h) (fun q_31 => [.long q_31, .long x2]) (fun _ => rfl) (fun _ => rfl) zy_X5_claimOf zw_433 zw_434 zw_435 (ci := 5) rfl h_a0 ⟨rfl, rfl⟩ rfl rfl rfl rfl rfl dX5_claimsOfRank_31 rfl (fun q_31 hf => ?_)
        refine z_ladd (pc' := 35) C dX5_claimsOfRank_34 rfl ?_
        refine z_lstore_n (pc' := 36) C [(2, .long (x2 + q_31)), (0, .ref (zo w + a)), (1, .int x1), (4, .int x4)] dX5_claimsOfRank_35 rfl rfl rfl rfl ?_
        refine z_iinc (pc' := 39) C 3 [(4, .int (x4 + (1 : Int32))), (2, .long (x2 + q_31)), (0, .ref (zo w + a)), (1, .int x1)] dX5_claimsOfRank_36 rfl zk_iconst_1 rfl rfl rfl ?_
        refine z_goto C 5 dX5_claimsOfRank_39 rfl ?_
        refine z_pick (lv' := [(0, .ref (zo w + a)), (1, .int x1), (2, .long (x2 + q_31)), (4, .int (x4 + (1 : Int32)))]) [2, 3, 1, 0] rfl ?_
        exact ih hf
set_option maxRecDepth 20000 in
theorem c_X5_claimsOfRank {w : zV} {N : Nat} {h : zH} {a : Nat} {pr_day : Int32} {pr_pricing : Nat} {co_count : Int32} {ce_count : Int32} {ce_contract : Nat → Int32} {ce_open : Nat → Int64} {li_count : Int32} {li_contract : Nat → Int32} {li_amount : Nat → Int64} {li_withdrawn : Nat → Int32} {co_rank : Nat → Int32} {p1 : Int32} (h_a0 : zc N h (a + 0) (.inr (5, [.int pr_day, .ref (zo w + (a + 1)), .ref (zo w + (a + 2)), .ref (zo w + pr_pricing), .ref (zo w + (a + 13)), .ref (zo w + (a + 19)), .ref (zo w + (a + 23)), .ref (zo w + (a + 29)), .ref (zo w + (a + 34))]))) (h_a2 : zc N h (a + 2) (.inr (1, [.int co_count, .ref (zo w + (a + 3)), .ref (zo w + (a + 4)), .ref (zo w + (a + 5)), .ref (zo w + (a + 6)), .ref (zo w + (a + 7)), .ref (zo w + (a + 8)), .ref (zo w + (a + 9))]))) (h_a7 : zc N h (a + 7) (.inl (w.2.2.1 0, 8, .inl co_rank))) (h_a23 : zc N h (a + 23) (.inr (0, [.int ce_count, .ref (zo w + (a + 24)), .ref (zo w + (a + 25)), .ref (zo w + (a + 26)), .ref (zo w + (a + 27)), .ref (zo w + (a + 28))]))) (h_a24 : zc N h (a + 24) (.inl (w.2.2.1 0, 40, .inl ce_contract))) (h_a26 : zc N h (a + 26) (.inl (w.2.2.1 1, 40, .inr (.inl ce_open)))) (h_a29 : zc N h (a + 29) (.inr (3, [.int li_count, .ref (zo w + (a + 30)), .ref (zo w + (a + 31)), .ref (zo w + (a + 32)), .ref (zo w + (a + 33))]))) (h_a30 : zc N h (a + 30) (.inl (w.2.2.1 0, 12, .inl li_contract))) (h_a31 : zc N h (a + 31) (.inl (w.2.2.1 1, 12, .inr (.inl li_amount)))) (h_a33 : zc N h (a + 33) (.inl (w.2.2.1 3, 12, .inl li_withdrawn))) {r : Int64} (hf : f_X5_claimsOfRank co_rank ce_count ce_contract ce_open li_count li_contract li_amount li_withdrawn p1 = some r) : zM w yX5_claimsOfRank cX5_claimsOfRank 5 (some .long) (zr 2 69) false N N h [.ref (zo w + a), .int p1] (some (.long r)) h := by
  unfold f_X5_claimsOfRank at hf
  refine zM_of (by decide) rfl (fun X C _ => ?_)
  refine z_pick (lv' := [(0, .ref (zo w + a)), (1, .int p1)]) [0, 1] rfl ?_
  refine z_lconst (pc' := 1) C dX5_claimsOfRank_0 zl_0 rfl ?_
  refine z_lstore_n (pc' := 2) C [(2, .long (0 : Int64)), (0, .ref (zo w + a)), (1, .int p1)] dX5_claimsOfRank_1 rfl rfl rfl rfl ?_
  refine z_iconst (pc' := 3) C dX5_claimsOfRank_2 zk_iconst_0 rfl ?_
  refine z_istore (pc' := 5) C [(4, .int (0 : Int32)), (2, .long (0 : Int64)), (0, .ref (zo w + a)), (1, .int p1)] dX5_claimsOfRank_3 rfl rfl rfl ?_
  refine z_pick (lv' := [(0, .ref (zo w + a)), (1, .int p1), (2, .long (0 : Int64)), (4, .int (0 : Int32))]) [2, 3, 1, 0] rfl ?_
  exact w_X5_claimsOfRank_5 C h_a0 h_a2 h_a7 h_a23 h_a24 h_a26 h_a29 h_a30 h_a31 h_a33  FU hf
set_option maxRecDepth 20000 in
theorem w_X5_partOf_18 {X : zC} {w : zV} {N : Nat} {h : zH} {a : Nat} {pr_day : Int32} {pr_pricing : Nat} {co_count : Int32} {ce_count : Int32} {ce_contract : Nat → Int32} {ce_open : Nat → Int64} {li_count : Int32} {li_contract : Nat → Int32} {li_amount : Nat → Int64} {li_filed : Nat → Int32} {li_withdrawn : Nat → Int32} {co_rank : Nat → Int32} (C : zK X w RX5 cX5_partOf 13 (some .long) (zr 2 69)) (h_a0 : zc N h (a + 0) (.inr (5, [.int pr_day, .ref (zo w + (a + 1)), .ref (zo w + (a + 2)), .ref (zo w + pr_pricing), .ref (zo w + (a + 13)), .ref (zo w + (a + 19)), .ref (zo w + (a + 23)), .ref (zo w + (a + 29)), .ref (zo w + (a + 34))]))) (h_a2 : zc N h (a + 2) (.inr (1, [.int co_count, .ref (zo w + (a + 3)), .ref (zo w + (a + 4)), .ref (zo w + (a + 5)), .ref (zo w + (a + 6)), .ref (zo w + (a + 7)), .ref (zo w + (a + 8)), .ref (zo w + (a + 9))]))) (h_a7 : zc N h (a + 7) (.inl (w.2.2.1 0, 8, .inl co_rank))) (h_a23 : zc N h (a + 23) (.inr (0, [.int ce_count, .ref (zo w + (a + 24)), .ref (zo w + (a + 25)), .ref (zo w + (a + 26)), .ref (zo w + (a + 27)), .ref (zo w + (a + 28))]))) (h_a24 : zc N h (a + 24) (.inl (w.2.2.1 0, 40, .inl ce_contract))) (h_a26 : zc N h (a + 26) (.inl (w.2.2.1 1, 40, .inr (.inl ce_open)))) (h_a29 : zc N h (a + 29) (.inr (3, [.int li_count, .ref (zo w + (a + 30)), .ref (zo w + (a + 31)), .ref (zo w + (a + 32)), .ref (zo w + (a + 33))]))) (h_a30 : zc N h (a + 30) (.inl (w.2.2.1 0, 12, .inl li_contract))) (h_a31 : zc N h (a + 31) (.inl (w.2.2.1 1, 12, .inr (.inl li_amount)))) (h_a32 : zc N h (a + 32) (.inl (w.2.2.1 0, 12, .inl li_filed))) (h_a33 : zc N h (a + 33) (.inl (w.2.2.1 3, 12, .inl li_withdrawn))) {r : Int64} (n : Nat) : ∀ {x1 : Int32} {x2 : Int64} {x4 : Int64} {x6 : Int64} {x8 : Int64} {x10 : Int32}, f_X5_partOf_18  n co_rank ce_count ce_contract ce_open li_count li_contract li_amount li_filed li_withdrawn x1 x2 x4 x6 x8 x10 = some r → zZ X w (zQ X w (zr 2 69) (some (.long r)) false N h) 0 0 false N h 18 [(0, .ref (zo w + a)), (1, .int x1), (2, .long x2), (4, .long x4), (6, .long x6), (8, .long x8), (10, .int x10)] [] := by
  induction n with
  | zero =>
    intro x1 x2 x4 x6 x8 x10 hf
    have hf : (none : Option (Int64)) = some r := hf
    cases hf
  | succ z ih =>
    intro x1 x2 x4 x6 x8 x10 hf
    rw [f_X5_partOf_18] at hf
    refine z_iload (pc' := 20) C 6 dX5_partOf_18 rfl rfl ?_
    refine z_aload_n (pc' := 21) C 0 dX5_partOf_20 rfl rfl rfl ?_
    refine z_getf (pc' := 24) C zci_5 zw_252 (j := 7) rfl h_a0 rfl rfl dX5_partOf_21 rfl ?_
    refine z_getf (pc' := 27) C zci_3 zw_212 (j := 0) rfl h_a29 rfl rfl dX5_partOf_24 rfl ?_
    refine z_icmp_ge (pc' := 30) C 98 hf dX5_partOf_27 rfl rfl (fun g_27 hf => ?_) (fun g_27 hf => ?_)
    · refine z_aload_n (pc' := 99) C 0 dX5_partOf_98 rfl rfl rfl ?_
      refine z_iload_n (pc' := 100) C 1 dX5_partOf_99 rfl rfl rfl ?_
      refine z_cV (pc' := 103) C hf (As := [.int x1]) (fun hq => c_X5_claimOf (a := a) h_a0 h_a23 h_a24 h_a26 h_a29 h_a30 h_a31 h_a33 hq) (fun _ => h) (fun q_100 => [.long q_100]) (fun _ => rfl) (fun _ => rfl) zy_X5_claimOf zw_433 zw_434 zw_435 (ci := 5) rfl h_a0 ⟨rfl, rfl⟩ rfl rfl rfl rfl rfl dX5_partOf_100 rfl (fun q_100 hf => ?_)
      refine z_lload_n (pc' := 104) C 2 dX5_partOf_103 rfl rfl rfl ?_
      refine z_lmul (pc' := 105) C dX5_partOf_104 rfl ?_
      refine z_lload (pc' := 107) C 3 dX5_partOf_105 rfl rfl ?_
      obtain ⟨g_107, hf⟩ := zG1_s hf
      refine z_ldiv (pc' := 108) C dX5_partOf_107 g_107 rfl ?_
      refine z_lstore (pc' := 110) C [(10, .long ((q_100 * x2) / x4)), (0, .ref (zo w + a)), (1, .int x1), (2, .long x2), (4, .long x4), (6, .long x6), (8, .long x8)] dX5_partOf_108 rfl rfl rfl ?_
      refine z_aload_n (pc' := 111) C 1 dX5_partOf_110 rfl rfl rfl ?_
      refine z_iload_n (pc' := 112) C 2 dX5_partOf_111 rfl rfl rfl ?_
      refine z_cV (pc' := 115) C hf (As := [.int x1]) (fun hq => c_X5_claimOf (a := a) h_a0 h_a23 h_a24 h_a26 h_a29 h_a30 h_a31 h_a33 hq) (fun _ => h) (fun q_112 => [.long q_112]) (fun _ => rfl) (fun _ => rfl) zy_X5_claimOf zw_433 zw_434 zw_435 (ci := 5) rfl h_a0 ⟨rfl, rfl⟩ rfl rfl rfl rfl rfl dX5_partOf_112 rfl (fun q_112 hf => ?_)
      refine z_lload (pc' := 117) C 0 dX5_partOf_115 rfl rfl ?_
      refine z_lcmp_le (pc' := 121) C 136 hf dX5_partOf_117 rfl dX5_partOf_118 rfl rfl (fun g_117 hf => ?_) (fun g_117 hf => ?_)
      · refine z_lload (pc' := 138) C 0 dX5_partOf_136 rfl rfl ?_
        cases hf
        exact z_lret C rfl rfl dX5_partOf_138
      · refine z_lload (pc' := 123) C 6 dX5_partOf_121 rfl rfl ?_
        refine z_lload (pc' := 125) C 5 dX5_partOf_123 rfl rfl ?_
        refine z_lcmp_ge (pc' := 129) C 136 hf dX5_partOf_125 rfl dX5_partOf_126 rfl rfl (fun g_125 hf => ?_) (fun g_125 hf => ?_)
        · refine z_lload (pc' := 138) C 0 dX5_partOf_136 rfl rfl ?_
          cases hf
          exact z_lret C rfl rfl dX5_partOf_138
        · refine z_lload (pc' := 131) C 0 dX5_partOf_129 rfl rfl ?_
          refine z_lconst (pc' := 132) C dX5_partOf_131 zl_1 rfl ?_
          refine z_ladd (pc' := 133) C dX5_partOf_132 rfl ?_
          refine z_goto C 138 dX5_partOf_133 rfl ?_
          cases hf
          exact z_lret C rfl rfl dX5_partOf_138
    · refine z_aload_n (pc' := 31) C 0 dX5_partOf_30 rfl rfl rfl ?_
      refine z_iload (pc' := 33) C 6 dX5_partOf_31 rfl rfl ?_
      refine z_cV (pc' := 36) C hf (As := [.int x10]) (fun hq => c_X5_rankOf (a := a) h_a0 h_a2 h_a7 h_a29 h_a30 hq) (fun _ => h) (fun q_33 => [.int q_33]) (fun _ => rfl) (fun _ => rfl) zy_X5_rankOf zw_1019 zw_1020 zw_1021 (ci := 5) rfl h_a0 ⟨rfl, rfl⟩ rfl rfl rfl rfl rfl dX5_partOf_33 rfl (fun q_33 hf => ?_)
      refine z_aload_n (pc' := 37) C 0 dX5_partOf_36 rfl rfl rfl ?_
      refine z_iload_n (pc' := 38) C 1 dX5_partOf_37 rfl rfl rfl ?_
      refine z_cV (pc' := 41) C hf (As := [.int x1]) (fun hq => c_X5_rankOf (a := a) h_a0 h_a2 h_a7 h_a29 h_a30 hq) (fun _ => h) (fun q_38 => [.int q_38, .int q_33]) (fun _ => rfl) (fun _ => rfl) zy_X5_rankOf zw_1019 zw_1020 zw_1021 (ci := 5) rfl h_a0 ⟨rfl, rfl⟩ rfl rfl rfl rfl rfl dX5_partOf_38 rfl (fun q_38 hf => ?_)
      refine z_icmp_ne (pc' := 44) C 92 hf dX5_partOf_41 rfl rfl (fun g_41 hf => ?_) (fun g_41 hf => ?_)
      · refine z_iinc (pc' := 95) C 6 [(10, .int (x10 + (1 : Int32))), (0, .ref (zo w + a)), (1, .int x1), (2, .long x2), (4, .long x4), (6, .long x6), (8, .long x8)] dX5_partOf_92 rfl zk_iconst_1 rfl rfl rfl ?_
        refine z_goto C 18 dX5_partOf_95 rfl ?_
        refine z_pick (lv' := [(0, .ref (zo w + a)), (1, .int x1), (2, .long x2), (4, .long x4), (6, .long x6), (8, .long x8), (10, .int (x10 + (1 : Int32)))]) [1, 2, 3, 4, 5, 6, 0] rfl ?_
        exact ih hf
      · refine z_aload_n (pc' := 45) C 0 dX5_partOf_44 rfl rfl rfl ?_
        refine z_iload (pc' := 47) C 6 dX5_partOf_45 rfl rfl ?_
        refine z_cV (pc' := 50) C hf (As := [.int x10]) (fun hq => c_X5_claimOf (a := a) h_a0 h_a23 h_a24 h_a26 h_a29 h_a30 h_a31 h_a33 hq) (fun _ => h) (fun q_47 => [.long q_47]) (fun _ => rfl) (fun _ => rfl) zy_X5_claimOf zw_433 zw_434 zw_435 (ci := 5) rfl h_a0 ⟨rfl, rfl⟩ rfl rfl rfl rfl rfl dX5_partOf_47 rfl (fun q_47 hf => ?_)
        refine z_lload_n (pc' := 51) C 2 dX5_partOf_50 rfl rfl rfl ?_
        refine z_lmul (pc' := 52) C dX5_partOf_51 rfl ?_
        refine z_lload (pc' := 54) C 3 dX5_partOf_52 rfl rfl ?_
        obtain ⟨g_54, hf⟩ := zG1_s hf
        refine z_ldiv (pc' := 55) C dX5_partOf_54 g_54 rfl ?_
        refine z_lstore (pc' := 57) C [(11, .long ((q_47 * x2) / x4)), (0, .ref (zo w + a)), (1, .int x1), (2, .long x2), (4, .long x4), (6, .long x6), (8, .long x8), (10, .int x10)] dX5_partOf_55 rfl rfl rfl ?_
        refine z_lload (pc' := 59) C 5 dX5_partOf_57 rfl rfl ?_
        refine z_lload (pc' := 61) C 0 dX5_partOf_59 rfl rfl ?_
        refine z_lsub (pc' := 62) C dX5_partOf_61 rfl ?_
        refine z_lstore (pc' := 64) C [(6, .long (x6 - ((q_47 * x2) / x4))), (11, .long ((q_47 * x2) / x4)), (0, .ref (zo w + a)), (1, .int x1), (2, .long x2), (4, .long x4), (8, .long x8), (10, .int x10)] dX5_partOf_62 rfl rfl rfl ?_
        refine z_aload_n (pc' := 65) C 2 dX5_partOf_64 rfl rfl rfl ?_
        refine z_iload (pc' := 67) C 7 dX5_partOf_65 rfl rfl ?_
        refine z_cV (pc' := 70) C hf (As := [.int x10]) (fun hq => c_X5_claimOf (a := a) h_a0 h_a23 h_a24 h_a26 h_a29 h_a30 h_a31 h_a33 hq) (fun _ => h) (fun q_67 => [.long q_67]) (fun _ => rfl) (fun _ => rfl) zy_X5_claimOf zw_433 zw_434 zw_435 (ci := 5) rfl h_a0 ⟨rfl, rfl⟩ rfl rfl rfl rfl rfl dX5_partOf_67 rfl (fun q_67 hf => ?_)
        refine z_lload (pc' := 72) C 1 dX5_partOf_70 rfl rfl ?_
        refine z_lcmp_le (pc' := 76) C 92 hf dX5_partOf_72 rfl dX5_partOf_73 rfl rfl (fun g_72 hf => ?_) (fun g_72 hf => ?_)
        · refine z_iinc (pc' := 95) C 7 [(10, .int (x10 + (1 : Int32))), (6, .long (x6 - ((q_47 * x2) / x4))), (11, .long ((q_47 * x2) / x4)), (0, .ref (zo w + a)), (1, .int x1), (2, .long x2), (4, .long x4), (8, .long x8)] dX5_partOf_92 rfl zk_iconst_1 rfl rfl rfl ?_
          refine z_goto C 18 dX5_partOf_95 rfl ?_
          refine z_pick (lv' := [(0, .ref (zo w + a)), (1, .int x1), (2, .long x2), (4, .long x4), (6, .long (x6 - ((q_47 * x2) / x4))), (8, .long x8), (10, .int (x10 + (1 : Int32)))]) [3, 4, 5, 6, 1, 7, 0] rfl ?_
          exact ih hf
        · refine z_aload_n (pc' := 77) C 2 dX5_partOf_76 rfl rfl rfl ?_
          refine z_iload (pc' := 79) C 7 dX5_partOf_77 rfl rfl ?_
          refine z_iload_n (pc' := 80) C 3 dX5_partOf_79 rfl rfl rfl ?_
          refine z_cV (pc' := 83) C hf (As := [.int x10, .int x1]) (fun hq => c_X5_precedes (a := a) h_a0 h_a2 h_a7 h_a29 h_a30 h_a32 hq) (fun _ => h) (fun q_80 => [.int q_80]) (fun _ => rfl) (fun _ => rfl) zy_X5_precedes zw_1015 zw_1016 zw_1017 (ci := 5) rfl h_a0 ⟨rfl, rfl⟩ rfl rfl rfl rfl rfl dX5_partOf_80 rfl (fun q_80 hf => ?_)
          refine z_if_eq (pc' := 86) C 92 hf dX5_partOf_83 rfl rfl (fun g_83 hf => ?_) (fun g_83 hf => ?_)
          · refine z_iinc (pc' := 95) C 7 [(10, .int (x10 + (1 : Int32))), (6, .long (x6 - ((q_47 * x2) / x4))), (11, .long ((q_47 * x2) / x4)), (0, .ref (zo w + a)), (1, .int x1), (2, .long x2), (4, .long x4), (8, .long x8)] dX5_partOf_92 rfl zk_iconst_1 rfl rfl rfl ?_
            refine z_goto C 18 dX5_partOf_95 rfl ?_
            refine z_pick (lv' := [(0, .ref (zo w + a)), (1, .int x1), (2, .long x2), (4, .long x4), (6, .long (x6 - ((q_47 * x2) / x4))), (8, .long x8), (10, .int (x10 + (1 : Int32)))]) [3, 4, 5, 6, 1, 7, 0] rfl ?_
            exact ih hf
          · refine z_lload (pc' := 88) C 6 dX5_partOf_86 rfl rfl ?_
            refine z_lconst (pc' := 89) C dX5_partOf_88 zl_1 rfl ?_
            refine z_ladd (pc' := 90) C dX5_partOf_89 rfl ?_
            refine z_lstore (pc' := 92) C [(8, .long (x8 + (1 : Int64))), (6, .long (x6 - ((q_47 * x2) / x4))), (11, .long ((q_47 * x2) / x4)), (0, .ref (zo w + a)), (1, .int x1), (2, .long x2), (4, .long x4), (10, .int x10)] dX5_partOf_90 rfl rfl rfl ?_
            refine z_iinc (pc' := 95) C 7 [(10, .int (x10 + (1 : Int32))), (8, .long (x8 + (1 : Int64))), (6, .long (x6 - ((q_47 * x2) / x4))), (11, .long ((q_47 * x2) / x4)), (0, .ref (zo w + a)), (1, .int x1), (2, .long x2), (4, .long x4)] dX5_partOf_92 rfl zk_iconst_1 rfl rfl rfl ?_
            refine z_goto C 18 dX5_partOf_95 rfl ?_
            refine z_pick (lv' := [(0, .ref (zo w + a)), (1, .int x1), (2, .long x2), (4, .long x4), (6, .long (x6 - ((q_47 * x2) / x4))), (8, .long (x8 + (1 : Int64))), (10, .int (x10 + (1 : Int32)))]) [4, 5, 6, 7, 2, 1, 0] rfl ?_
            exact ih hf
set_option maxRecDepth 20000 in
theorem c_X5_partOf {w : zV} {N : Nat} {h : zH} {a : Nat} {pr_day : Int32} {pr_pricing : Nat} {co_count : Int32} {ce_count : Int32} {ce_contract : Nat → Int32} {ce_open : Nat → Int64} {li_count : Int32} {li_contract : Nat → Int32} {li_amount : Nat → Int64} {li_filed : Nat → Int32} {li_withdrawn : Nat → Int32} {co_rank : Nat → Int32} {p1 : Int32} {p2 : Int64} {p4 : Int64} (h_a0 : zc N h (a + 0) (.inr (5, [.int pr_day, .ref (zo w + (a + 1)), .ref (zo w + (a + 2)), .ref (zo w + pr_pricing), .ref (zo w + (a + 13)), .ref (zo w + (a + 19)), .ref (zo w + (a + 23)), .ref (zo w + (a + 29)), .ref (zo w + (a + 34))]))) (h_a2 : zc N h (a + 2) (.inr (1, [.int co_count, .ref (zo w + (a + 3)), .ref (zo w + (a + 4)), .ref (zo w + (a + 5)), .ref (zo w + (a + 6)), .ref (zo w + (a + 7)), .ref (zo w + (a + 8)), .ref (zo w + (a + 9))]))) (h_a7 : zc N h (a + 7) (.inl (w.2.2.1 0, 8, .inl co_rank))) (h_a23 : zc N h (a + 23) (.inr (0, [.int ce_count, .ref (zo w + (a + 24)), .ref (zo w + (a + 25)), .ref (zo w + (a + 26)), .ref (zo w + (a + 27)), .ref (zo w + (a + 28))]))) (h_a24 : zc N h (a + 24) (.inl (w.2.2.1 0, 40, .inl ce_contract))) (h_a26 : zc N h (a + 26) (.inl (w.2.2.1 1, 40, .inr (.inl ce_open)))) (h_a29 : zc N h (a + 29) (.inr (3, [.int li_count, .ref (zo w + (a + 30)), .ref (zo w + (a + 31)), .ref (zo w + (a + 32)), .ref (zo w + (a + 33))]))) (h_a30 : zc N h (a + 30) (.inl (w.2.2.1 0, 12, .inl li_contract))) (h_a31 : zc N h (a + 31) (.inl (w.2.2.1 1, 12, .inr (.inl li_amount)))) (h_a32 : zc N h (a + 32) (.inl (w.2.2.1 0, 12, .inl li_filed))) (h_a33 : zc N h (a + 33) (.inl (w.2.2.1 3, 12, .inl li_withdrawn))) {r : Int64} (hf : f_X5_partOf co_rank ce_count ce_contract ce_open li_count li_contract li_amount li_filed li_withdrawn p1 p2 p4 = some r) : zM w yX5_partOf cX5_partOf 13 (some .long) (zr 2 69) false N N h [.ref (zo w + a), .int p1, .long p2, .long p4] (some (.long r)) h := by
  unfold f_X5_partOf at hf
  refine zM_of (by decide) rfl (fun X C _ => ?_)
  refine z_pick (lv' := [(0, .ref (zo w + a)), (1, .int p1), (2, .long p2), (4, .long p4)]) [0, 1, 2, 3] rfl ?_
  refine z_lload (pc' := 2) C 3 dX5_partOf_0 rfl rfl ?_
  refine z_lconst (pc' := 3) C dX5_partOf_2 zl_0 rfl ?_
  refine z_lcmp_gt (pc' := 7) C 9 hf dX5_partOf_3 rfl dX5_partOf_4 rfl rfl (fun g_3 hf => ?_) (fun g_3 hf => ?_)
  · refine z_lload_n (pc' := 10) C 2 dX5_partOf_9 rfl rfl rfl ?_
    refine z_lstore (pc' := 12) C [(6, .long p2), (0, .ref (zo w + a)), (1, .int p1), (2, .long p2), (4, .long p4)] dX5_partOf_10 rfl rfl rfl ?_
    refine z_lconst (pc' := 13) C dX5_partOf_12 zl_0 rfl ?_
    refine z_lstore (pc' := 15) C [(8, .long (0 : Int64)), (6, .long p2), (0, .ref (zo w + a)), (1, .int p1), (2, .long p2), (4, .long p4)] dX5_partOf_13 rfl rfl rfl ?_
    refine z_iconst (pc' := 16) C dX5_partOf_15 zk_iconst_0 rfl ?_
    refine z_istore (pc' := 18) C [(10, .int (0 : Int32)), (8, .long (0 : Int64)), (6, .long p2), (0, .ref (zo w + a)), (1, .int p1), (2, .long p2), (4, .long p4)] dX5_partOf_16 rfl rfl rfl ?_
    refine z_pick (lv' := [(0, .ref (zo w + a)), (1, .int p1), (2, .long p2), (4, .long p4), (6, .long p2), (8, .long (0 : Int64)), (10, .int (0 : Int32))]) [3, 4, 5, 6, 2, 1, 0] rfl ?_
    exact w_X5_partOf_18 C h_a0 h_a2 h_a7 h_a23 h_a24 h_a26 h_a29 h_a30 h_a31 h_a32 h_a33  FU hf
  · refine z_lconst (pc' := 8) C dX5_partOf_7 zl_0 rfl ?_
    cases hf
    exact z_lret C rfl rfl dX5_partOf_8
set_option maxRecDepth 20000 in
theorem w_X5_shareOf_6 {X : zC} {w : zV} {N : Nat} {h : zH} {a : Nat} {pr_day : Int32} {pr_pricing : Nat} {co_count : Int32} {ce_count : Int32} {ce_contract : Nat → Int32} {ce_open : Nat → Int64} {li_count : Int32} {li_contract : Nat → Int32} {li_amount : Nat → Int64} {li_filed : Nat → Int32} {li_withdrawn : Nat → Int32} {co_rank : Nat → Int32} (C : zK X w RX5 cX5_shareOf 9 (some .long) (zr 3 109)) (h_a0 : zc N h (a + 0) (.inr (5, [.int pr_day, .ref (zo w + (a + 1)), .ref (zo w + (a + 2)), .ref (zo w + pr_pricing), .ref (zo w + (a + 13)), .ref (zo w + (a + 19)), .ref (zo w + (a + 23)), .ref (zo w + (a + 29)), .ref (zo w + (a + 34))]))) (h_a2 : zc N h (a + 2) (.inr (1, [.int co_count, .ref (zo w + (a + 3)), .ref (zo w + (a + 4)), .ref (zo w + (a + 5)), .ref (zo w + (a + 6)), .ref (zo w + (a + 7)), .ref (zo w + (a + 8)), .ref (zo w + (a + 9))]))) (h_a7 : zc N h (a + 7) (.inl (w.2.2.1 0, 8, .inl co_rank))) (h_a23 : zc N h (a + 23) (.inr (0, [.int ce_count, .ref (zo w + (a + 24)), .ref (zo w + (a + 25)), .ref (zo w + (a + 26)), .ref (zo w + (a + 27)), .ref (zo w + (a + 28))]))) (h_a24 : zc N h (a + 24) (.inl (w.2.2.1 0, 40, .inl ce_contract))) (h_a26 : zc N h (a + 26) (.inl (w.2.2.1 1, 40, .inr (.inl ce_open)))) (h_a29 : zc N h (a + 29) (.inr (3, [.int li_count, .ref (zo w + (a + 30)), .ref (zo w + (a + 31)), .ref (zo w + (a + 32)), .ref (zo w + (a + 33))]))) (h_a30 : zc N h (a + 30) (.inl (w.2.2.1 0, 12, .inl li_contract))) (h_a31 : zc N h (a + 31) (.inl (w.2.2.1 1, 12, .inr (.inl li_amount)))) (h_a32 : zc N h (a + 32) (.inl (w.2.2.1 0, 12, .inl li_filed))) (h_a33 : zc N h (a + 33) (.inl (w.2.2.1 3, 12, .inl li_withdrawn))) {r : Int64} (n : Nat) : ∀ {x1 : Int32} {x4 : Int64} {x6 : Int32}, f_X5_shareOf_6  n co_rank ce_count ce_contract ce_open li_count li_contract li_amount li_filed li_withdrawn x1 x4 x6 = some r → zZ X w (zQ X w (zr 3 109) (some (.long r)) false N h) 0 0 false N h 6 [(0, .ref (zo w + a)), (1, .int x1), (4, .long x4), (6, .int x6)] [] := by
  induction n with
  | zero =>
    intro x1 x4 x6 hf
    have hf : (none : Option (Int64)) = some r := hf
    cases hf
  | succ z ih =>
    intro x1 x4 x6 hf
    rw [f_X5_shareOf_6] at hf
    refine z_iload (pc' := 8) C 3 dX5_shareOf_6 rfl rfl ?_
    refine z_aload_n (pc' := 9) C 0 dX5_shareOf_8 rfl rfl rfl ?_
    refine z_iload_n (pc' := 10) C 1 dX5_shareOf_9 rfl rfl rfl ?_
    refine z_cV (pc' := 13) C hf (As := [.int x1]) (fun hq => c_X5_rankOf (a := a) h_a0 h_a2 h_a7 h_a29 h_a30 hq) (fun _ => h) (fun q_10 => [.int q_10, .int x6]) (fun _ => rfl) (fun _ => rfl) zy_X5_rankOf zw_1019 zw_1020 zw_1021 (ci := 5) rfl h_a0 ⟨rfl, rfl⟩ rfl rfl rfl rfl rfl dX5_shareOf_10 rfl (fun q_10 hf => ?_)
    refine z_icmp_ge (pc' := 16) C 47 hf dX5_shareOf_13 rfl rfl (fun g_13 hf => ?_) (fun g_13 hf => ?_)
    · refine z_aload_n (pc' := 48) C 0 dX5_shareOf_47 rfl rfl rfl ?_
      refine z_aload_n (pc' := 49) C 0 dX5_shareOf_48 rfl rfl rfl ?_
      refine z_iload_n (pc' := 50) C 1 dX5_shareOf_49 rfl rfl rfl ?_
      refine z_cV (pc' := 53) C hf (As := [.int x1]) (fun hq => c_X5_rankOf (a := a) h_a0 h_a2 h_a7 h_a29 h_a30 hq) (fun _ => h) (fun q_50 => [.int q_50, .ref (zo w + a)]) (fun _ => rfl) (fun _ => rfl) zy_X5_rankOf zw_1019 zw_1020 zw_1021 (ci := 5) rfl h_a0 ⟨rfl, rfl⟩ rfl rfl rfl rfl rfl dX5_shareOf_50 rfl (fun q_50 hf => ?_)
      refine z_cV (pc' := 56) C hf (As := [.int q_50]) (fun hq => c_X5_claimsOfRank (a := a) h_a0 h_a2 h_a7 h_a23 h_a24 h_a26 h_a29 h_a30 h_a31 h_a33 hq) (fun _ => h) (fun q_53 => [.long q_53]) (fun _ => rfl) (fun _ => rfl) zy_X5_claimsOfRank zw_1035 zw_1036 zw_1037 (ci := 5) rfl h_a0 ⟨rfl, rfl⟩ rfl rfl rfl rfl rfl dX5_shareOf_53 rfl (fun q_53 hf => ?_)
      refine z_lstore (pc' := 58) C [(6, .long q_53), (0, .ref (zo w + a)), (1, .int x1), (4, .long x4)] dX5_shareOf_56 rfl rfl rfl ?_
      refine z_lload (pc' := 60) C 3 dX5_shareOf_58 rfl rfl ?_
      refine z_lload (pc' := 62) C 0 dX5_shareOf_60 rfl rfl ?_
      refine z_lcmp_lt (pc' := 66) C 74 hf dX5_shareOf_62 rfl dX5_shareOf_63 rfl rfl (fun g_62 hf => ?_) (fun g_62 hf => ?_)
      · refine z_aload_n (pc' := 75) C 1 dX5_shareOf_74 rfl rfl rfl ?_
        refine z_iload_n (pc' := 76) C 2 dX5_shareOf_75 rfl rfl rfl ?_
        refine z_lload (pc' := 78) C 3 dX5_shareOf_76 rfl rfl ?_
        refine z_lload (pc' := 80) C 0 dX5_shareOf_78 rfl rfl ?_
        refine z_cV (pc' := 83) C hf (As := [.int x1, .long x4, .long q_53]) (fun hq => c_X5_partOf (a := a) h_a0 h_a2 h_a7 h_a23 h_a24 h_a26 h_a29 h_a30 h_a31 h_a32 h_a33 hq) (fun _ => h) (fun q_80 => [.long q_80]) (fun _ => rfl) (fun _ => rfl) zy_X5_partOf zw_1039 zw_1040 zw_1041 (ci := 5) rfl h_a0 ⟨rfl, rfl⟩ rfl rfl rfl rfl rfl dX5_shareOf_80 rfl (fun q_80 hf => ?_)
        cases hf
        exact z_lret C rfl rfl dX5_shareOf_83
      · refine z_aload_n (pc' := 67) C 1 dX5_shareOf_66 rfl rfl rfl ?_
        refine z_iload_n (pc' := 68) C 2 dX5_shareOf_67 rfl rfl rfl ?_
        refine z_cV (pc' := 71) C hf (As := [.int x1]) (fun hq => c_X5_claimOf (a := a) h_a0 h_a23 h_a24 h_a26 h_a29 h_a30 h_a31 h_a33 hq) (fun _ => h) (fun q_68 => [.long q_68]) (fun _ => rfl) (fun _ => rfl) zy_X5_claimOf zw_433 zw_434 zw_435 (ci := 5) rfl h_a0 ⟨rfl, rfl⟩ rfl rfl rfl rfl rfl dX5_shareOf_68 rfl (fun q_68 hf => ?_)
        refine z_goto C 83 dX5_shareOf_71 rfl ?_
        cases hf
        exact z_lret C rfl rfl dX5_shareOf_83
    · refine z_aload_n (pc' := 17) C 0 dX5_shareOf_16 rfl rfl rfl ?_
      refine z_iload (pc' := 19) C 3 dX5_shareOf_17 rfl rfl ?_
      refine z_cV (pc' := 22) C hf (As := [.int x6]) (fun hq => c_X5_claimsOfRank (a := a) h_a0 h_a2 h_a7 h_a23 h_a24 h_a26 h_a29 h_a30 h_a31 h_a33 hq) (fun _ => h) (fun q_19 => [.long q_19]) (fun _ => rfl) (fun _ => rfl) zy_X5_claimsOfRank zw_1035 zw_1036 zw_1037 (ci := 5) rfl h_a0 ⟨rfl, rfl⟩ rfl rfl rfl rfl rfl dX5_shareOf_19 rfl (fun q_19 hf => ?_)
      refine z_lstore (pc' := 24) C [(7, .long q_19), (0, .ref (zo w + a)), (1, .int x1), (4, .long x4), (6, .int x6)] dX5_shareOf_22 rfl rfl rfl ?_
      refine z_lload (pc' := 26) C 3 dX5_shareOf_24 rfl rfl ?_
      refine z_lload (pc' := 28) C 0 dX5_shareOf_26 rfl rfl ?_
      refine z_lcmp_ge (pc' := 32) C 34 hf dX5_shareOf_28 rfl dX5_shareOf_29 rfl rfl (fun g_28 hf => ?_) (fun g_28 hf => ?_)
      · refine z_lload (pc' := 36) C 3 dX5_shareOf_34 rfl rfl ?_
        refine z_lload (pc' := 38) C 0 dX5_shareOf_36 rfl rfl ?_
        refine z_lsub (pc' := 39) C dX5_shareOf_38 rfl ?_
        refine z_lstore (pc' := 41) C [(4, .long (x4 - q_19)), (7, .long q_19), (0, .ref (zo w + a)), (1, .int x1), (6, .int x6)] dX5_shareOf_39 rfl rfl rfl ?_
        refine z_iinc (pc' := 44) C 4 [(6, .int (x6 + (1 : Int32))), (4, .long (x4 - q_19)), (7, .long q_19), (0, .ref (zo w + a)), (1, .int x1)] dX5_shareOf_41 rfl zk_iconst_1 rfl rfl rfl ?_
        refine z_goto C 6 dX5_shareOf_44 rfl ?_
        refine z_pick (lv' := [(0, .ref (zo w + a)), (1, .int x1), (4, .long (x4 - q_19)), (6, .int (x6 + (1 : Int32)))]) [3, 4, 1, 0] rfl ?_
        exact ih hf
      · refine z_lconst (pc' := 33) C dX5_shareOf_32 zl_0 rfl ?_
        cases hf
        exact z_lret C rfl rfl dX5_shareOf_33
set_option maxRecDepth 20000 in
theorem c_X5_shareOf {w : zV} {N : Nat} {h : zH} {a : Nat} {pr_day : Int32} {pr_pricing : Nat} {co_count : Int32} {ce_count : Int32} {ce_contract : Nat → Int32} {ce_open : Nat → Int64} {li_count : Int32} {li_contract : Nat → Int32} {li_amount : Nat → Int64} {li_filed : Nat → Int32} {li_withdrawn : Nat → Int32} {co_rank : Nat → Int32} {p1 : Int32} {p2 : Int64} (h_a0 : zc N h (a + 0) (.inr (5, [.int pr_day, .ref (zo w + (a + 1)), .ref (zo w + (a + 2)), .ref (zo w + pr_pricing), .ref (zo w + (a + 13)), .ref (zo w + (a + 19)), .ref (zo w + (a + 23)), .ref (zo w + (a + 29)), .ref (zo w + (a + 34))]))) (h_a2 : zc N h (a + 2) (.inr (1, [.int co_count, .ref (zo w + (a + 3)), .ref (zo w + (a + 4)), .ref (zo w + (a + 5)), .ref (zo w + (a + 6)), .ref (zo w + (a + 7)), .ref (zo w + (a + 8)), .ref (zo w + (a + 9))]))) (h_a7 : zc N h (a + 7) (.inl (w.2.2.1 0, 8, .inl co_rank))) (h_a23 : zc N h (a + 23) (.inr (0, [.int ce_count, .ref (zo w + (a + 24)), .ref (zo w + (a + 25)), .ref (zo w + (a + 26)), .ref (zo w + (a + 27)), .ref (zo w + (a + 28))]))) (h_a24 : zc N h (a + 24) (.inl (w.2.2.1 0, 40, .inl ce_contract))) (h_a26 : zc N h (a + 26) (.inl (w.2.2.1 1, 40, .inr (.inl ce_open)))) (h_a29 : zc N h (a + 29) (.inr (3, [.int li_count, .ref (zo w + (a + 30)), .ref (zo w + (a + 31)), .ref (zo w + (a + 32)), .ref (zo w + (a + 33))]))) (h_a30 : zc N h (a + 30) (.inl (w.2.2.1 0, 12, .inl li_contract))) (h_a31 : zc N h (a + 31) (.inl (w.2.2.1 1, 12, .inr (.inl li_amount)))) (h_a32 : zc N h (a + 32) (.inl (w.2.2.1 0, 12, .inl li_filed))) (h_a33 : zc N h (a + 33) (.inl (w.2.2.1 3, 12, .inl li_withdrawn))) {r : Int64} (hf : f_X5_shareOf co_rank ce_count ce_contract ce_open li_count li_contract li_amount li_filed li_withdrawn p1 p2 = some r) : zM w yX5_shareOf cX5_shareOf 9 (some .long) (zr 3 109) false N N h [.ref (zo w + a), .int p1, .long p2] (some (.long r)) h := by
  unfold f_X5_shareOf at hf
  refine zM_of (by decide) rfl (fun X C _ => ?_)
  refine z_pick (lv' := [(0, .ref (zo w + a)), (1, .int p1), (2, .long p2)]) [0, 1, 2] rfl ?_
  refine z_lload_n (pc' := 1) C 2 dX5_shareOf_0 rfl rfl rfl ?_
  refine z_lstore (pc' := 3) C [(4, .long p2), (0, .ref (zo w + a)), (1, .int p1), (2, .long p2)] dX5_shareOf_1 rfl rfl rfl ?_
  refine z_iconst (pc' := 4) C dX5_shareOf_3 zk_iconst_0 rfl ?_
  refine z_istore (pc' := 6) C [(6, .int (0 : Int32)), (4, .long p2), (0, .ref (zo w + a)), (1, .int p1), (2, .long p2)] dX5_shareOf_4 rfl rfl rfl ?_
  refine z_pick (lv' := [(0, .ref (zo w + a)), (1, .int p1), (4, .long p2), (6, .int (0 : Int32))]) [2, 3, 1, 0] rfl ?_
  exact w_X5_shareOf_6 C h_a0 h_a2 h_a7 h_a23 h_a24 h_a26 h_a29 h_a30 h_a31 h_a32 h_a33  FU hf
set_option maxRecDepth 20000 in
theorem w_X5_checksumOfAll_134 {X : zC} {w : zV} {N : Nat} {h : zH} {a : Nat} {pr_day : Int32} {pr_pricing : Nat} {pr_accounts : Nat → Int64} {it_count : Nat → Int32} {it_first : Nat → Int32} {it_price : Nat → Int32} {it_quantity : Nat → Int32} {it_progress : Nat → Int32} {va_count : Int32} {co_count : Int32} {ce_count : Int32} {ce_contract : Nat → Int32} {ce_amount : Nat → Int64} {ce_open : Nat → Int64} {li_count : Int32} {li_contract : Nat → Int32} {li_amount : Nat → Int64} {li_withdrawn : Nat → Int32} {co_stage : Nat → Int32} {pg_threshold : Int32} {pg_length : Int32} {pg_clen : Nat} {pg_code : Nat → Int32} (C : zK X w RX5 cX5_checksumOfAll 4 (some .long) (zr 6 205)) (h_a0 : zc N h (a + 0) (.inr (5, [.int pr_day, .ref (zo w + (a + 1)), .ref (zo w + (a + 2)), .ref (zo w + pr_pricing), .ref (zo w + (a + 13)), .ref (zo w + (a + 19)), .ref (zo w + (a + 23)), .ref (zo w + (a + 29)), .ref (zo w + (a + 34))]))) (h_a1 : zc N h (a + 1) (.inl (w.2.2.1 1, 9, .inr (.inl pr_accounts)))) (h_a2 : zc N h (a + 2) (.inr (1, [.int co_count, .ref (zo w + (a + 3)), .ref (zo w + (a + 4)), .ref (zo w + (a + 5)), .ref (zo w + (a + 6)), .ref (zo w + (a + 7)), .ref (zo w + (a + 8)), .ref (zo w + (a + 9))]))) (h_a9 : zc N h (a + 9) (.inl (w.2.2.1 0, 8, .inl co_stage))) (h_a13 : zc N h (a + 13) (.inr (2, [.ref (zo w + (a + 14)), .ref (zo w + (a + 15)), .ref (zo w + (a + 16)), .ref (zo w + (a + 17)), .ref (zo w + (a + 18))]))) (h_a14 : zc N h (a + 14) (.inl (w.2.2.1 0, 8, .inl it_count))) (h_a15 : zc N h (a + 15) (.inl (w.2.2.1 0, 48, .inl it_first))) (h_a16 : zc N h (a + 16) (.inl (w.2.2.1 0, 48, .inl it_price))) (h_a17 : zc N h (a + 17) (.inl (w.2.2.1 0, 48, .inl it_quantity))) (h_a18 : zc N h (a + 18) (.inl (w.2.2.1 0, 48, .inl it_progress))) (h_a19 : zc N h (a + 19) (.inr (7, [.int va_count, .ref (zo w + (a + 20)), .ref (zo w + (a + 21)), .ref (zo w + (a + 22))]))) (h_a23 : zc N h (a + 23) (.inr (0, [.int ce_count, .ref (zo w + (a + 24)), .ref (zo w + (a + 25)), .ref (zo w + (a + 26)), .ref (zo w + (a + 27)), .ref (zo w + (a + 28))]))) (h_a24 : zc N h (a + 24) (.inl (w.2.2.1 0, 40, .inl ce_contract))) (h_a25 : zc N h (a + 25) (.inl (w.2.2.1 1, 40, .inr (.inl ce_amount)))) (h_a26 : zc N h (a + 26) (.inl (w.2.2.1 1, 40, .inr (.inl ce_open)))) (h_a29 : zc N h (a + 29) (.inr (3, [.int li_count, .ref (zo w + (a + 30)), .ref (zo w + (a + 31)), .ref (zo w + (a + 32)), .ref (zo w + (a + 33))]))) (h_a30 : zc N h (a + 30) (.inl (w.2.2.1 0, 12, .inl li_contract))) (h_a31 : zc N h (a + 31) (.inl (w.2.2.1 1, 12, .inr (.inl li_amount)))) (h_a33 : zc N h (a + 33) (.inl (w.2.2.1 3, 12, .inl li_withdrawn))) (h_pr_pricing0 : zc N h (pr_pricing + 0) (.inr (4, [.int pg_threshold, .int pg_length, .ref (zo w + (pr_pricing + 2)), .ref (zo w + (pr_pricing + 1))]))) (n_pr_pricing1 : pr_pricing + 1 < N) (h_pr_pricing2 : zc N h (pr_pricing + 2) (.inl (w.2.2.1 0, pg_clen, .inl pg_code))) (far_a : pr_pricing + 1 < a ∨ a + 35 ≤ pr_pricing + 1 ∨ pr_pricing = a + 10) {r : Int64 × (Nat → Int32)} (n : Nat) : ∀ {pg_stack : Nat → Int32} {x1 : Int64} {x3 : Int32}, f_X5_checksumOfAll_134  n pg_stack va_count ce_count ce_contract ce_open li_count li_contract li_amount li_withdrawn x1 x3 = some r → zZ X w (zQ X w (zr 6 205) (some (.long r.1)) false N (zu h pr_pricing [(1, .inl (w.2.2.1 0, 16, .inl r.2))])) 0 0 false N (zu h pr_pricing [(1, .inl (w.2.2.1 0, 16, .inl pg_stack))]) 134 [(0, .ref (zo w + a)), (1, .long x1), (3, .int x3)] [] := by
  induction n with
  | zero =>
    intro pg_stack x1 x3 hf
    have hf : (none : Option (Int64 × (Nat → Int32))) = some r := hf
    cases hf
  | succ z ih =>
    intro pg_stack x1 x3 hf
    rw [f_X5_checksumOfAll_134] at hf
    refine z_iload_n (pc' := 135) C 2 dX5_checksumOfAll_134 rfl rfl rfl ?_
    refine z_aload_n (pc' := 136) C 0 dX5_checksumOfAll_135 rfl rfl rfl ?_
    refine z_getf (pc' := 139) C zci_5 zw_252 (j := 7) rfl (zc_1 h_a0 (by omega)) rfl rfl dX5_checksumOfAll_136 rfl ?_
    refine z_getf (pc' := 142) C zci_3 zw_212 (j := 0) rfl (zc_1 h_a29 (by omega)) rfl rfl dX5_checksumOfAll_139 rfl ?_
    refine z_icmp_ge (pc' := 145) C 163 hf dX5_checksumOfAll_142 rfl rfl (fun g_142 hf => ?_) (fun g_142 hf => ?_)
    · refine z_ldc2 (pc' := 166) C zw_389 dX5_checksumOfAll_163 rfl ?_
      refine z_lload_n (pc' := 167) C 1 dX5_checksumOfAll_166 rfl rfl rfl ?_
      refine z_lmul (pc' := 168) C dX5_checksumOfAll_167 rfl ?_
      refine z_aload_n (pc' := 169) C 0 dX5_checksumOfAll_168 rfl rfl rfl ?_
      refine z_getf (pc' := 172) C zci_5 zw_248 (j := 5) rfl (zc_1 h_a0 (by omega)) rfl rfl dX5_checksumOfAll_169 rfl ?_
      refine z_getf (pc' := 175) C zci_7 zw_151 (j := 0) rfl (zc_1 h_a19 (by omega)) rfl rfl dX5_checksumOfAll_172 rfl ?_
      refine z_i2l (pc' := 176) C dX5_checksumOfAll_175 rfl ?_
      refine z_ladd (pc' := 177) C dX5_checksumOfAll_176 rfl ?_
      cases hf
      exact z_lret C rfl rfl dX5_checksumOfAll_177
    · refine z_ldc2 (pc' := 148) C zw_389 dX5_checksumOfAll_145 rfl ?_
      refine z_lload_n (pc' := 149) C 1 dX5_checksumOfAll_148 rfl rfl rfl ?_
      refine z_lmul (pc' := 150) C dX5_checksumOfAll_149 rfl ?_
      refine z_aload_n (pc' := 151) C 0 dX5_checksumOfAll_150 rfl rfl rfl ?_
      refine z_iload_n (pc' := 152) C 2 dX5_checksumOfAll_151 rfl rfl rfl ?_
      refine z_cV (pc' := 155) C hf (As := [.int x3]) (fun hq => c_X5_claimOf (a := a) (zc_1 h_a0 (by omega)) (zc_1 h_a23 (by omega)) (zc_1 h_a24 (by omega)) (zc_1 h_a26 (by omega)) (zc_1 h_a29 (by omega)) (zc_1 h_a30 (by omega)) (zc_1 h_a31 (by omega)) (zc_1 h_a33 (by omega)) hq) (fun _ => (zu h pr_pricing [(1, .inl (w.2.2.1 0, 16, .inl pg_stack))])) (fun q_152 => [.long q_152, .long ((31 : Int64) * x1)]) (fun _ => rfl) (fun _ => rfl) zy_X5_claimOf zw_433 zw_434 zw_435 (ci := 5) rfl (zc_1 h_a0 (by omega)) ⟨rfl, rfl⟩ rfl rfl rfl rfl rfl dX5_checksumOfAll_152 rfl (fun q_152 hf => ?_)
      refine z_ladd (pc' := 156) C dX5_checksumOfAll_155 rfl ?_
      refine z_lstore_n (pc' := 157) C [(1, .long (((31 : Int64) * x1) + q_152)), (0, .ref (zo w + a)), (3, .int x3)] dX5_checksumOfAll_156 rfl rfl rfl rfl ?_
      refine z_iinc (pc' := 160) C 2 [(3, .int (x3 + (1 : Int32))), (1, .long (((31 : Int64) * x1) + q_152)), (0, .ref (zo w + a))] dX5_checksumOfAll_157 rfl zk_iconst_1 rfl rfl rfl ?_
      refine z_goto C 134 dX5_checksumOfAll_160 rfl ?_
      refine z_pick (lv' := [(0, .ref (zo w + a)), (1, .long (((31 : Int64) * x1) + q_152)), (3, .int (x3 + (1 : Int32)))]) [2, 1, 0] rfl ?_
      exact ih hf
set_option maxRecDepth 20000 in
theorem w_X5_checksumOfAll_99 {X : zC} {w : zV} {N : Nat} {h : zH} {a : Nat} {pr_day : Int32} {pr_pricing : Nat} {pr_accounts : Nat → Int64} {it_count : Nat → Int32} {it_first : Nat → Int32} {it_price : Nat → Int32} {it_quantity : Nat → Int32} {it_progress : Nat → Int32} {va_count : Int32} {co_count : Int32} {ce_count : Int32} {ce_contract : Nat → Int32} {ce_amount : Nat → Int64} {ce_open : Nat → Int64} {li_count : Int32} {li_contract : Nat → Int32} {li_amount : Nat → Int64} {li_withdrawn : Nat → Int32} {co_stage : Nat → Int32} {pg_threshold : Int32} {pg_length : Int32} {pg_clen : Nat} {pg_code : Nat → Int32} (C : zK X w RX5 cX5_checksumOfAll 4 (some .long) (zr 6 205)) (h_a0 : zc N h (a + 0) (.inr (5, [.int pr_day, .ref (zo w + (a + 1)), .ref (zo w + (a + 2)), .ref (zo w + pr_pricing), .ref (zo w + (a + 13)), .ref (zo w + (a + 19)), .ref (zo w + (a + 23)), .ref (zo w + (a + 29)), .ref (zo w + (a + 34))]))) (h_a1 : zc N h (a + 1) (.inl (w.2.2.1 1, 9, .inr (.inl pr_accounts)))) (h_a2 : zc N h (a + 2) (.inr (1, [.int co_count, .ref (zo w + (a + 3)), .ref (zo w + (a + 4)), .ref (zo w + (a + 5)), .ref (zo w + (a + 6)), .ref (zo w + (a + 7)), .ref (zo w + (a + 8)), .ref (zo w + (a + 9))]))) (h_a9 : zc N h (a + 9) (.inl (w.2.2.1 0, 8, .inl co_stage))) (h_a13 : zc N h (a + 13) (.inr (2, [.ref (zo w + (a + 14)), .ref (zo w + (a + 15)), .ref (zo w + (a + 16)), .ref (zo w + (a + 17)), .ref (zo w + (a + 18))]))) (h_a14 : zc N h (a + 14) (.inl (w.2.2.1 0, 8, .inl it_count))) (h_a15 : zc N h (a + 15) (.inl (w.2.2.1 0, 48, .inl it_first))) (h_a16 : zc N h (a + 16) (.inl (w.2.2.1 0, 48, .inl it_price))) (h_a17 : zc N h (a + 17) (.inl (w.2.2.1 0, 48, .inl it_quantity))) (h_a18 : zc N h (a + 18) (.inl (w.2.2.1 0, 48, .inl it_progress))) (h_a19 : zc N h (a + 19) (.inr (7, [.int va_count, .ref (zo w + (a + 20)), .ref (zo w + (a + 21)), .ref (zo w + (a + 22))]))) (h_a23 : zc N h (a + 23) (.inr (0, [.int ce_count, .ref (zo w + (a + 24)), .ref (zo w + (a + 25)), .ref (zo w + (a + 26)), .ref (zo w + (a + 27)), .ref (zo w + (a + 28))]))) (h_a24 : zc N h (a + 24) (.inl (w.2.2.1 0, 40, .inl ce_contract))) (h_a25 : zc N h (a + 25) (.inl (w.2.2.1 1, 40, .inr (.inl ce_amount)))) (h_a26 : zc N h (a + 26) (.inl (w.2.2.1 1, 40, .inr (.inl ce_open)))) (h_a29 : zc N h (a + 29) (.inr (3, [.int li_count, .ref (zo w + (a + 30)), .ref (zo w + (a + 31)), .ref (zo w + (a + 32)), .ref (zo w + (a + 33))]))) (h_a30 : zc N h (a + 30) (.inl (w.2.2.1 0, 12, .inl li_contract))) (h_a31 : zc N h (a + 31) (.inl (w.2.2.1 1, 12, .inr (.inl li_amount)))) (h_a33 : zc N h (a + 33) (.inl (w.2.2.1 3, 12, .inl li_withdrawn))) (h_pr_pricing0 : zc N h (pr_pricing + 0) (.inr (4, [.int pg_threshold, .int pg_length, .ref (zo w + (pr_pricing + 2)), .ref (zo w + (pr_pricing + 1))]))) (n_pr_pricing1 : pr_pricing + 1 < N) (h_pr_pricing2 : zc N h (pr_pricing + 2) (.inl (w.2.2.1 0, pg_clen, .inl pg_code))) (far_a : pr_pricing + 1 < a ∨ a + 35 ≤ pr_pricing + 1 ∨ pr_pricing = a + 10) {r : Int64 × (Nat → Int32)} (n : Nat) : ∀ {pg_stack : Nat → Int32} {x1 : Int64} {x3 : Int32}, f_X5_checksumOfAll_99  n pg_stack va_count ce_count ce_contract ce_open li_count li_contract li_amount li_withdrawn x1 x3 = some r → zZ X w (zQ X w (zr 6 205) (some (.long r.1)) false N (zu h pr_pricing [(1, .inl (w.2.2.1 0, 16, .inl r.2))])) 0 0 false N (zu h pr_pricing [(1, .inl (w.2.2.1 0, 16, .inl pg_stack))]) 99 [(0, .ref (zo w + a)), (1, .long x1), (3, .int x3)] [] := by
  induction n with
  | zero =>
    intro pg_stack x1 x3 hf
    have hf : (none : Option (Int64 × (Nat → Int32))) = some r := hf
    cases hf
  | succ z ih =>
    intro pg_stack x1 x3 hf
    rw [f_X5_checksumOfAll_99] at hf
    refine z_iload_n (pc' := 100) C 2 dX5_checksumOfAll_99 rfl rfl rfl ?_
    refine z_aload_n (pc' := 101) C 0 dX5_checksumOfAll_100 rfl rfl rfl ?_
    refine z_getf (pc' := 104) C zci_5 zw_250 (j := 6) rfl (zc_1 h_a0 (by omega)) rfl rfl dX5_checksumOfAll_101 rfl ?_
    refine z_getf (pc' := 107) C zci_0 zw_177 (j := 0) rfl (zc_1 h_a23 (by omega)) rfl rfl dX5_checksumOfAll_104 rfl ?_
    refine z_icmp_ge (pc' := 110) C 132 hf dX5_checksumOfAll_107 rfl rfl (fun g_107 hf => ?_) (fun g_107 hf => ?_)
    · refine z_iconst (pc' := 133) C dX5_checksumOfAll_132 zk_iconst_0 rfl ?_
      refine z_istore_n (pc' := 134) C [(3, .int (0 : Int32)), (0, .ref (zo w + a)), (1, .long x1)] dX5_checksumOfAll_133 rfl rfl rfl rfl ?_
      refine z_pick (lv' := [(0, .ref (zo w + a)), (1, .long x1), (3, .int (0 : Int32))]) [1, 2, 0] rfl ?_
      exact w_X5_checksumOfAll_134 C h_a0 h_a1 h_a2 h_a9 h_a13 h_a14 h_a15 h_a16 h_a17 h_a18 h_a19 h_a23 h_a24 h_a25 h_a26 h_a29 h_a30 h_a31 h_a33 h_pr_pricing0 n_pr_pricing1 h_pr_pricing2 far_a  FU hf
    · refine z_ldc2 (pc' := 113) C zw_389 dX5_checksumOfAll_110 rfl ?_
      refine z_lload_n (pc' := 114) C 1 dX5_checksumOfAll_113 rfl rfl rfl ?_
      refine z_lmul (pc' := 115) C dX5_checksumOfAll_114 rfl ?_
      refine z_aload_n (pc' := 116) C 0 dX5_checksumOfAll_115 rfl rfl rfl ?_
      refine z_getf (pc' := 119) C zci_5 zw_250 (j := 6) rfl (zc_1 h_a0 (by omega)) rfl rfl dX5_checksumOfAll_116 rfl ?_
      refine z_getf (pc' := 122) C zci_0 zw_185 (j := 3) rfl (zc_1 h_a23 (by omega)) rfl rfl dX5_checksumOfAll_119 rfl ?_
      refine z_iload_n (pc' := 123) C 2 dX5_checksumOfAll_122 rfl rfl rfl ?_
      refine z_lald (pc' := 124) C hf (zc_1 h_a26 (by omega)) dX5_checksumOfAll_123 rfl (fun v_123 hf => ?_)
      refine z_ladd (pc' := 125) C dX5_checksumOfAll_124 rfl ?_
      refine z_lstore_n (pc' := 126) C [(1, .long (((31 : Int64) * x1) + v_123)), (0, .ref (zo w + a)), (3, .int x3)] dX5_checksumOfAll_125 rfl rfl rfl rfl ?_
      refine z_iinc (pc' := 129) C 2 [(3, .int (x3 + (1 : Int32))), (1, .long (((31 : Int64) * x1) + v_123)), (0, .ref (zo w + a))] dX5_checksumOfAll_126 rfl zk_iconst_1 rfl rfl rfl ?_
      refine z_goto C 99 dX5_checksumOfAll_129 rfl ?_
      refine z_pick (lv' := [(0, .ref (zo w + a)), (1, .long (((31 : Int64) * x1) + v_123)), (3, .int (x3 + (1 : Int32)))]) [2, 1, 0] rfl ?_
      exact ih hf
set_option maxRecDepth 20000 in
theorem w_X5_checksumOfAll_21 {X : zC} {w : zV} {N : Nat} {h : zH} {a : Nat} {pr_day : Int32} {pr_pricing : Nat} {pr_accounts : Nat → Int64} {it_count : Nat → Int32} {it_first : Nat → Int32} {it_price : Nat → Int32} {it_quantity : Nat → Int32} {it_progress : Nat → Int32} {va_count : Int32} {co_count : Int32} {ce_count : Int32} {ce_contract : Nat → Int32} {ce_amount : Nat → Int64} {ce_open : Nat → Int64} {li_count : Int32} {li_contract : Nat → Int32} {li_amount : Nat → Int64} {li_withdrawn : Nat → Int32} {co_stage : Nat → Int32} {pg_threshold : Int32} {pg_length : Int32} {pg_clen : Nat} {pg_code : Nat → Int32} (C : zK X w RX5 cX5_checksumOfAll 4 (some .long) (zr 6 205)) (h_a0 : zc N h (a + 0) (.inr (5, [.int pr_day, .ref (zo w + (a + 1)), .ref (zo w + (a + 2)), .ref (zo w + pr_pricing), .ref (zo w + (a + 13)), .ref (zo w + (a + 19)), .ref (zo w + (a + 23)), .ref (zo w + (a + 29)), .ref (zo w + (a + 34))]))) (h_a1 : zc N h (a + 1) (.inl (w.2.2.1 1, 9, .inr (.inl pr_accounts)))) (h_a2 : zc N h (a + 2) (.inr (1, [.int co_count, .ref (zo w + (a + 3)), .ref (zo w + (a + 4)), .ref (zo w + (a + 5)), .ref (zo w + (a + 6)), .ref (zo w + (a + 7)), .ref (zo w + (a + 8)), .ref (zo w + (a + 9))]))) (h_a9 : zc N h (a + 9) (.inl (w.2.2.1 0, 8, .inl co_stage))) (h_a13 : zc N h (a + 13) (.inr (2, [.ref (zo w + (a + 14)), .ref (zo w + (a + 15)), .ref (zo w + (a + 16)), .ref (zo w + (a + 17)), .ref (zo w + (a + 18))]))) (h_a14 : zc N h (a + 14) (.inl (w.2.2.1 0, 8, .inl it_count))) (h_a15 : zc N h (a + 15) (.inl (w.2.2.1 0, 48, .inl it_first))) (h_a16 : zc N h (a + 16) (.inl (w.2.2.1 0, 48, .inl it_price))) (h_a17 : zc N h (a + 17) (.inl (w.2.2.1 0, 48, .inl it_quantity))) (h_a18 : zc N h (a + 18) (.inl (w.2.2.1 0, 48, .inl it_progress))) (h_a19 : zc N h (a + 19) (.inr (7, [.int va_count, .ref (zo w + (a + 20)), .ref (zo w + (a + 21)), .ref (zo w + (a + 22))]))) (h_a23 : zc N h (a + 23) (.inr (0, [.int ce_count, .ref (zo w + (a + 24)), .ref (zo w + (a + 25)), .ref (zo w + (a + 26)), .ref (zo w + (a + 27)), .ref (zo w + (a + 28))]))) (h_a24 : zc N h (a + 24) (.inl (w.2.2.1 0, 40, .inl ce_contract))) (h_a25 : zc N h (a + 25) (.inl (w.2.2.1 1, 40, .inr (.inl ce_amount)))) (h_a26 : zc N h (a + 26) (.inl (w.2.2.1 1, 40, .inr (.inl ce_open)))) (h_a29 : zc N h (a + 29) (.inr (3, [.int li_count, .ref (zo w + (a + 30)), .ref (zo w + (a + 31)), .ref (zo w + (a + 32)), .ref (zo w + (a + 33))]))) (h_a30 : zc N h (a + 30) (.inl (w.2.2.1 0, 12, .inl li_contract))) (h_a31 : zc N h (a + 31) (.inl (w.2.2.1 1, 12, .inr (.inl li_amount)))) (h_a33 : zc N h (a + 33) (.inl (w.2.2.1 3, 12, .inl li_withdrawn))) (h_pr_pricing0 : zc N h (pr_pricing + 0) (.inr (4, [.int pg_threshold, .int pg_length, .ref (zo w + (pr_pricing + 2)), .ref (zo w + (pr_pricing + 1))]))) (n_pr_pricing1 : pr_pricing + 1 < N) (h_pr_pricing2 : zc N h (pr_pricing + 2) (.inl (w.2.2.1 0, pg_clen, .inl pg_code))) (far_a : pr_pricing + 1 < a ∨ a + 35 ≤ pr_pricing + 1 ∨ pr_pricing = a + 10) {r : Int64 × (Nat → Int32)} (n : Nat) : ∀ {pg_stack : Nat → Int32} {x1 : Int64} {x3 : Int32}, f_X5_checksumOfAll_21  n pr_accounts co_count co_stage pg_threshold pg_length pg_clen pg_code pg_stack it_count it_first it_price it_quantity it_progress va_count ce_count ce_contract ce_amount ce_open li_count li_contract li_amount li_withdrawn x1 x3 = some r → zZ X w (zQ X w (zr 6 205) (some (.long r.1)) false N (zu h pr_pricing [(1, .inl (w.2.2.1 0, 16, .inl r.2))])) 0 0 false N (zu h pr_pricing [(1, .inl (w.2.2.1 0, 16, .inl pg_stack))]) 21 [(0, .ref (zo w + a)), (1, .long x1), (3, .int x3)] [] := by
  induction n with
  | zero =>
    intro pg_stack x1 x3 hf
    have hf : (none : Option (Int64 × (Nat → Int32))) = some r := hf
    cases hf
  | succ z ih =>
    intro pg_stack x1 x3 hf
    rw [f_X5_checksumOfAll_21] at hf
    refine z_iload_n (pc' := 22) C 2 dX5_checksumOfAll_21 rfl rfl rfl ?_
    refine z_aload_n (pc' := 23) C 0 dX5_checksumOfAll_22 rfl rfl rfl ?_
    refine z_getf (pc' := 26) C zci_5 zw_239 (j := 2) rfl (zc_1 h_a0 (by omega)) rfl rfl dX5_checksumOfAll_23 rfl ?_
    refine z_getf (pc' := 29) C zci_1 zw_50 (j := 0) rfl (zc_1 h_a2 (by omega)) rfl rfl dX5_checksumOfAll_26 rfl ?_
    refine z_icmp_ge (pc' := 32) C 97 hf dX5_checksumOfAll_29 rfl rfl (fun g_29 hf => ?_) (fun g_29 hf => ?_)
    · refine z_iconst (pc' := 98) C dX5_checksumOfAll_97 zk_iconst_0 rfl ?_
      refine z_istore_n (pc' := 99) C [(3, .int (0 : Int32)), (0, .ref (zo w + a)), (1, .long x1)] dX5_checksumOfAll_98 rfl rfl rfl rfl ?_
      refine z_pick (lv' := [(0, .ref (zo w + a)), (1, .long x1), (3, .int (0 : Int32))]) [1, 2, 0] rfl ?_
      exact w_X5_checksumOfAll_99 C h_a0 h_a1 h_a2 h_a9 h_a13 h_a14 h_a15 h_a16 h_a17 h_a18 h_a19 h_a23 h_a24 h_a25 h_a26 h_a29 h_a30 h_a31 h_a33 h_pr_pricing0 n_pr_pricing1 h_pr_pricing2 far_a  FU hf
    · refine z_ldc2 (pc' := 35) C zw_389 dX5_checksumOfAll_32 rfl ?_
      refine z_lload_n (pc' := 36) C 1 dX5_checksumOfAll_35 rfl rfl rfl ?_
      refine z_lmul (pc' := 37) C dX5_checksumOfAll_36 rfl ?_
      refine z_aload_n (pc' := 38) C 0 dX5_checksumOfAll_37 rfl rfl rfl ?_
      refine z_getf (pc' := 41) C zci_5 zw_236 (j := 1) rfl (zc_1 h_a0 (by omega)) rfl rfl dX5_checksumOfAll_38 rfl ?_
      refine z_iload_n (pc' := 42) C 2 dX5_checksumOfAll_41 rfl rfl rfl ?_
      refine z_iconst (pc' := 43) C dX5_checksumOfAll_42 zk_iconst_1 rfl ?_
      refine z_iadd (pc' := 44) C dX5_checksumOfAll_43 rfl ?_
      refine z_lald (pc' := 45) C hf (zc_1 h_a1 (by omega)) dX5_checksumOfAll_44 rfl (fun v_44 hf => ?_)
      refine z_ladd (pc' := 46) C dX5_checksumOfAll_45 rfl ?_
      refine z_lstore_n (pc' := 47) C [(1, .long (((31 : Int64) * x1) + v_44)), (0, .ref (zo w + a)), (3, .int x3)] dX5_checksumOfAll_46 rfl rfl rfl rfl ?_
      refine z_ldc2 (pc' := 50) C zw_389 dX5_checksumOfAll_47 rfl ?_
      refine z_lload_n (pc' := 51) C 0 dX5_checksumOfAll_50 rfl rfl rfl ?_
      refine z_lmul (pc' := 52) C dX5_checksumOfAll_51 rfl ?_
      refine z_aload_n (pc' := 53) C 1 dX5_checksumOfAll_52 rfl rfl rfl ?_
      refine z_getf (pc' := 56) C zci_5 zw_239 (j := 2) rfl (zc_1 h_a0 (by omega)) rfl rfl dX5_checksumOfAll_53 rfl ?_
      refine z_getf (pc' := 59) C zci_1 zw_67 (j := 7) rfl (zc_1 h_a2 (by omega)) rfl rfl dX5_checksumOfAll_56 rfl ?_
      refine z_iload_n (pc' := 60) C 2 dX5_checksumOfAll_59 rfl rfl rfl ?_
      refine z_iald (pc' := 61) C hf (zc_1 h_a9 (by omega)) dX5_checksumOfAll_60 rfl (fun v_60 hf => ?_)
      refine z_i2l (pc' := 62) C dX5_checksumOfAll_61 rfl ?_
      refine z_ladd (pc' := 63) C dX5_checksumOfAll_62 rfl ?_
      refine z_lstore_n (pc' := 64) C [(1, .long (((31 : Int64) * (((31 : Int64) * x1) + v_44)) + (v_60).toInt64)), (0, .ref (zo w + a)), (3, .int x3)] dX5_checksumOfAll_63 rfl rfl rfl rfl ?_
      refine z_ldc2 (pc' := 67) C zw_389 dX5_checksumOfAll_64 rfl ?_
      refine z_lload_n (pc' := 68) C 0 dX5_checksumOfAll_67 rfl rfl rfl ?_
      refine z_lmul (pc' := 69) C dX5_checksumOfAll_68 rfl ?_
      refine z_aload_n (pc' := 70) C 1 dX5_checksumOfAll_69 rfl rfl rfl ?_
      refine z_iload_n (pc' := 71) C 2 dX5_checksumOfAll_70 rfl rfl rfl ?_
      refine z_cV (pc' := 74) C hf (As := [.int x3]) (fun hq => c_X5_grossOf (a := a) (pr_pricing := pr_pricing) (zc_1 h_a0 (by omega)) (zc_1 h_a13 (by omega)) (zc_1 h_a14 (by omega)) (zc_1 h_a15 (by omega)) (zc_1 h_a16 (by omega)) (zc_1 h_a17 (by omega)) (zc_1 h_a18 (by omega)) (zc_o (o := 0) h_pr_pricing0 rfl) (zc_i (o := 1) n_pr_pricing1 rfl) (zc_o (o := 2) h_pr_pricing2 rfl) (by omega) hq) (fun q_71 => (zu h pr_pricing [(1, .inl (w.2.2.1 0, 16, .inl q_71.2))])) (fun q_71 => [.long q_71.1, .long ((31 : Int64) * (((31 : Int64) * (((31 : Int64) * x1) + v_44)) + (v_60).toInt64))]) (fun _ => zu_sh (d := 0) rfl rfl) (fun _ => rfl) zy_X5_grossOf zw_390 zw_391 zw_392 (ci := 5) rfl (zc_1 h_a0 (by omega)) ⟨rfl, rfl⟩ rfl rfl rfl rfl rfl dX5_checksumOfAll_71 rfl (fun q_71 hf => ?_)
      refine z_ladd (pc' := 75) C dX5_checksumOfAll_74 rfl ?_
      refine z_lstore_n (pc' := 76) C [(1, .long (((31 : Int64) * (((31 : Int64) * (((31 : Int64) * x1) + v_44)) + (v_60).toInt64)) + q_71.1)), (0, .ref (zo w + a)), (3, .int x3)] dX5_checksumOfAll_75 rfl rfl rfl rfl ?_
      refine z_ldc2 (pc' := 79) C zw_389 dX5_checksumOfAll_76 rfl ?_
      refine z_lload_n (pc' := 80) C 0 dX5_checksumOfAll_79 rfl rfl rfl ?_
      refine z_lmul (pc' := 81) C dX5_checksumOfAll_80 rfl ?_
      refine z_aload_n (pc' := 82) C 1 dX5_checksumOfAll_81 rfl rfl rfl ?_
      refine z_getf (pc' := 85) C zci_5 zw_250 (j := 6) rfl (zc_1 h_a0 (by omega)) rfl rfl dX5_checksumOfAll_82 rfl ?_
      refine z_iload_n (pc' := 86) C 2 dX5_checksumOfAll_85 rfl rfl rfl ?_
      refine z_cV (pc' := 89) C hf (As := [.int x3]) (fun hq => c_X0_certifiedOf (a := (a + 23)) (zc_1 h_a23 (by omega)) (zc_1 h_a24 (by omega)) (zc_1 h_a25 (by omega)) hq) (fun _ => (zu h pr_pricing [(1, .inl (w.2.2.1 0, 16, .inl q_71.2))])) (fun q_86 => [.long q_86, .long ((31 : Int64) * (((31 : Int64) * (((31 : Int64) * (((31 : Int64) * x1) + v_44)) + (v_60).toInt64)) + q_71.1))]) (fun _ => rfl) (fun _ => rfl) zy_X0_certifiedOf zw_429 zw_430 zw_431 (ci := 0) rfl (zc_1 h_a23 (by omega)) ⟨rfl, rfl⟩ rfl rfl rfl rfl rfl dX5_checksumOfAll_86 rfl (fun q_86 hf => ?_)
      refine z_ladd (pc' := 90) C dX5_checksumOfAll_89 rfl ?_
      refine z_lstore_n (pc' := 91) C [(1, .long (((31 : Int64) * (((31 : Int64) * (((31 : Int64) * (((31 : Int64) * x1) + v_44)) + (v_60).toInt64)) + q_71.1)) + q_86)), (0, .ref (zo w + a)), (3, .int x3)] dX5_checksumOfAll_90 rfl rfl rfl rfl ?_
      refine z_iinc (pc' := 94) C 2 [(3, .int (x3 + (1 : Int32))), (1, .long (((31 : Int64) * (((31 : Int64) * (((31 : Int64) * (((31 : Int64) * x1) + v_44)) + (v_60).toInt64)) + q_71.1)) + q_86)), (0, .ref (zo w + a))] dX5_checksumOfAll_91 rfl zk_iconst_1 rfl rfl rfl ?_
      refine z_goto C 21 dX5_checksumOfAll_94 rfl ?_
      refine z_pick (lv' := [(0, .ref (zo w + a)), (1, .long (((31 : Int64) * (((31 : Int64) * (((31 : Int64) * (((31 : Int64) * x1) + v_44)) + (v_60).toInt64)) + q_71.1)) + q_86)), (3, .int (x3 + (1 : Int32)))]) [2, 1, 0] rfl ?_
      exact ih hf
set_option maxRecDepth 20000 in
theorem c_X5_checksumOfAll {w : zV} {N : Nat} {h : zH} {a : Nat} {pr_day : Int32} {pr_pricing : Nat} {pr_accounts : Nat → Int64} {it_count : Nat → Int32} {it_first : Nat → Int32} {it_price : Nat → Int32} {it_quantity : Nat → Int32} {it_progress : Nat → Int32} {va_count : Int32} {co_count : Int32} {ce_count : Int32} {ce_contract : Nat → Int32} {ce_amount : Nat → Int64} {ce_open : Nat → Int64} {li_count : Int32} {li_contract : Nat → Int32} {li_amount : Nat → Int64} {li_withdrawn : Nat → Int32} {co_stage : Nat → Int32} {pg_threshold : Int32} {pg_length : Int32} {pg_stack : Nat → Int32} {pg_clen : Nat} {pg_code : Nat → Int32} (h_a0 : zc N h (a + 0) (.inr (5, [.int pr_day, .ref (zo w + (a + 1)), .ref (zo w + (a + 2)), .ref (zo w + pr_pricing), .ref (zo w + (a + 13)), .ref (zo w + (a + 19)), .ref (zo w + (a + 23)), .ref (zo w + (a + 29)), .ref (zo w + (a + 34))]))) (h_a1 : zc N h (a + 1) (.inl (w.2.2.1 1, 9, .inr (.inl pr_accounts)))) (h_a2 : zc N h (a + 2) (.inr (1, [.int co_count, .ref (zo w + (a + 3)), .ref (zo w + (a + 4)), .ref (zo w + (a + 5)), .ref (zo w + (a + 6)), .ref (zo w + (a + 7)), .ref (zo w + (a + 8)), .ref (zo w + (a + 9))]))) (h_a9 : zc N h (a + 9) (.inl (w.2.2.1 0, 8, .inl co_stage))) (h_a13 : zc N h (a + 13) (.inr (2, [.ref (zo w + (a + 14)), .ref (zo w + (a + 15)), .ref (zo w + (a + 16)), .ref (zo w + (a + 17)), .ref (zo w + (a + 18))]))) (h_a14 : zc N h (a + 14) (.inl (w.2.2.1 0, 8, .inl it_count))) (h_a15 : zc N h (a + 15) (.inl (w.2.2.1 0, 48, .inl it_first))) (h_a16 : zc N h (a + 16) (.inl (w.2.2.1 0, 48, .inl it_price))) (h_a17 : zc N h (a + 17) (.inl (w.2.2.1 0, 48, .inl it_quantity))) (h_a18 : zc N h (a + 18) (.inl (w.2.2.1 0, 48, .inl it_progress))) (h_a19 : zc N h (a + 19) (.inr (7, [.int va_count, .ref (zo w + (a + 20)), .ref (zo w + (a + 21)), .ref (zo w + (a + 22))]))) (h_a23 : zc N h (a + 23) (.inr (0, [.int ce_count, .ref (zo w + (a + 24)), .ref (zo w + (a + 25)), .ref (zo w + (a + 26)), .ref (zo w + (a + 27)), .ref (zo w + (a + 28))]))) (h_a24 : zc N h (a + 24) (.inl (w.2.2.1 0, 40, .inl ce_contract))) (h_a25 : zc N h (a + 25) (.inl (w.2.2.1 1, 40, .inr (.inl ce_amount)))) (h_a26 : zc N h (a + 26) (.inl (w.2.2.1 1, 40, .inr (.inl ce_open)))) (h_a29 : zc N h (a + 29) (.inr (3, [.int li_count, .ref (zo w + (a + 30)), .ref (zo w + (a + 31)), .ref (zo w + (a + 32)), .ref (zo w + (a + 33))]))) (h_a30 : zc N h (a + 30) (.inl (w.2.2.1 0, 12, .inl li_contract))) (h_a31 : zc N h (a + 31) (.inl (w.2.2.1 1, 12, .inr (.inl li_amount)))) (h_a33 : zc N h (a + 33) (.inl (w.2.2.1 3, 12, .inl li_withdrawn))) (h_pr_pricing0 : zc N h (pr_pricing + 0) (.inr (4, [.int pg_threshold, .int pg_length, .ref (zo w + (pr_pricing + 2)), .ref (zo w + (pr_pricing + 1))]))) (h_pr_pricing1 : zc N h (pr_pricing + 1) (.inl (w.2.2.1 0, 16, .inl pg_stack))) (h_pr_pricing2 : zc N h (pr_pricing + 2) (.inl (w.2.2.1 0, pg_clen, .inl pg_code))) (far_a : pr_pricing + 1 < a ∨ a + 35 ≤ pr_pricing + 1 ∨ pr_pricing = a + 10) {r : Int64 × (Nat → Int32)} (hf : f_X5_checksumOfAll pr_day pr_accounts co_count co_stage pg_threshold pg_length pg_clen pg_code pg_stack it_count it_first it_price it_quantity it_progress va_count ce_count ce_contract ce_amount ce_open li_count li_contract li_amount li_withdrawn = some r) : zM w yX5_checksumOfAll cX5_checksumOfAll 4 (some .long) (zr 6 205) false N N h [.ref (zo w + a)] (some (.long r.1)) (zu h pr_pricing [(1, .inl (w.2.2.1 0, 16, .inl r.2))]) := by
  unfold f_X5_checksumOfAll at hf
  refine zM_of (by decide) rfl (fun X C _ => ?_)
  refine z_eq (h' := (zu h pr_pricing [(1, .inl (w.2.2.1 0, 16, .inl pg_stack))])) (zu_s h_pr_pricing1 zu_0).symm ?_
  have n_pr_pricing1 := h_pr_pricing1.1
  refine z_pick (lv' := [(0, .ref (zo w + a))]) [0] rfl ?_
  refine z_aload_n (pc' := 1) C 0 dX5_checksumOfAll_0 rfl rfl rfl ?_
  refine z_getf (pc' := 4) C zci_5 zw_234 (j := 0) rfl (zc_1 h_a0 (by omega)) rfl rfl dX5_checksumOfAll_1 rfl ?_
  refine z_i2l (pc' := 5) C dX5_checksumOfAll_4 rfl ?_
  refine z_lstore_n (pc' := 6) C [(1, .long (pr_day).toInt64), (0, .ref (zo w + a))] dX5_checksumOfAll_5 rfl rfl rfl rfl ?_
  refine z_ldc2 (pc' := 9) C zw_389 dX5_checksumOfAll_6 rfl ?_
  refine z_lload_n (pc' := 10) C 0 dX5_checksumOfAll_9 rfl rfl rfl ?_
  refine z_lmul (pc' := 11) C dX5_checksumOfAll_10 rfl ?_
  refine z_aload_n (pc' := 12) C 1 dX5_checksumOfAll_11 rfl rfl rfl ?_
  refine z_getf (pc' := 15) C zci_5 zw_236 (j := 1) rfl (zc_1 h_a0 (by omega)) rfl rfl dX5_checksumOfAll_12 rfl ?_
  refine z_iconst (pc' := 16) C dX5_checksumOfAll_15 zk_iconst_0 rfl ?_
  refine z_lald (pc' := 17) C hf (zc_1 h_a1 (by omega)) dX5_checksumOfAll_16 rfl (fun v_16 hf => ?_)
  refine z_ladd (pc' := 18) C dX5_checksumOfAll_17 rfl ?_
  refine z_lstore_n (pc' := 19) C [(1, .long (((31 : Int64) * (pr_day).toInt64) + v_16)), (0, .ref (zo w + a))] dX5_checksumOfAll_18 rfl rfl rfl rfl ?_
  refine z_iconst (pc' := 20) C dX5_checksumOfAll_19 zk_iconst_0 rfl ?_
  refine z_istore_n (pc' := 21) C [(3, .int (0 : Int32)), (1, .long (((31 : Int64) * (pr_day).toInt64) + v_16)), (0, .ref (zo w + a))] dX5_checksumOfAll_20 rfl rfl rfl rfl ?_
  refine z_pick (lv' := [(0, .ref (zo w + a)), (1, .long (((31 : Int64) * (pr_day).toInt64) + v_16)), (3, .int (0 : Int32))]) [2, 1, 0] rfl ?_
  exact w_X5_checksumOfAll_21 C h_a0 h_a1 h_a2 h_a9 h_a13 h_a14 h_a15 h_a16 h_a17 h_a18 h_a19 h_a23 h_a24 h_a25 h_a26 h_a29 h_a30 h_a31 h_a33 h_pr_pricing0 n_pr_pricing1 h_pr_pricing2 far_a  FU hf
set_option maxRecDepth 20000 in
theorem w_X6_addBytes_3 {X : zC} {w : zV} {N : Nat} {h : zH} {a : Nat} {rd_hasThreshold : Int32} {rd_hasRate : Int32} {rd_length : Int32} {rd_at : Int32} {rd_kind : Int32} {rd_start : Int32} {rd_value : Int32} {rd_error : Int32} {rd_errorAt : Int32} (C : zK X w RX6 cX6_addBytes 3 none (zr 0 0)) (n_a0 : a + 0 < N) (n_a1 : a + 1 < N) {r : Int32 × (Nat → Int32)} (n : Nat) : ∀ {rd_filled : Int32} {rd_text : Nat → Int32} {x1 : Int32} {x2 : Int32}, f_X6_addBytes_3  n rd_filled rd_text x1 x2 = some r → zZ X w (zQ X w (zr 0 0) (none) false N (zu h a [(0, .inr (6, [.ref (zo w + (a + 1)), .int r.1, .ref (zo w + (a + 2)), .int rd_length, .int rd_at, .int rd_kind, .int rd_start, .int rd_value, .int rd_error, .int rd_errorAt, .int rd_hasThreshold, .int rd_hasRate])), (1, .inl (w.2.2.1 2, 900, .inl r.2))])) 0 0 false N (zu h a [(0, .inr (6, [.ref (zo w + (a + 1)), .int rd_filled, .ref (zo w + (a + 2)), .int rd_length, .int rd_at, .int rd_kind, .int rd_start, .int rd_value, .int rd_error, .int rd_errorAt, .int rd_hasThreshold, .int rd_hasRate])), (1, .inl (w.2.2.1 2, 900, .inl rd_text))]) 3 [(0, .ref (zo w + a)), (1, .int x1), (2, .int x2)] [] := by
  induction n with
  | zero =>
    intro rd_filled rd_text x1 x2 hf
    have hf : (none : Option (Int32 × (Nat → Int32))) = some r := hf
    cases hf
  | succ z ih =>
    intro rd_filled rd_text x1 x2 hf
    rw [f_X6_addBytes_3] at hf
    refine z_iload_n (pc' := 4) C 2 dX6_addBytes_3 rfl rfl rfl ?_
    refine z_if_lt (pc' := 7) C 46 hf dX6_addBytes_4 rfl rfl (fun g_4 hf => ?_) (fun g_4 hf => ?_)
    · cases hf
      exact z_vret C rfl rfl dX6_addBytes_46
    · refine z_aload_n (pc' := 8) C 0 dX6_addBytes_7 rfl rfl rfl ?_
      refine z_getf (pc' := 11) C zci_6 zw_275 (j := 1) rfl (zc_i (o := 0) n_a0 rfl) rfl rfl dX6_addBytes_8 rfl ?_
      refine z_sipush (pc' := 14) C dX6_addBytes_11 zk_sipush_900 rfl ?_
      refine z_icmp_ge (pc' := 17) C 46 hf dX6_addBytes_14 rfl rfl (fun g_14 hf => ?_) (fun g_14 hf => ?_)
      · cases hf
        exact z_vret C rfl rfl dX6_addBytes_46
      · refine z_aload_n (pc' := 18) C 0 dX6_addBytes_17 rfl rfl rfl ?_
        refine z_getf (pc' := 21) C zci_6 zw_274 (j := 0) rfl (zc_i (o := 0) n_a0 rfl) rfl rfl dX6_addBytes_18 rfl ?_
        refine z_aload_n (pc' := 22) C 0 dX6_addBytes_21 rfl rfl rfl ?_
        refine z_getf (pc' := 25) C zci_6 zw_275 (j := 1) rfl (zc_i (o := 0) n_a0 rfl) rfl rfl dX6_addBytes_22 rfl ?_
        refine z_iload_n (pc' := 26) C 1 dX6_addBytes_25 rfl rfl rfl ?_
        refine z_iload_n (pc' := 27) C 2 dX6_addBytes_26 rfl rfl rfl ?_
        refine z_iushr (pc' := 28) C dX6_addBytes_27 rfl ?_
        refine z_i2b (pc' := 29) C dX6_addBytes_28 rfl ?_
        refine z_bast (pc' := 30) C hf (zc_i (o := 1) n_a1 rfl) (h' := fun v_29 => (zu h a [(0, .inr (6, [.ref (zo w + (a + 1)), .int rd_filled, .ref (zo w + (a + 2)), .int rd_length, .int rd_at, .int rd_kind, .int rd_start, .int rd_value, .int rd_error, .int rd_errorAt, .int rd_hasThreshold, .int rd_hasRate])), (1, .inl (w.2.2.1 2, 900, .inl v_29))])) (fun _ => zu_put (o := 1) rfl) dX6_addBytes_29 rfl (fun v_29 hf => ?_)
        refine z_aload_n (pc' := 31) C 0 dX6_addBytes_30 rfl rfl rfl ?_
        refine z_dup (pc' := 32) C dX6_addBytes_31 rfl rfl ?_
        refine z_getf (pc' := 35) C zci_6 zw_275 (j := 1) rfl (zc_i (o := 0) n_a0 rfl) rfl rfl dX6_addBytes_32 rfl ?_
        refine z_iconst (pc' := 36) C dX6_addBytes_35 zk_iconst_1 rfl ?_
        refine z_iadd (pc' := 37) C dX6_addBytes_36 rfl ?_
        refine z_putf (pc' := 40) C zci_6 zw_275 (j := 1) rfl (zc_i (o := 0) n_a0 rfl) (fs' := [.ref (zo w + (a + 1)), .int (rd_filled + (1 : Int32)), .ref (zo w + (a + 2)), .int rd_length, .int rd_at, .int rd_kind, .int rd_start, .int rd_value, .int rd_error, .int rd_errorAt, .int rd_hasThreshold, .int rd_hasRate]) rfl rfl rfl rfl rfl (zu_put (o := 0) (L' := [(0, .inr (6, [.ref (zo w + (a + 1)), .int (rd_filled + (1 : Int32)), .ref (zo w + (a + 2)), .int rd_length, .int rd_at, .int rd_kind, .int rd_start, .int rd_value, .int rd_error, .int rd_errorAt, .int rd_hasThreshold, .int rd_hasRate])), (1, .inl (w.2.2.1 2, 900, .inl v_29))]) rfl) dX6_addBytes_37 rfl ?_
        refine z_iinc (pc' := 43) C 2 [(2, .int (x2 + (-8 : Int32))), (0, .ref (zo w + a)), (1, .int x1)] dX6_addBytes_40 rfl zk_iconst_m8 rfl rfl rfl ?_
        refine z_goto C 3 dX6_addBytes_43 rfl ?_
        refine z_pick (lv' := [(0, .ref (zo w + a)), (1, .int x1), (2, .int (x2 + (-8 : Int32)))]) [1, 2, 0] rfl ?_
        exact ih hf
set_option maxRecDepth 20000 in
theorem c_X6_addBytes {w : zV} {N : Nat} {h : zH} {a : Nat} {rd_filled : Int32} {rd_hasThreshold : Int32} {rd_hasRate : Int32} {rd_length : Int32} {rd_at : Int32} {rd_kind : Int32} {rd_start : Int32} {rd_value : Int32} {rd_error : Int32} {rd_errorAt : Int32} {rd_text : Nat → Int32} {p1 : Int32} (h_a0 : zc N h (a + 0) (.inr (6, [.ref (zo w + (a + 1)), .int rd_filled, .ref (zo w + (a + 2)), .int rd_length, .int rd_at, .int rd_kind, .int rd_start, .int rd_value, .int rd_error, .int rd_errorAt, .int rd_hasThreshold, .int rd_hasRate]))) (h_a1 : zc N h (a + 1) (.inl (w.2.2.1 2, 900, .inl rd_text))) {r : Int32 × (Nat → Int32)} (hf : f_X6_addBytes rd_filled rd_text p1 = some r) : zM w yX6_addBytes cX6_addBytes 3 none (zr 0 0) false N N h [.ref (zo w + a), .int p1] (none) (zu h a [(0, .inr (6, [.ref (zo w + (a + 1)), .int r.1, .ref (zo w + (a + 2)), .int rd_length, .int rd_at, .int rd_kind, .int rd_start, .int rd_value, .int rd_error, .int rd_errorAt, .int rd_hasThreshold, .int rd_hasRate])), (1, .inl (w.2.2.1 2, 900, .inl r.2))]) := by
  unfold f_X6_addBytes at hf
  refine zM_of (by decide) rfl (fun X C _ => ?_)
  refine z_eq (h' := (zu h a [(0, .inr (6, [.ref (zo w + (a + 1)), .int rd_filled, .ref (zo w + (a + 2)), .int rd_length, .int rd_at, .int rd_kind, .int rd_start, .int rd_value, .int rd_error, .int rd_errorAt, .int rd_hasThreshold, .int rd_hasRate])), (1, .inl (w.2.2.1 2, 900, .inl rd_text))])) (zu_s h_a0 (zu_s h_a1 zu_0)).symm ?_
  have n_a0 := h_a0.1
  have n_a1 := h_a1.1
  refine z_pick (lv' := [(0, .ref (zo w + a)), (1, .int p1)]) [0, 1] rfl ?_
  refine z_bipush (pc' := 2) C dX6_addBytes_0 zk_bipush_24 rfl ?_
  refine z_istore_n (pc' := 3) C [(2, .int (24 : Int32)), (0, .ref (zo w + a)), (1, .int p1)] dX6_addBytes_2 rfl rfl rfl rfl ?_
  refine z_pick (lv' := [(0, .ref (zo w + a)), (1, .int p1), (2, .int (24 : Int32))]) [1, 2, 0] rfl ?_
  exact w_X6_addBytes_3 C n_a0 n_a1  FU hf
set_option maxRecDepth 20000 in
theorem w_X6_advance_170 {X : zC} {w : zV} {N : Nat} {h : zH} {a : Nat} {rd_filled : Int32} {rd_hasThreshold : Int32} {rd_hasRate : Int32} {rd_length : Int32} {rd_error : Int32} {rd_errorAt : Int32} {rd_text : Nat → Int32} (C : zK X w RX6 cX6_advance 2 none (zr 0 0)) (n_a0 : a + 0 < N) (h_a1 : zc N h (a + 1) (.inl (w.2.2.1 2, 900, .inl rd_text))) {r : Int32 × Int32 × Int32 × Int32} {k96 : Int32 → Int32 → Int32 → Int32 → Int32 → (Nat → Int32) → Option (Int32 × Int32 × Int32 × Int32)} (hk96 : ∀ {rd_at : Int32} {rd_kind : Int32} {rd_start : Int32} {rd_value : Int32}, k96 rd_length rd_at rd_kind rd_start rd_value rd_text = some r → zZ X w (zQ X w (zr 0 0) (none) false N (zu h a [(0, .inr (6, [.ref (zo w + (a + 1)), .int rd_filled, .ref (zo w + (a + 2)), .int rd_length, .int r.1, .int r.2.1, .int r.2.2.1, .int r.2.2.2, .int rd_error, .int rd_errorAt, .int rd_hasThreshold, .int rd_hasRate]))])) 0 0 false N (zu h a [(0, .inr (6, [.ref (zo w + (a + 1)), .int rd_filled, .ref (zo w + (a + 2)), .int rd_length, .int rd_at, .int rd_kind, .int rd_start, .int rd_value, .int rd_error, .int rd_errorAt, .int rd_hasThreshold, .int rd_hasRate]))]) 96 [(0, .ref (zo w + a))] []) {rd_at : Int32} {rd_kind : Int32} {rd_start : Int32} {rd_value : Int32} {s1 : Int32} (hf : f_X6_advance_170 k96 rd_length rd_at rd_kind rd_start rd_value rd_text s1 = some r) : zZ X w (zQ X w (zr 0 0) (none) false N (zu h a [(0, .inr (6, [.ref (zo w + (a + 1)), .int rd_filled, .ref (zo w + (a + 2)), .int rd_length, .int r.1, .int r.2.1, .int r.2.2.1, .int r.2.2.2, .int rd_error, .int rd_errorAt, .int rd_hasThreshold, .int rd_hasRate]))])) 0 0 false N (zu h a [(0, .inr (6, [.ref (zo w + (a + 1)), .int rd_filled, .ref (zo w + (a + 2)), .int rd_length, .int rd_at, .int rd_kind, .int rd_start, .int rd_value, .int rd_error, .int rd_errorAt, .int rd_hasThreshold, .int rd_hasRate]))]) 170 [(0, .ref (zo w + a))] [.int s1, .ref (zo w + a)] := by
  unfold f_X6_advance_170 at hf
  refine z_putf (pc' := 173) C zci_6 zw_283 (j := 7) rfl (zc_i (o := 0) n_a0 rfl) (fs' := [.ref (zo w + (a + 1)), .int rd_filled, .ref (zo w + (a + 2)), .int rd_length, .int rd_at, .int rd_kind, .int rd_start, .int s1, .int rd_error, .int rd_errorAt, .int rd_hasThreshold, .int rd_hasRate]) rfl rfl rfl rfl rfl (zu_put (o := 0) (L' := [(0, .inr (6, [.ref (zo w + (a + 1)), .int rd_filled, .ref (zo w + (a + 2)), .int rd_length, .int rd_at, .int rd_kind, .int rd_start, .int s1, .int rd_error, .int rd_errorAt, .int rd_hasThreshold, .int rd_hasRate]))]) rfl) dX6_advance_170 rfl ?_
  refine z_aload_n (pc' := 174) C 0 dX6_advance_173 rfl rfl rfl ?_
  refine z_dup (pc' := 175) C dX6_advance_174 rfl rfl ?_
  refine z_getf (pc' := 178) C zci_6 zw_280 (j := 4) rfl (zc_i (o := 0) n_a0 rfl) rfl rfl dX6_advance_175 rfl ?_
  refine z_iconst (pc' := 179) C dX6_advance_178 zk_iconst_1 rfl ?_
  refine z_iadd (pc' := 180) C dX6_advance_179 rfl ?_
  refine z_putf (pc' := 183) C zci_6 zw_280 (j := 4) rfl (zc_i (o := 0) n_a0 rfl) (fs' := [.ref (zo w + (a + 1)), .int rd_filled, .ref (zo w + (a + 2)), .int rd_length, .int (rd_at + (1 : Int32)), .int rd_kind, .int rd_start, .int s1, .int rd_error, .int rd_errorAt, .int rd_hasThreshold, .int rd_hasRate]) rfl rfl rfl rfl rfl (zu_put (o := 0) (L' := [(0, .inr (6, [.ref (zo w + (a + 1)), .int rd_filled, .ref (zo w + (a + 2)), .int rd_length, .int (rd_at + (1 : Int32)), .int rd_kind, .int rd_start, .int s1, .int rd_error, .int rd_errorAt, .int rd_hasThreshold, .int rd_hasRate]))]) rfl) dX6_advance_180 rfl ?_
  refine z_goto C 96 dX6_advance_183 rfl ?_
  exact hk96 hf
set_option maxRecDepth 20000 in
theorem w_X6_advance_96 {X : zC} {w : zV} {N : Nat} {h : zH} {a : Nat} {rd_filled : Int32} {rd_hasThreshold : Int32} {rd_hasRate : Int32} {rd_length : Int32} {rd_error : Int32} {rd_errorAt : Int32} {rd_text : Nat → Int32} (C : zK X w RX6 cX6_advance 2 none (zr 0 0)) (n_a0 : a + 0 < N) (h_a1 : zc N h (a + 1) (.inl (w.2.2.1 2, 900, .inl rd_text))) {r : Int32 × Int32 × Int32 × Int32} (n : Nat) : ∀ {rd_at : Int32} {rd_kind : Int32} {rd_start : Int32} {rd_value : Int32}, f_X6_advance_96  n rd_length rd_at rd_kind rd_start rd_value rd_text = some r → zZ X w (zQ X w (zr 0 0) (none) false N (zu h a [(0, .inr (6, [.ref (zo w + (a + 1)), .int rd_filled, .ref (zo w + (a + 2)), .int rd_length, .int r.1, .int r.2.1, .int r.2.2.1, .int r.2.2.2, .int rd_error, .int rd_errorAt, .int rd_hasThreshold, .int rd_hasRate]))])) 0 0 false N (zu h a [(0, .inr (6, [.ref (zo w + (a + 1)), .int rd_filled, .ref (zo w + (a + 2)), .int rd_length, .int rd_at, .int rd_kind, .int rd_start, .int rd_value, .int rd_error, .int rd_errorAt, .int rd_hasThreshold, .int rd_hasRate]))]) 96 [(0, .ref (zo w + a))] [] := by
  induction n with
  | zero =>
    intro rd_at rd_kind rd_start rd_value hf
    have hf : (none : Option (Int32 × Int32 × Int32 × Int32)) = some r := hf
    cases hf
  | succ z ih =>
    intro rd_at rd_kind rd_start rd_value hf
    rw [f_X6_advance_96] at hf
    refine z_aload_n (pc' := 97) C 0 dX6_advance_96 rfl rfl rfl ?_
    refine z_getf (pc' := 100) C zci_6 zw_280 (j := 4) rfl (zc_i (o := 0) n_a0 rfl) rfl rfl dX6_advance_97 rfl ?_
    refine z_aload_n (pc' := 101) C 0 dX6_advance_100 rfl rfl rfl ?_
    refine z_getf (pc' := 104) C zci_6 zw_279 (j := 3) rfl (zc_i (o := 0) n_a0 rfl) rfl rfl dX6_advance_101 rfl ?_
    refine z_icmp_ge (pc' := 107) C 275 hf dX6_advance_104 rfl rfl (fun g_104 hf => ?_) (fun g_104 hf => ?_)
    · cases hf
      exact z_vret C rfl rfl dX6_advance_275
    · refine z_aload_n (pc' := 108) C 0 dX6_advance_107 rfl rfl rfl ?_
      refine z_getf (pc' := 111) C zci_6 zw_274 (j := 0) rfl (zc_i (o := 0) n_a0 rfl) rfl rfl dX6_advance_108 rfl ?_
      refine z_aload_n (pc' := 112) C 0 dX6_advance_111 rfl rfl rfl ?_
      refine z_getf (pc' := 115) C zci_6 zw_280 (j := 4) rfl (zc_i (o := 0) n_a0 rfl) rfl rfl dX6_advance_112 rfl ?_
      refine z_bald (pc' := 116) C hf (zc_o (o := 1) h_a1 rfl) dX6_advance_115 rfl (fun v_115 hf => ?_)
      refine z_bipush (pc' := 118) C dX6_advance_116 zk_bipush_48 rfl ?_
      refine z_icmp_lt (pc' := 121) C 275 hf dX6_advance_118 rfl rfl (fun g_118 hf => ?_) (fun g_118 hf => ?_)
      · cases hf
        exact z_vret C rfl rfl dX6_advance_275
      · refine z_aload_n (pc' := 122) C 0 dX6_advance_121 rfl rfl rfl ?_
        refine z_getf (pc' := 125) C zci_6 zw_274 (j := 0) rfl (zc_i (o := 0) n_a0 rfl) rfl rfl dX6_advance_122 rfl ?_
        refine z_aload_n (pc' := 126) C 0 dX6_advance_125 rfl rfl rfl ?_
        refine z_getf (pc' := 129) C zci_6 zw_280 (j := 4) rfl (zc_i (o := 0) n_a0 rfl) rfl rfl dX6_advance_126 rfl ?_
        refine z_bald (pc' := 130) C hf (zc_o (o := 1) h_a1 rfl) dX6_advance_129 rfl (fun v_129 hf => ?_)
        refine z_bipush (pc' := 132) C dX6_advance_130 zk_bipush_57 rfl ?_
        refine z_icmp_gt (pc' := 135) C 275 hf dX6_advance_132 rfl rfl (fun g_132 hf => ?_) (fun g_132 hf => ?_)
        · cases hf
          exact z_vret C rfl rfl dX6_advance_275
        · refine z_aload_n (pc' := 136) C 0 dX6_advance_135 rfl rfl rfl ?_
          refine z_aload_n (pc' := 137) C 0 dX6_advance_136 rfl rfl rfl ?_
          refine z_getf (pc' := 140) C zci_6 zw_283 (j := 7) rfl (zc_i (o := 0) n_a0 rfl) rfl rfl dX6_advance_137 rfl ?_
          refine z_ldc (pc' := 142) C zw_537 dX6_advance_140 rfl ?_
          refine z_icmp_ge (pc' := 145) C 168 hf dX6_advance_142 rfl rfl (fun g_142 hf => ?_) (fun g_142 hf => ?_)
          · refine z_ldc (pc' := 170) C zw_537 dX6_advance_168 rfl ?_
            exact w_X6_advance_170 C n_a0 h_a1 (fun hf => ih hf) hf
          · refine z_aload_n (pc' := 146) C 0 dX6_advance_145 rfl rfl rfl ?_
            refine z_getf (pc' := 149) C zci_6 zw_283 (j := 7) rfl (zc_i (o := 0) n_a0 rfl) rfl rfl dX6_advance_146 rfl ?_
            refine z_bipush (pc' := 151) C dX6_advance_149 zk_bipush_10 rfl ?_
            refine z_imul (pc' := 152) C dX6_advance_151 rfl ?_
            refine z_aload_n (pc' := 153) C 0 dX6_advance_152 rfl rfl rfl ?_
            refine z_getf (pc' := 156) C zci_6 zw_274 (j := 0) rfl (zc_i (o := 0) n_a0 rfl) rfl rfl dX6_advance_153 rfl ?_
            refine z_aload_n (pc' := 157) C 0 dX6_advance_156 rfl rfl rfl ?_
            refine z_getf (pc' := 160) C zci_6 zw_280 (j := 4) rfl (zc_i (o := 0) n_a0 rfl) rfl rfl dX6_advance_157 rfl ?_
            refine z_bald (pc' := 161) C hf (zc_o (o := 1) h_a1 rfl) dX6_advance_160 rfl (fun v_160 hf => ?_)
            refine z_iadd (pc' := 162) C dX6_advance_161 rfl ?_
            refine z_bipush (pc' := 164) C dX6_advance_162 zk_bipush_48 rfl ?_
            refine z_isub (pc' := 165) C dX6_advance_164 rfl ?_
            refine z_goto C 170 dX6_advance_165 rfl ?_
            exact w_X6_advance_170 C n_a0 h_a1 (fun hf => ih hf) hf
set_option maxRecDepth 20000 in
theorem w_X6_advance_204 {X : zC} {w : zV} {N : Nat} {h : zH} {a : Nat} {rd_filled : Int32} {rd_hasThreshold : Int32} {rd_hasRate : Int32} {rd_length : Int32} {rd_error : Int32} {rd_errorAt : Int32} {rd_text : Nat → Int32} (C : zK X w RX6 cX6_advance 2 none (zr 0 0)) (n_a0 : a + 0 < N) (h_a1 : zc N h (a + 1) (.inl (w.2.2.1 2, 900, .inl rd_text))) {r : Int32 × Int32 × Int32 × Int32} (n : Nat) : ∀ {rd_at : Int32} {rd_kind : Int32} {rd_start : Int32} {rd_value : Int32}, f_X6_advance_204  n rd_length rd_at rd_kind rd_start rd_value rd_text = some r → zZ X w (zQ X w (zr 0 0) (none) false N (zu h a [(0, .inr (6, [.ref (zo w + (a + 1)), .int rd_filled, .ref (zo w + (a + 2)), .int rd_length, .int r.1, .int r.2.1, .int r.2.2.1, .int r.2.2.2, .int rd_error, .int rd_errorAt, .int rd_hasThreshold, .int rd_hasRate]))])) 0 0 false N (zu h a [(0, .inr (6, [.ref (zo w + (a + 1)), .int rd_filled, .ref (zo w + (a + 2)), .int rd_length, .int rd_at, .int rd_kind, .int rd_start, .int rd_value, .int rd_error, .int rd_errorAt, .int rd_hasThreshold, .int rd_hasRate]))]) 204 [(0, .ref (zo w + a))] [] := by
  induction n with
  | zero =>
    intro rd_at rd_kind rd_start rd_value hf
    have hf : (none : Option (Int32 × Int32 × Int32 × Int32)) = some r := hf
    cases hf
  | succ z ih =>
    intro rd_at rd_kind rd_start rd_value hf
    rw [f_X6_advance_204] at hf
    refine z_aload_n (pc' := 205) C 0 dX6_advance_204 rfl rfl rfl ?_
    refine z_getf (pc' := 208) C zci_6 zw_280 (j := 4) rfl (zc_i (o := 0) n_a0 rfl) rfl rfl dX6_advance_205 rfl ?_
    refine z_aload_n (pc' := 209) C 0 dX6_advance_208 rfl rfl rfl ?_
    refine z_getf (pc' := 212) C zci_6 zw_279 (j := 3) rfl (zc_i (o := 0) n_a0 rfl) rfl rfl dX6_advance_209 rfl ?_
    refine z_icmp_ge (pc' := 215) C 275 hf dX6_advance_212 rfl rfl (fun g_212 hf => ?_) (fun g_212 hf => ?_)
    · cases hf
      exact z_vret C rfl rfl dX6_advance_275
    · refine z_aload_n (pc' := 216) C 0 dX6_advance_215 rfl rfl rfl ?_
      refine z_getf (pc' := 219) C zci_6 zw_274 (j := 0) rfl (zc_i (o := 0) n_a0 rfl) rfl rfl dX6_advance_216 rfl ?_
      refine z_aload_n (pc' := 220) C 0 dX6_advance_219 rfl rfl rfl ?_
      refine z_getf (pc' := 223) C zci_6 zw_280 (j := 4) rfl (zc_i (o := 0) n_a0 rfl) rfl rfl dX6_advance_220 rfl ?_
      refine z_bald (pc' := 224) C hf (zc_o (o := 1) h_a1 rfl) dX6_advance_223 rfl (fun v_223 hf => ?_)
      refine z_bipush (pc' := 226) C dX6_advance_224 zk_bipush_97 rfl ?_
      refine z_icmp_lt (pc' := 229) C 275 hf dX6_advance_226 rfl rfl (fun g_226 hf => ?_) (fun g_226 hf => ?_)
      · cases hf
        exact z_vret C rfl rfl dX6_advance_275
      · refine z_aload_n (pc' := 230) C 0 dX6_advance_229 rfl rfl rfl ?_
        refine z_getf (pc' := 233) C zci_6 zw_274 (j := 0) rfl (zc_i (o := 0) n_a0 rfl) rfl rfl dX6_advance_230 rfl ?_
        refine z_aload_n (pc' := 234) C 0 dX6_advance_233 rfl rfl rfl ?_
        refine z_getf (pc' := 237) C zci_6 zw_280 (j := 4) rfl (zc_i (o := 0) n_a0 rfl) rfl rfl dX6_advance_234 rfl ?_
        refine z_bald (pc' := 238) C hf (zc_o (o := 1) h_a1 rfl) dX6_advance_237 rfl (fun v_237 hf => ?_)
        refine z_bipush (pc' := 240) C dX6_advance_238 zk_bipush_122 rfl ?_
        refine z_icmp_gt (pc' := 243) C 275 hf dX6_advance_240 rfl rfl (fun g_240 hf => ?_) (fun g_240 hf => ?_)
        · cases hf
          exact z_vret C rfl rfl dX6_advance_275
        · refine z_aload_n (pc' := 244) C 0 dX6_advance_243 rfl rfl rfl ?_
          refine z_dup (pc' := 245) C dX6_advance_244 rfl rfl ?_
          refine z_getf (pc' := 248) C zci_6 zw_280 (j := 4) rfl (zc_i (o := 0) n_a0 rfl) rfl rfl dX6_advance_245 rfl ?_
          refine z_iconst (pc' := 249) C dX6_advance_248 zk_iconst_1 rfl ?_
          refine z_iadd (pc' := 250) C dX6_advance_249 rfl ?_
          refine z_putf (pc' := 253) C zci_6 zw_280 (j := 4) rfl (zc_i (o := 0) n_a0 rfl) (fs' := [.ref (zo w + (a + 1)), .int rd_filled, .ref (zo w + (a + 2)), .int rd_length, .int (rd_at + (1 : Int32)), .int rd_kind, .int rd_start, .int rd_value, .int rd_error, .int rd_errorAt, .int rd_hasThreshold, .int rd_hasRate]) rfl rfl rfl rfl rfl (zu_put (o := 0) (L' := [(0, .inr (6, [.ref (zo w + (a + 1)), .int rd_filled, .ref (zo w + (a + 2)), .int rd_length, .int (rd_at + (1 : Int32)), .int rd_kind, .int rd_start, .int rd_value, .int rd_error, .int rd_errorAt, .int rd_hasThreshold, .int rd_hasRate]))]) rfl) dX6_advance_250 rfl ?_
          refine z_goto C 204 dX6_advance_253 rfl ?_
          exact ih hf
set_option maxRecDepth 20000 in
theorem w_X6_advance_256 {X : zC} {w : zV} {N : Nat} {h : zH} {a : Nat} {rd_filled : Int32} {rd_hasThreshold : Int32} {rd_hasRate : Int32} {rd_length : Int32} {rd_error : Int32} {rd_errorAt : Int32} {rd_text : Nat → Int32} (C : zK X w RX6 cX6_advance 2 none (zr 0 0)) (n_a0 : a + 0 < N) (h_a1 : zc N h (a + 1) (.inl (w.2.2.1 2, 900, .inl rd_text))) {r : Int32 × Int32 × Int32 × Int32} {rd_at : Int32} {rd_kind : Int32} {rd_start : Int32} {rd_value : Int32} {x1 : Int32} (hf : f_X6_advance_256  rd_at rd_kind rd_start rd_value x1 = some r) : zZ X w (zQ X w (zr 0 0) (none) false N (zu h a [(0, .inr (6, [.ref (zo w + (a + 1)), .int rd_filled, .ref (zo w + (a + 2)), .int rd_length, .int r.1, .int r.2.1, .int r.2.2.1, .int r.2.2.2, .int rd_error, .int rd_errorAt, .int rd_hasThreshold, .int rd_hasRate]))])) 0 0 false N (zu h a [(0, .inr (6, [.ref (zo w + (a + 1)), .int rd_filled, .ref (zo w + (a + 2)), .int rd_length, .int rd_at, .int rd_kind, .int rd_start, .int rd_value, .int rd_error, .int rd_errorAt, .int rd_hasThreshold, .int rd_hasRate]))]) 256 [(0, .ref (zo w + a)), (1, .int x1)] [] := by
  unfold f_X6_advance_256 at hf
  refine z_aload_n (pc' := 257) C 0 dX6_advance_256 rfl rfl rfl ?_
  refine z_iload_n (pc' := 258) C 1 dX6_advance_257 rfl rfl rfl ?_
  refine z_sipush (pc' := 261) C dX6_advance_258 zk_sipush_255 rfl ?_
  refine z_iand (pc' := 262) C dX6_advance_261 rfl ?_
  refine z_putf (pc' := 265) C zci_6 zw_281 (j := 5) rfl (zc_i (o := 0) n_a0 rfl) (fs' := [.ref (zo w + (a + 1)), .int rd_filled, .ref (zo w + (a + 2)), .int rd_length, .int rd_at, .int (x1 &&& (255 : Int32)), .int rd_start, .int rd_value, .int rd_error, .int rd_errorAt, .int rd_hasThreshold, .int rd_hasRate]) rfl rfl rfl rfl rfl (zu_put (o := 0) (L' := [(0, .inr (6, [.ref (zo w + (a + 1)), .int rd_filled, .ref (zo w + (a + 2)), .int rd_length, .int rd_at, .int (x1 &&& (255 : Int32)), .int rd_start, .int rd_value, .int rd_error, .int rd_errorAt, .int rd_hasThreshold, .int rd_hasRate]))]) rfl) dX6_advance_262 rfl ?_
  refine z_aload_n (pc' := 266) C 0 dX6_advance_265 rfl rfl rfl ?_
  refine z_dup (pc' := 267) C dX6_advance_266 rfl rfl ?_
  refine z_getf (pc' := 270) C zci_6 zw_280 (j := 4) rfl (zc_i (o := 0) n_a0 rfl) rfl rfl dX6_advance_267 rfl ?_
  refine z_iconst (pc' := 271) C dX6_advance_270 zk_iconst_1 rfl ?_
  refine z_iadd (pc' := 272) C dX6_advance_271 rfl ?_
  refine z_putf (pc' := 275) C zci_6 zw_280 (j := 4) rfl (zc_i (o := 0) n_a0 rfl) (fs' := [.ref (zo w + (a + 1)), .int rd_filled, .ref (zo w + (a + 2)), .int rd_length, .int (rd_at + (1 : Int32)), .int (x1 &&& (255 : Int32)), .int rd_start, .int rd_value, .int rd_error, .int rd_errorAt, .int rd_hasThreshold, .int rd_hasRate]) rfl rfl rfl rfl rfl (zu_put (o := 0) (L' := [(0, .inr (6, [.ref (zo w + (a + 1)), .int rd_filled, .ref (zo w + (a + 2)), .int rd_length, .int (rd_at + (1 : Int32)), .int (x1 &&& (255 : Int32)), .int rd_start, .int rd_value, .int rd_error, .int rd_errorAt, .int rd_hasThreshold, .int rd_hasRate]))]) rfl) dX6_advance_272 rfl ?_
  cases hf
  exact z_vret C rfl rfl dX6_advance_275
set_option maxRecDepth 20000 in
theorem w_X6_advance_186 {X : zC} {w : zV} {N : Nat} {h : zH} {a : Nat} {rd_filled : Int32} {rd_hasThreshold : Int32} {rd_hasRate : Int32} {rd_length : Int32} {rd_error : Int32} {rd_errorAt : Int32} {rd_text : Nat → Int32} (C : zK X w RX6 cX6_advance 2 none (zr 0 0)) (n_a0 : a + 0 < N) (h_a1 : zc N h (a + 1) (.inl (w.2.2.1 2, 900, .inl rd_text))) {r : Int32 × Int32 × Int32 × Int32} {rd_at : Int32} {rd_kind : Int32} {rd_start : Int32} {rd_value : Int32} {x1 : Int32} (hf : f_X6_advance_186  rd_length rd_at rd_kind rd_start rd_value rd_text x1 = some r) : zZ X w (zQ X w (zr 0 0) (none) false N (zu h a [(0, .inr (6, [.ref (zo w + (a + 1)), .int rd_filled, .ref (zo w + (a + 2)), .int rd_length, .int r.1, .int r.2.1, .int r.2.2.1, .int r.2.2.2, .int rd_error, .int rd_errorAt, .int rd_hasThreshold, .int rd_hasRate]))])) 0 0 false N (zu h a [(0, .inr (6, [.ref (zo w + (a + 1)), .int rd_filled, .ref (zo w + (a + 2)), .int rd_length, .int rd_at, .int rd_kind, .int rd_start, .int rd_value, .int rd_error, .int rd_errorAt, .int rd_hasThreshold, .int rd_hasRate]))]) 186 [(0, .ref (zo w + a)), (1, .int x1)] [] := by
  unfold f_X6_advance_186 at hf
  refine z_iload_n (pc' := 187) C 1 dX6_advance_186 rfl rfl rfl ?_
  refine z_bipush (pc' := 189) C dX6_advance_187 zk_bipush_97 rfl ?_
  refine z_icmp_lt (pc' := 192) C 256 hf dX6_advance_189 rfl rfl (fun g_189 hf => ?_) (fun g_189 hf => ?_)
  · exact w_X6_advance_256 C n_a0 h_a1  hf
  · refine z_iload_n (pc' := 193) C 1 dX6_advance_192 rfl rfl rfl ?_
    refine z_bipush (pc' := 195) C dX6_advance_193 zk_bipush_122 rfl ?_
    refine z_icmp_gt (pc' := 198) C 256 hf dX6_advance_195 rfl rfl (fun g_195 hf => ?_) (fun g_195 hf => ?_)
    · exact w_X6_advance_256 C n_a0 h_a1  hf
    · refine z_aload_n (pc' := 199) C 0 dX6_advance_198 rfl rfl rfl ?_
      refine z_bipush (pc' := 201) C dX6_advance_199 zk_bipush_m3 rfl ?_
      refine z_putf (pc' := 204) C zci_6 zw_281 (j := 5) rfl (zc_i (o := 0) n_a0 rfl) (fs' := [.ref (zo w + (a + 1)), .int rd_filled, .ref (zo w + (a + 2)), .int rd_length, .int rd_at, .int (-3 : Int32), .int rd_start, .int rd_value, .int rd_error, .int rd_errorAt, .int rd_hasThreshold, .int rd_hasRate]) rfl rfl rfl rfl rfl (zu_put (o := 0) (L' := [(0, .inr (6, [.ref (zo w + (a + 1)), .int rd_filled, .ref (zo w + (a + 2)), .int rd_length, .int rd_at, .int (-3 : Int32), .int rd_start, .int rd_value, .int rd_error, .int rd_errorAt, .int rd_hasThreshold, .int rd_hasRate]))]) rfl) dX6_advance_201 rfl ?_
      refine z_pick (lv' := [(0, .ref (zo w + a))]) [0] rfl ?_
      exact w_X6_advance_204 C n_a0 h_a1  FU hf
set_option maxRecDepth 20000 in
theorem w_X6_advance_38 {X : zC} {w : zV} {N : Nat} {h : zH} {a : Nat} {rd_filled : Int32} {rd_hasThreshold : Int32} {rd_hasRate : Int32} {rd_length : Int32} {rd_error : Int32} {rd_errorAt : Int32} {rd_text : Nat → Int32} (C : zK X w RX6 cX6_advance 2 none (zr 0 0)) (n_a0 : a + 0 < N) (h_a1 : zc N h (a + 1) (.inl (w.2.2.1 2, 900, .inl rd_text))) {r : Int32 × Int32 × Int32 × Int32} {rd_at : Int32} {rd_kind : Int32} {rd_start : Int32} {rd_value : Int32} (hf : f_X6_advance_38  rd_length rd_at rd_kind rd_start rd_value rd_text = some r) : zZ X w (zQ X w (zr 0 0) (none) false N (zu h a [(0, .inr (6, [.ref (zo w + (a + 1)), .int rd_filled, .ref (zo w + (a + 2)), .int rd_length, .int r.1, .int r.2.1, .int r.2.2.1, .int r.2.2.2, .int rd_error, .int rd_errorAt, .int rd_hasThreshold, .int rd_hasRate]))])) 0 0 false N (zu h a [(0, .inr (6, [.ref (zo w + (a + 1)), .int rd_filled, .ref (zo w + (a + 2)), .int rd_length, .int rd_at, .int rd_kind, .int rd_start, .int rd_value, .int rd_error, .int rd_errorAt, .int rd_hasThreshold, .int rd_hasRate]))]) 38 [(0, .ref (zo w + a))] [] := by
  unfold f_X6_advance_38 at hf
  refine z_aload_n (pc' := 39) C 0 dX6_advance_38 rfl rfl rfl ?_
  refine z_aload_n (pc' := 40) C 0 dX6_advance_39 rfl rfl rfl ?_
  refine z_getf (pc' := 43) C zci_6 zw_280 (j := 4) rfl (zc_i (o := 0) n_a0 rfl) rfl rfl dX6_advance_40 rfl ?_
  refine z_putf (pc' := 46) C zci_6 zw_282 (j := 6) rfl (zc_i (o := 0) n_a0 rfl) (fs' := [.ref (zo w + (a + 1)), .int rd_filled, .ref (zo w + (a + 2)), .int rd_length, .int rd_at, .int rd_kind, .int rd_at, .int rd_value, .int rd_error, .int rd_errorAt, .int rd_hasThreshold, .int rd_hasRate]) rfl rfl rfl rfl rfl (zu_put (o := 0) (L' := [(0, .inr (6, [.ref (zo w + (a + 1)), .int rd_filled, .ref (zo w + (a + 2)), .int rd_length, .int rd_at, .int rd_kind, .int rd_at, .int rd_value, .int rd_error, .int rd_errorAt, .int rd_hasThreshold, .int rd_hasRate]))]) rfl) dX6_advance_43 rfl ?_
  refine z_aload_n (pc' := 47) C 0 dX6_advance_46 rfl rfl rfl ?_
  refine z_getf (pc' := 50) C zci_6 zw_280 (j := 4) rfl (zc_i (o := 0) n_a0 rfl) rfl rfl dX6_advance_47 rfl ?_
  refine z_aload_n (pc' := 51) C 0 dX6_advance_50 rfl rfl rfl ?_
  refine z_getf (pc' := 54) C zci_6 zw_279 (j := 3) rfl (zc_i (o := 0) n_a0 rfl) rfl rfl dX6_advance_51 rfl ?_
  refine z_icmp_lt (pc' := 57) C 63 hf dX6_advance_54 rfl rfl (fun g_54 hf => ?_) (fun g_54 hf => ?_)
  · refine z_aload_n (pc' := 64) C 0 dX6_advance_63 rfl rfl rfl ?_
    refine z_getf (pc' := 67) C zci_6 zw_274 (j := 0) rfl (zc_i (o := 0) n_a0 rfl) rfl rfl dX6_advance_64 rfl ?_
    refine z_aload_n (pc' := 68) C 0 dX6_advance_67 rfl rfl rfl ?_
    refine z_getf (pc' := 71) C zci_6 zw_280 (j := 4) rfl (zc_i (o := 0) n_a0 rfl) rfl rfl dX6_advance_68 rfl ?_
    refine z_bald (pc' := 72) C hf (zc_o (o := 1) h_a1 rfl) dX6_advance_71 rfl (fun v_71 hf => ?_)
    refine z_istore_n (pc' := 73) C [(1, .int v_71), (0, .ref (zo w + a))] dX6_advance_72 rfl rfl rfl rfl ?_
    refine z_iload_n (pc' := 74) C 0 dX6_advance_73 rfl rfl rfl ?_
    refine z_bipush (pc' := 76) C dX6_advance_74 zk_bipush_48 rfl ?_
    refine z_icmp_lt (pc' := 79) C 186 hf dX6_advance_76 rfl rfl (fun g_76 hf => ?_) (fun g_76 hf => ?_)
    · refine z_pick (lv' := [(0, .ref (zo w + a)), (1, .int v_71)]) [1, 0] rfl ?_
      exact w_X6_advance_186 C n_a0 h_a1  hf
    · refine z_iload_n (pc' := 80) C 0 dX6_advance_79 rfl rfl rfl ?_
      refine z_bipush (pc' := 82) C dX6_advance_80 zk_bipush_57 rfl ?_
      refine z_icmp_gt (pc' := 85) C 186 hf dX6_advance_82 rfl rfl (fun g_82 hf => ?_) (fun g_82 hf => ?_)
      · refine z_pick (lv' := [(0, .ref (zo w + a)), (1, .int v_71)]) [1, 0] rfl ?_
        exact w_X6_advance_186 C n_a0 h_a1  hf
      · refine z_aload_n (pc' := 86) C 1 dX6_advance_85 rfl rfl rfl ?_
        refine z_bipush (pc' := 88) C dX6_advance_86 zk_bipush_m2 rfl ?_
        refine z_putf (pc' := 91) C zci_6 zw_281 (j := 5) rfl (zc_i (o := 0) n_a0 rfl) (fs' := [.ref (zo w + (a + 1)), .int rd_filled, .ref (zo w + (a + 2)), .int rd_length, .int rd_at, .int (-2 : Int32), .int rd_at, .int rd_value, .int rd_error, .int rd_errorAt, .int rd_hasThreshold, .int rd_hasRate]) rfl rfl rfl rfl rfl (zu_put (o := 0) (L' := [(0, .inr (6, [.ref (zo w + (a + 1)), .int rd_filled, .ref (zo w + (a + 2)), .int rd_length, .int rd_at, .int (-2 : Int32), .int rd_at, .int rd_value, .int rd_error, .int rd_errorAt, .int rd_hasThreshold, .int rd_hasRate]))]) rfl) dX6_advance_88 rfl ?_
        refine z_aload_n (pc' := 92) C 1 dX6_advance_91 rfl rfl rfl ?_
        refine z_iconst (pc' := 93) C dX6_advance_92 zk_iconst_0 rfl ?_
        refine z_putf (pc' := 96) C zci_6 zw_283 (j := 7) rfl (zc_i (o := 0) n_a0 rfl) (fs' := [.ref (zo w + (a + 1)), .int rd_filled, .ref (zo w + (a + 2)), .int rd_length, .int rd_at, .int (-2 : Int32), .int rd_at, .int (0 : Int32), .int rd_error, .int rd_errorAt, .int rd_hasThreshold, .int rd_hasRate]) rfl rfl rfl rfl rfl (zu_put (o := 0) (L' := [(0, .inr (6, [.ref (zo w + (a + 1)), .int rd_filled, .ref (zo w + (a + 2)), .int rd_length, .int rd_at, .int (-2 : Int32), .int rd_at, .int (0 : Int32), .int rd_error, .int rd_errorAt, .int rd_hasThreshold, .int rd_hasRate]))]) rfl) dX6_advance_93 rfl ?_
        refine z_pick (lv' := [(0, .ref (zo w + a))]) [1] rfl ?_
        exact w_X6_advance_96 C n_a0 h_a1  FU hf
  · refine z_aload_n (pc' := 58) C 0 dX6_advance_57 rfl rfl rfl ?_
    refine z_iconst (pc' := 59) C dX6_advance_58 zk_iconst_m1 rfl ?_
    refine z_putf (pc' := 62) C zci_6 zw_281 (j := 5) rfl (zc_i (o := 0) n_a0 rfl) (fs' := [.ref (zo w + (a + 1)), .int rd_filled, .ref (zo w + (a + 2)), .int rd_length, .int rd_at, .int (-1 : Int32), .int rd_at, .int rd_value, .int rd_error, .int rd_errorAt, .int rd_hasThreshold, .int rd_hasRate]) rfl rfl rfl rfl rfl (zu_put (o := 0) (L' := [(0, .inr (6, [.ref (zo w + (a + 1)), .int rd_filled, .ref (zo w + (a + 2)), .int rd_length, .int rd_at, .int (-1 : Int32), .int rd_at, .int rd_value, .int rd_error, .int rd_errorAt, .int rd_hasThreshold, .int rd_hasRate]))]) rfl) dX6_advance_59 rfl ?_
    cases hf
    exact z_vret C rfl rfl dX6_advance_62
set_option maxRecDepth 20000 in
theorem w_X6_advance_0 {X : zC} {w : zV} {N : Nat} {h : zH} {a : Nat} {rd_filled : Int32} {rd_hasThreshold : Int32} {rd_hasRate : Int32} {rd_length : Int32} {rd_error : Int32} {rd_errorAt : Int32} {rd_text : Nat → Int32} (C : zK X w RX6 cX6_advance 2 none (zr 0 0)) (n_a0 : a + 0 < N) (h_a1 : zc N h (a + 1) (.inl (w.2.2.1 2, 900, .inl rd_text))) {r : Int32 × Int32 × Int32 × Int32} (n : Nat) : ∀ {rd_at : Int32} {rd_kind : Int32} {rd_start : Int32} {rd_value : Int32}, f_X6_advance_0  n rd_length rd_at rd_kind rd_start rd_value rd_text = some r → zZ X w (zQ X w (zr 0 0) (none) false N (zu h a [(0, .inr (6, [.ref (zo w + (a + 1)), .int rd_filled, .ref (zo w + (a + 2)), .int rd_length, .int r.1, .int r.2.1, .int r.2.2.1, .int r.2.2.2, .int rd_error, .int rd_errorAt, .int rd_hasThreshold, .int rd_hasRate]))])) 0 0 false N (zu h a [(0, .inr (6, [.ref (zo w + (a + 1)), .int rd_filled, .ref (zo w + (a + 2)), .int rd_length, .int rd_at, .int rd_kind, .int rd_start, .int rd_value, .int rd_error, .int rd_errorAt, .int rd_hasThreshold, .int rd_hasRate]))]) 0 [(0, .ref (zo w + a))] [] := by
  induction n with
  | zero =>
    intro rd_at rd_kind rd_start rd_value hf
    have hf : (none : Option (Int32 × Int32 × Int32 × Int32)) = some r := hf
    cases hf
  | succ z ih =>
    intro rd_at rd_kind rd_start rd_value hf
    rw [f_X6_advance_0] at hf
    refine z_aload_n (pc' := 1) C 0 dX6_advance_0 rfl rfl rfl ?_
    refine z_getf (pc' := 4) C zci_6 zw_280 (j := 4) rfl (zc_i (o := 0) n_a0 rfl) rfl rfl dX6_advance_1 rfl ?_
    refine z_aload_n (pc' := 5) C 0 dX6_advance_4 rfl rfl rfl ?_
    refine z_getf (pc' := 8) C zci_6 zw_279 (j := 3) rfl (zc_i (o := 0) n_a0 rfl) rfl rfl dX6_advance_5 rfl ?_
    refine z_icmp_ge (pc' := 11) C 38 hf dX6_advance_8 rfl rfl (fun g_8 hf => ?_) (fun g_8 hf => ?_)
    · exact w_X6_advance_38 C n_a0 h_a1  hf
    · refine z_aload_n (pc' := 12) C 0 dX6_advance_11 rfl rfl rfl ?_
      refine z_getf (pc' := 15) C zci_6 zw_274 (j := 0) rfl (zc_i (o := 0) n_a0 rfl) rfl rfl dX6_advance_12 rfl ?_
      refine z_aload_n (pc' := 16) C 0 dX6_advance_15 rfl rfl rfl ?_
      refine z_getf (pc' := 19) C zci_6 zw_280 (j := 4) rfl (zc_i (o := 0) n_a0 rfl) rfl rfl dX6_advance_16 rfl ?_
      refine z_bald (pc' := 20) C hf (zc_o (o := 1) h_a1 rfl) dX6_advance_19 rfl (fun v_19 hf => ?_)
      refine z_bipush (pc' := 22) C dX6_advance_20 zk_bipush_32 rfl ?_
      refine z_icmp_ne (pc' := 25) C 38 hf dX6_advance_22 rfl rfl (fun g_22 hf => ?_) (fun g_22 hf => ?_)
      · exact w_X6_advance_38 C n_a0 h_a1  hf
      · refine z_aload_n (pc' := 26) C 0 dX6_advance_25 rfl rfl rfl ?_
        refine z_dup (pc' := 27) C dX6_advance_26 rfl rfl ?_
        refine z_getf (pc' := 30) C zci_6 zw_280 (j := 4) rfl (zc_i (o := 0) n_a0 rfl) rfl rfl dX6_advance_27 rfl ?_
        refine z_iconst (pc' := 31) C dX6_advance_30 zk_iconst_1 rfl ?_
        refine z_iadd (pc' := 32) C dX6_advance_31 rfl ?_
        refine z_putf (pc' := 35) C zci_6 zw_280 (j := 4) rfl (zc_i (o := 0) n_a0 rfl) (fs' := [.ref (zo w + (a + 1)), .int rd_filled, .ref (zo w + (a + 2)), .int rd_length, .int (rd_at + (1 : Int32)), .int rd_kind, .int rd_start, .int rd_value, .int rd_error, .int rd_errorAt, .int rd_hasThreshold, .int rd_hasRate]) rfl rfl rfl rfl rfl (zu_put (o := 0) (L' := [(0, .inr (6, [.ref (zo w + (a + 1)), .int rd_filled, .ref (zo w + (a + 2)), .int rd_length, .int (rd_at + (1 : Int32)), .int rd_kind, .int rd_start, .int rd_value, .int rd_error, .int rd_errorAt, .int rd_hasThreshold, .int rd_hasRate]))]) rfl) dX6_advance_32 rfl ?_
        refine z_goto C 0 dX6_advance_35 rfl ?_
        exact ih hf
set_option maxRecDepth 20000 in
theorem c_X6_advance {w : zV} {N : Nat} {h : zH} {a : Nat} {rd_filled : Int32} {rd_hasThreshold : Int32} {rd_hasRate : Int32} {rd_length : Int32} {rd_at : Int32} {rd_kind : Int32} {rd_start : Int32} {rd_value : Int32} {rd_error : Int32} {rd_errorAt : Int32} {rd_text : Nat → Int32} (h_a0 : zc N h (a + 0) (.inr (6, [.ref (zo w + (a + 1)), .int rd_filled, .ref (zo w + (a + 2)), .int rd_length, .int rd_at, .int rd_kind, .int rd_start, .int rd_value, .int rd_error, .int rd_errorAt, .int rd_hasThreshold, .int rd_hasRate]))) (h_a1 : zc N h (a + 1) (.inl (w.2.2.1 2, 900, .inl rd_text))) {r : Int32 × Int32 × Int32 × Int32} (hf : f_X6_advance rd_length rd_at rd_kind rd_start rd_value rd_text = some r) : zM w yX6_advance cX6_advance 2 none (zr 0 0) false N N h [.ref (zo w + a)] (none) (zu h a [(0, .inr (6, [.ref (zo w + (a + 1)), .int rd_filled, .ref (zo w + (a + 2)), .int rd_length, .int r.1, .int r.2.1, .int r.2.2.1, .int r.2.2.2, .int rd_error, .int rd_errorAt, .int rd_hasThreshold, .int rd_hasRate]))]) := by
  unfold f_X6_advance at hf
  refine zM_of (by decide) rfl (fun X C _ => ?_)
  refine z_eq (h' := (zu h a [(0, .inr (6, [.ref (zo w + (a + 1)), .int rd_filled, .ref (zo w + (a + 2)), .int rd_length, .int rd_at, .int rd_kind, .int rd_start, .int rd_value, .int rd_error, .int rd_errorAt, .int rd_hasThreshold, .int rd_hasRate]))])) (zu_s h_a0 zu_0).symm ?_
  have n_a0 := h_a0.1
  refine z_pick (lv' := [(0, .ref (zo w + a))]) [0] rfl ?_
  exact w_X6_advance_0 C n_a0 h_a1  FU hf
set_option maxRecDepth 20000 in
theorem w_X6_isWord_29 {X : zC} {w : zV} {N : Nat} {h : zH} {a : Nat} {rd_filled : Int32} {rd_hasThreshold : Int32} {rd_hasRate : Int32} {rd_length : Int32} {rd_at : Int32} {rd_kind : Int32} {rd_start : Int32} {rd_value : Int32} {rd_error : Int32} {rd_errorAt : Int32} {rd_text : Nat → Int32} {p1 : Nat} (C : zK X w RX6 cX6_isWord 3 (some .boolean) (zr 4 150)) (h_a0 : zc N h (a + 0) (.inr (6, [.ref (zo w + (a + 1)), .int rd_filled, .ref (zo w + (a + 2)), .int rd_length, .int rd_at, .int rd_kind, .int rd_start, .int rd_value, .int rd_error, .int rd_errorAt, .int rd_hasThreshold, .int rd_hasRate]))) (h_a1 : zc N h (a + 1) (.inl (w.2.2.1 2, 900, .inl rd_text))) (hi_p1 : p1 < 25) {r : Int32} (n : Nat) : ∀ {x2 : Int32}, f_X6_isWord_29  n rd_start rd_text p1 x2 = some r → zZ X w (zQ X w (zr 4 150) (some (.int r)) false N h) 0 0 false N h 29 [(0, .ref (zo w + a)), (1, .ref (zsa w p1)), (2, .int x2)] [] := by
  induction n with
  | zero =>
    intro x2 hf
    have hf : (none : Option (Int32)) = some r := hf
    cases hf
  | succ z ih =>
    intro x2 hf
    rw [f_X6_isWord_29] at hf
    refine z_iload_n (pc' := 30) C 2 dX6_isWord_29 rfl rfl rfl ?_
    refine z_aload_n (pc' := 31) C 1 dX6_isWord_30 rfl rfl rfl ?_
    refine z_slen (pc' := 34) C hi_p1 zw_551 rfl rfl rfl dX6_isWord_31 rfl ?_
    refine z_icmp_ge (pc' := 37) C 64 hf dX6_isWord_34 rfl rfl (fun g_34 hf => ?_) (fun g_34 hf => ?_)
    · refine z_iconst (pc' := 65) C dX6_isWord_64 zk_iconst_1 rfl ?_
      cases hf
      exact z_zret C zb_1 rfl rfl dX6_isWord_65
    · refine z_aload_n (pc' := 38) C 0 dX6_isWord_37 rfl rfl rfl ?_
      refine z_getf (pc' := 41) C zci_6 zw_274 (j := 0) rfl h_a0 rfl rfl dX6_isWord_38 rfl ?_
      refine z_aload_n (pc' := 42) C 0 dX6_isWord_41 rfl rfl rfl ?_
      refine z_getf (pc' := 45) C zci_6 zw_282 (j := 6) rfl h_a0 rfl rfl dX6_isWord_42 rfl ?_
      refine z_iload_n (pc' := 46) C 2 dX6_isWord_45 rfl rfl rfl ?_
      refine z_iadd (pc' := 47) C dX6_isWord_46 rfl ?_
      refine z_bald (pc' := 48) C hf h_a1 dX6_isWord_47 rfl (fun v_47 hf => ?_)
      refine z_aload_n (pc' := 49) C 1 dX6_isWord_48 rfl rfl rfl ?_
      refine z_iload_n (pc' := 50) C 2 dX6_isWord_49 rfl rfl rfl ?_
      refine z_schr (pc' := 53) C hf hi_p1 zw_561 rfl rfl rfl dX6_isWord_50 rfl (fun v_50 hf => ?_)
      refine z_icmp_eq (pc' := 56) C 58 hf dX6_isWord_53 rfl rfl (fun g_53 hf => ?_) (fun g_53 hf => ?_)
      · refine z_iinc (pc' := 61) C 2 [(2, .int (x2 + (1 : Int32))), (0, .ref (zo w + a)), (1, .ref (zsa w p1))] dX6_isWord_58 rfl zk_iconst_1 rfl rfl rfl ?_
        refine z_goto C 29 dX6_isWord_61 rfl ?_
        refine z_pick (lv' := [(0, .ref (zo w + a)), (1, .ref (zsa w p1)), (2, .int (x2 + (1 : Int32)))]) [1, 2, 0] rfl ?_
        exact ih hf
      · refine z_iconst (pc' := 57) C dX6_isWord_56 zk_iconst_0 rfl ?_
        cases hf
        exact z_zret C zb_0 rfl rfl dX6_isWord_57
set_option maxRecDepth 20000 in
theorem c_X6_isWord {w : zV} {N : Nat} {h : zH} {a : Nat} {rd_filled : Int32} {rd_hasThreshold : Int32} {rd_hasRate : Int32} {rd_length : Int32} {rd_at : Int32} {rd_kind : Int32} {rd_start : Int32} {rd_value : Int32} {rd_error : Int32} {rd_errorAt : Int32} {rd_text : Nat → Int32} {p1 : Nat} (h_a0 : zc N h (a + 0) (.inr (6, [.ref (zo w + (a + 1)), .int rd_filled, .ref (zo w + (a + 2)), .int rd_length, .int rd_at, .int rd_kind, .int rd_start, .int rd_value, .int rd_error, .int rd_errorAt, .int rd_hasThreshold, .int rd_hasRate]))) (h_a1 : zc N h (a + 1) (.inl (w.2.2.1 2, 900, .inl rd_text))) (hi_p1 : p1 < 25) {r : Int32} (hf : f_X6_isWord rd_at rd_kind rd_start rd_text p1 = some r) : zM w yX6_isWord cX6_isWord 3 (some .boolean) (zr 4 150) false N N h [.ref (zo w + a), .ref (zsa w p1)] (some (.int r)) h := by
  unfold f_X6_isWord at hf
  refine zM_of (by decide) rfl (fun X C _ => ?_)
  refine z_pick (lv' := [(0, .ref (zo w + a)), (1, .ref (zsa w p1))]) [0, 1] rfl ?_
  refine z_aload_n (pc' := 1) C 0 dX6_isWord_0 rfl rfl rfl ?_
  refine z_getf (pc' := 4) C zci_6 zw_281 (j := 5) rfl h_a0 rfl rfl dX6_isWord_1 rfl ?_
  refine z_bipush (pc' := 6) C dX6_isWord_4 zk_bipush_m3 rfl ?_
  refine z_icmp_ne (pc' := 9) C 25 hf dX6_isWord_6 rfl rfl (fun g_6 hf => ?_) (fun g_6 hf => ?_)
  · refine z_iconst (pc' := 26) C dX6_isWord_25 zk_iconst_0 rfl ?_
    cases hf
    exact z_zret C zb_0 rfl rfl dX6_isWord_26
  · refine z_aload_n (pc' := 10) C 0 dX6_isWord_9 rfl rfl rfl ?_
    refine z_getf (pc' := 13) C zci_6 zw_280 (j := 4) rfl h_a0 rfl rfl dX6_isWord_10 rfl ?_
    refine z_aload_n (pc' := 14) C 0 dX6_isWord_13 rfl rfl rfl ?_
    refine z_getf (pc' := 17) C zci_6 zw_282 (j := 6) rfl h_a0 rfl rfl dX6_isWord_14 rfl ?_
    refine z_isub (pc' := 18) C dX6_isWord_17 rfl ?_
    refine z_aload_n (pc' := 19) C 1 dX6_isWord_18 rfl rfl rfl ?_
    refine z_slen (pc' := 22) C hi_p1 zw_551 rfl rfl rfl dX6_isWord_19 rfl ?_
    refine z_icmp_eq (pc' := 25) C 27 hf dX6_isWord_22 rfl rfl (fun g_22 hf => ?_) (fun g_22 hf => ?_)
    · refine z_iconst (pc' := 28) C dX6_isWord_27 zk_iconst_0 rfl ?_
      refine z_istore_n (pc' := 29) C [(2, .int (0 : Int32)), (0, .ref (zo w + a)), (1, .ref (zsa w p1))] dX6_isWord_28 rfl rfl rfl rfl ?_
      refine z_pick (lv' := [(0, .ref (zo w + a)), (1, .ref (zsa w p1)), (2, .int (0 : Int32))]) [1, 2, 0] rfl ?_
      exact w_X6_isWord_29 C h_a0 h_a1 hi_p1  FU hf
    · refine z_iconst (pc' := 26) C dX6_isWord_25 zk_iconst_0 rfl ?_
      cases hf
      exact z_zret C zb_0 rfl rfl dX6_isWord_26
set_option maxRecDepth 20000 in
theorem c_X6_failAt {w : zV} {N : Nat} {h : zH} {a : Nat} {rd_filled : Int32} {rd_hasThreshold : Int32} {rd_hasRate : Int32} {rd_length : Int32} {rd_at : Int32} {rd_kind : Int32} {rd_start : Int32} {rd_value : Int32} {rd_error : Int32} {rd_errorAt : Int32} {p1 : Int32} {p2 : Int32} (h_a0 : zc N h (a + 0) (.inr (6, [.ref (zo w + (a + 1)), .int rd_filled, .ref (zo w + (a + 2)), .int rd_length, .int rd_at, .int rd_kind, .int rd_start, .int rd_value, .int rd_error, .int rd_errorAt, .int rd_hasThreshold, .int rd_hasRate]))) {r : Int32 × Int32} (hf : f_X6_failAt rd_error rd_errorAt p1 p2 = some r) : zM w yX6_failAt cX6_failAt 3 none (zr 0 0) false N N h [.ref (zo w + a), .int p1, .int p2] (none) (zu h a [(0, .inr (6, [.ref (zo w + (a + 1)), .int rd_filled, .ref (zo w + (a + 2)), .int rd_length, .int rd_at, .int rd_kind, .int rd_start, .int rd_value, .int r.1, .int r.2, .int rd_hasThreshold, .int rd_hasRate]))]) := by
  unfold f_X6_failAt at hf
  refine zM_of (by decide) rfl (fun X C _ => ?_)
  refine z_eq (h' := (zu h a [(0, .inr (6, [.ref (zo w + (a + 1)), .int rd_filled, .ref (zo w + (a + 2)), .int rd_length, .int rd_at, .int rd_kind, .int rd_start, .int rd_value, .int rd_error, .int rd_errorAt, .int rd_hasThreshold, .int rd_hasRate]))])) (zu_s h_a0 zu_0).symm ?_
  have n_a0 := h_a0.1
  refine z_pick (lv' := [(0, .ref (zo w + a)), (1, .int p1), (2, .int p2)]) [0, 1, 2] rfl ?_
  refine z_aload_n (pc' := 1) C 0 dX6_failAt_0 rfl rfl rfl ?_
  refine z_getf (pc' := 4) C zci_6 zw_284 (j := 8) rfl (zc_i (o := 0) n_a0 rfl) rfl rfl dX6_failAt_1 rfl ?_
  refine z_if_ne (pc' := 7) C 17 hf dX6_failAt_4 rfl rfl (fun g_4 hf => ?_) (fun g_4 hf => ?_)
  · cases hf
    exact z_vret C rfl rfl dX6_failAt_17
  · refine z_aload_n (pc' := 8) C 0 dX6_failAt_7 rfl rfl rfl ?_
    refine z_iload_n (pc' := 9) C 2 dX6_failAt_8 rfl rfl rfl ?_
    refine z_putf (pc' := 12) C zci_6 zw_284 (j := 8) rfl (zc_i (o := 0) n_a0 rfl) (fs' := [.ref (zo w + (a + 1)), .int rd_filled, .ref (zo w + (a + 2)), .int rd_length, .int rd_at, .int rd_kind, .int rd_start, .int rd_value, .int p2, .int rd_errorAt, .int rd_hasThreshold, .int rd_hasRate]) rfl rfl rfl rfl rfl (zu_put (o := 0) (L' := [(0, .inr (6, [.ref (zo w + (a + 1)), .int rd_filled, .ref (zo w + (a + 2)), .int rd_length, .int rd_at, .int rd_kind, .int rd_start, .int rd_value, .int p2, .int rd_errorAt, .int rd_hasThreshold, .int rd_hasRate]))]) rfl) dX6_failAt_9 rfl ?_
    refine z_aload_n (pc' := 13) C 0 dX6_failAt_12 rfl rfl rfl ?_
    refine z_iload_n (pc' := 14) C 1 dX6_failAt_13 rfl rfl rfl ?_
    refine z_putf (pc' := 17) C zci_6 zw_285 (j := 9) rfl (zc_i (o := 0) n_a0 rfl) (fs' := [.ref (zo w + (a + 1)), .int rd_filled, .ref (zo w + (a + 2)), .int rd_length, .int rd_at, .int rd_kind, .int rd_start, .int rd_value, .int p2, .int p1, .int rd_hasThreshold, .int rd_hasRate]) rfl rfl rfl rfl rfl (zu_put (o := 0) (L' := [(0, .inr (6, [.ref (zo w + (a + 1)), .int rd_filled, .ref (zo w + (a + 2)), .int rd_length, .int rd_at, .int rd_kind, .int rd_start, .int rd_value, .int p2, .int p1, .int rd_hasThreshold, .int rd_hasRate]))]) rfl) dX6_failAt_14 rfl ?_
    cases hf
    exact z_vret C rfl rfl dX6_failAt_17
set_option maxRecDepth 20000 in
theorem c_X6_takeWord {w : zV} {N : Nat} {h : zH} {a : Nat} {rd_filled : Int32} {rd_hasThreshold : Int32} {rd_hasRate : Int32} {rd_length : Int32} {rd_at : Int32} {rd_kind : Int32} {rd_start : Int32} {rd_value : Int32} {rd_error : Int32} {rd_errorAt : Int32} {rd_text : Nat → Int32} {p1 : Nat} (h_a0 : zc N h (a + 0) (.inr (6, [.ref (zo w + (a + 1)), .int rd_filled, .ref (zo w + (a + 2)), .int rd_length, .int rd_at, .int rd_kind, .int rd_start, .int rd_value, .int rd_error, .int rd_errorAt, .int rd_hasThreshold, .int rd_hasRate]))) (h_a1 : zc N h (a + 1) (.inl (w.2.2.1 2, 900, .inl rd_text))) (hi_p1 : p1 < 25) {r : Int32 × Int32 × Int32 × Int32 × Int32 × Int32} (hf : f_X6_takeWord rd_length rd_at rd_kind rd_start rd_value rd_error rd_errorAt rd_text p1 = some r) : zM w yX6_takeWord cX6_takeWord 2 none (zr 5 180) false N N h [.ref (zo w + a), .ref (zsa w p1)] (none) (zu h a [(0, .inr (6, [.ref (zo w + (a + 1)), .int rd_filled, .ref (zo w + (a + 2)), .int rd_length, .int r.1, .int r.2.1, .int r.2.2.1, .int r.2.2.2.1, .int r.2.2.2.2.1, .int r.2.2.2.2.2, .int rd_hasThreshold, .int rd_hasRate]))]) := by
  unfold f_X6_takeWord at hf
  refine zM_of (by decide) rfl (fun X C _ => ?_)
  refine z_eq (h' := (zu h a [(0, .inr (6, [.ref (zo w + (a + 1)), .int rd_filled, .ref (zo w + (a + 2)), .int rd_length, .int rd_at, .int rd_kind, .int rd_start, .int rd_value, .int rd_error, .int rd_errorAt, .int rd_hasThreshold, .int rd_hasRate]))])) (zu_s h_a0 zu_0).symm ?_
  have n_a0 := h_a0.1
  refine z_pick (lv' := [(0, .ref (zo w + a)), (1, .ref (zsa w p1))]) [0, 1] rfl ?_
  refine z_aload_n (pc' := 1) C 0 dX6_takeWord_0 rfl rfl rfl ?_
  refine z_aload_n (pc' := 2) C 1 dX6_takeWord_1 rfl rfl rfl ?_
  refine z_cV (pc' := 5) C hf (As := [.ref (zsa w p1)]) (fun hq => c_X6_isWord (a := a) (zc_i (o := 0) n_a0 rfl) (zc_o (o := 1) h_a1 rfl) hi_p1 hq) (fun _ => (zu h a [(0, .inr (6, [.ref (zo w + (a + 1)), .int rd_filled, .ref (zo w + (a + 2)), .int rd_length, .int rd_at, .int rd_kind, .int rd_start, .int rd_value, .int rd_error, .int rd_errorAt, .int rd_hasThreshold, .int rd_hasRate]))])) (fun q_2 => [.int q_2]) (fun _ => rfl) (fun _ => rfl) zy_X6_isWord zw_547 zw_549 zv_5 (ci := 6) rfl (zc_i (o := 0) n_a0 rfl) ⟨rfl, rfl⟩ rfl rfl rfl rfl rfl dX6_takeWord_2 rfl (fun q_2 hf => ?_)
  refine z_if_eq (pc' := 8) C 15 hf dX6_takeWord_5 rfl rfl (fun g_5 hf => ?_) (fun g_5 hf => ?_)
  · refine z_aload_n (pc' := 16) C 0 dX6_takeWord_15 rfl rfl rfl ?_
    refine z_aload_n (pc' := 17) C 0 dX6_takeWord_16 rfl rfl rfl ?_
    refine z_getf (pc' := 20) C zci_6 zw_282 (j := 6) rfl (zc_i (o := 0) n_a0 rfl) rfl rfl dX6_takeWord_17 rfl ?_
    refine z_bipush (pc' := 22) C dX6_takeWord_20 zk_bipush_m2 rfl ?_
    refine z_cV (pc' := 25) C hf (As := [.int rd_start, .int (-2 : Int32)]) (fun hq => c_X6_failAt (a := a) (zc_i (o := 0) n_a0 rfl) hq) (fun q_22 => (zu h a [(0, .inr (6, [.ref (zo w + (a + 1)), .int rd_filled, .ref (zo w + (a + 2)), .int rd_length, .int rd_at, .int rd_kind, .int rd_start, .int rd_value, .int q_22.1, .int q_22.2, .int rd_hasThreshold, .int rd_hasRate]))])) (fun q_22 => []) (fun _ => zu_sh (d := 0) rfl rfl) (fun _ => rfl) zy_X6_failAt zw_599 zw_601 zv_6 (ci := 6) rfl (zc_i (o := 0) n_a0 rfl) ⟨rfl, rfl⟩ rfl rfl rfl rfl rfl dX6_takeWord_22 rfl (fun q_22 hf => ?_)
    cases hf
    exact z_vret C rfl rfl dX6_takeWord_25
  · refine z_aload_n (pc' := 9) C 0 dX6_takeWord_8 rfl rfl rfl ?_
    refine z_cV (pc' := 12) C hf (As := []) (fun hq => c_X6_advance (a := a) (zc_i (o := 0) n_a0 rfl) (zc_o (o := 1) h_a1 rfl) hq) (fun q_9 => (zu h a [(0, .inr (6, [.ref (zo w + (a + 1)), .int rd_filled, .ref (zo w + (a + 2)), .int rd_length, .int q_9.1, .int q_9.2.1, .int q_9.2.2.1, .int q_9.2.2.2, .int rd_error, .int rd_errorAt, .int rd_hasThreshold, .int rd_hasRate]))])) (fun q_9 => []) (fun _ => zu_sh (d := 0) rfl rfl) (fun _ => rfl) zy_X6_advance zw_533 zw_535 zv_2 (ci := 6) rfl (zc_i (o := 0) n_a0 rfl) ⟨rfl, rfl⟩ rfl rfl rfl rfl rfl dX6_takeWord_9 rfl (fun q_9 hf => ?_)
    refine z_goto C 25 dX6_takeWord_12 rfl ?_
    cases hf
    exact z_vret C rfl rfl dX6_takeWord_25
set_option maxRecDepth 20000 in
theorem w_X6_takeNumber_47 {X : zC} {w : zV} {N : Nat} {h : zH} {a : Nat} {rd_filled : Int32} {rd_hasThreshold : Int32} {rd_hasRate : Int32} {rd_length : Int32} {rd_text : Nat → Int32} (C : zK X w RX6 cX6_takeNumber 4 (some .int) (zr 1 30)) (n_a0 : a + 0 < N) (h_a1 : zc N h (a + 1) (.inl (w.2.2.1 2, 900, .inl rd_text))) {r : Int32 × Int32 × Int32 × Int32 × Int32 × Int32 × Int32} {rd_at : Int32} {rd_kind : Int32} {rd_start : Int32} {rd_value : Int32} {rd_error : Int32} {rd_errorAt : Int32} {x3 : Int32} (hf : f_X6_takeNumber_47  rd_length rd_at rd_kind rd_start rd_value rd_error rd_errorAt rd_text x3 = some r) : zZ X w (zQ X w (zr 1 30) (some (.int r.1)) false N (zu h a [(0, .inr (6, [.ref (zo w + (a + 1)), .int rd_filled, .ref (zo w + (a + 2)), .int rd_length, .int r.2.1, .int r.2.2.1, .int r.2.2.2.1, .int r.2.2.2.2.1, .int r.2.2.2.2.2.1, .int r.2.2.2.2.2.2, .int rd_hasThreshold, .int rd_hasRate]))])) 0 0 false N (zu h a [(0, .inr (6, [.ref (zo w + (a + 1)), .int rd_filled, .ref (zo w + (a + 2)), .int rd_length, .int rd_at, .int rd_kind, .int rd_start, .int rd_value, .int rd_error, .int rd_errorAt, .int rd_hasThreshold, .int rd_hasRate]))]) 47 [(0, .ref (zo w + a)), (3, .int x3)] [] := by
  unfold f_X6_takeNumber_47 at hf
  refine z_aload_n (pc' := 48) C 0 dX6_takeNumber_47 rfl rfl rfl ?_
  refine z_getf (pc' := 51) C zci_6 zw_284 (j := 8) rfl (zc_i (o := 0) n_a0 rfl) rfl rfl dX6_takeNumber_48 rfl ?_
  refine z_if_eq (pc' := 54) C 56 hf dX6_takeNumber_51 rfl rfl (fun g_51 hf => ?_) (fun g_51 hf => ?_)
  · refine z_aload_n (pc' := 57) C 0 dX6_takeNumber_56 rfl rfl rfl ?_
    refine z_cV (pc' := 60) C hf (As := []) (fun hq => c_X6_advance (a := a) (zc_i (o := 0) n_a0 rfl) (zc_o (o := 1) h_a1 rfl) hq) (fun q_57 => (zu h a [(0, .inr (6, [.ref (zo w + (a + 1)), .int rd_filled, .ref (zo w + (a + 2)), .int rd_length, .int q_57.1, .int q_57.2.1, .int q_57.2.2.1, .int q_57.2.2.2, .int rd_error, .int rd_errorAt, .int rd_hasThreshold, .int rd_hasRate]))])) (fun q_57 => []) (fun _ => zu_sh (d := 0) rfl rfl) (fun _ => rfl) zy_X6_advance zw_533 zw_535 zv_2 (ci := 6) rfl (zc_i (o := 0) n_a0 rfl) ⟨rfl, rfl⟩ rfl rfl rfl rfl rfl dX6_takeNumber_57 rfl (fun q_57 hf => ?_)
    refine z_iload_n (pc' := 61) C 1 dX6_takeNumber_60 rfl rfl rfl ?_
    cases hf
    exact z_iret C rfl rfl dX6_takeNumber_61
  · refine z_iconst (pc' := 55) C dX6_takeNumber_54 zk_iconst_m1 rfl ?_
    cases hf
    exact z_iret C rfl rfl dX6_takeNumber_55
set_option maxRecDepth 20000 in
theorem w_X6_takeNumber_37 {X : zC} {w : zV} {N : Nat} {h : zH} {a : Nat} {rd_filled : Int32} {rd_hasThreshold : Int32} {rd_hasRate : Int32} {rd_length : Int32} {rd_text : Nat → Int32} (C : zK X w RX6 cX6_takeNumber 4 (some .int) (zr 1 30)) (n_a0 : a + 0 < N) (h_a1 : zc N h (a + 1) (.inl (w.2.2.1 2, 900, .inl rd_text))) {r : Int32 × Int32 × Int32 × Int32 × Int32 × Int32 × Int32} {rd_at : Int32} {rd_kind : Int32} {rd_start : Int32} {rd_value : Int32} {rd_error : Int32} {rd_errorAt : Int32} {x3 : Int32} (hf : f_X6_takeNumber_37  rd_length rd_at rd_kind rd_start rd_value rd_error rd_errorAt rd_text x3 = some r) : zZ X w (zQ X w (zr 1 30) (some (.int r.1)) false N (zu h a [(0, .inr (6, [.ref (zo w + (a + 1)), .int rd_filled, .ref (zo w + (a + 2)), .int rd_length, .int r.2.1, .int r.2.2.1, .int r.2.2.2.1, .int r.2.2.2.2.1, .int r.2.2.2.2.2.1, .int r.2.2.2.2.2.2, .int rd_hasThreshold, .int rd_hasRate]))])) 0 0 false N (zu h a [(0, .inr (6, [.ref (zo w + (a + 1)), .int rd_filled, .ref (zo w + (a + 2)), .int rd_length, .int rd_at, .int rd_kind, .int rd_start, .int rd_value, .int rd_error, .int rd_errorAt, .int rd_hasThreshold, .int rd_hasRate]))]) 37 [(0, .ref (zo w + a)), (3, .int x3)] [] := by
  unfold f_X6_takeNumber_37 at hf
  refine z_aload_n (pc' := 38) C 0 dX6_takeNumber_37 rfl rfl rfl ?_
  refine z_aload_n (pc' := 39) C 0 dX6_takeNumber_38 rfl rfl rfl ?_
  refine z_getf (pc' := 42) C zci_6 zw_282 (j := 6) rfl (zc_i (o := 0) n_a0 rfl) rfl rfl dX6_takeNumber_39 rfl ?_
  refine z_bipush (pc' := 44) C dX6_takeNumber_42 zk_bipush_m3 rfl ?_
  refine z_cV (pc' := 47) C hf (As := [.int rd_start, .int (-3 : Int32)]) (fun hq => c_X6_failAt (a := a) (zc_i (o := 0) n_a0 rfl) hq) (fun q_44 => (zu h a [(0, .inr (6, [.ref (zo w + (a + 1)), .int rd_filled, .ref (zo w + (a + 2)), .int rd_length, .int rd_at, .int rd_kind, .int rd_start, .int rd_value, .int q_44.1, .int q_44.2, .int rd_hasThreshold, .int rd_hasRate]))])) (fun q_44 => []) (fun _ => zu_sh (d := 0) rfl rfl) (fun _ => rfl) zy_X6_failAt zw_599 zw_601 zv_6 (ci := 6) rfl (zc_i (o := 0) n_a0 rfl) ⟨rfl, rfl⟩ rfl rfl rfl rfl rfl dX6_takeNumber_44 rfl (fun q_44 hf => ?_)
  exact w_X6_takeNumber_47 C n_a0 h_a1  hf
set_option maxRecDepth 20000 in
theorem c_X6_takeNumber {w : zV} {N : Nat} {h : zH} {a : Nat} {rd_filled : Int32} {rd_hasThreshold : Int32} {rd_hasRate : Int32} {rd_length : Int32} {rd_at : Int32} {rd_kind : Int32} {rd_start : Int32} {rd_value : Int32} {rd_error : Int32} {rd_errorAt : Int32} {rd_text : Nat → Int32} {p1 : Int32} {p2 : Int32} (h_a0 : zc N h (a + 0) (.inr (6, [.ref (zo w + (a + 1)), .int rd_filled, .ref (zo w + (a + 2)), .int rd_length, .int rd_at, .int rd_kind, .int rd_start, .int rd_value, .int rd_error, .int rd_errorAt, .int rd_hasThreshold, .int rd_hasRate]))) (h_a1 : zc N h (a + 1) (.inl (w.2.2.1 2, 900, .inl rd_text))) {r : Int32 × Int32 × Int32 × Int32 × Int32 × Int32 × Int32} (hf : f_X6_takeNumber rd_length rd_at rd_kind rd_start rd_value rd_error rd_errorAt rd_text p1 p2 = some r) : zM w yX6_takeNumber cX6_takeNumber 4 (some .int) (zr 1 30) false N N h [.ref (zo w + a), .int p1, .int p2] (some (.int r.1)) (zu h a [(0, .inr (6, [.ref (zo w + (a + 1)), .int rd_filled, .ref (zo w + (a + 2)), .int rd_length, .int r.2.1, .int r.2.2.1, .int r.2.2.2.1, .int r.2.2.2.2.1, .int r.2.2.2.2.2.1, .int r.2.2.2.2.2.2, .int rd_hasThreshold, .int rd_hasRate]))]) := by
  unfold f_X6_takeNumber at hf
  refine zM_of (by decide) rfl (fun X C _ => ?_)
  refine z_eq (h' := (zu h a [(0, .inr (6, [.ref (zo w + (a + 1)), .int rd_filled, .ref (zo w + (a + 2)), .int rd_length, .int rd_at, .int rd_kind, .int rd_start, .int rd_value, .int rd_error, .int rd_errorAt, .int rd_hasThreshold, .int rd_hasRate]))])) (zu_s h_a0 zu_0).symm ?_
  have n_a0 := h_a0.1
  refine z_pick (lv' := [(0, .ref (zo w + a)), (1, .int p1), (2, .int p2)]) [0, 1, 2] rfl ?_
  refine z_aload_n (pc' := 1) C 0 dX6_takeNumber_0 rfl rfl rfl ?_
  refine z_getf (pc' := 4) C zci_6 zw_283 (j := 7) rfl (zc_i (o := 0) n_a0 rfl) rfl rfl dX6_takeNumber_1 rfl ?_
  refine z_istore_n (pc' := 5) C [(3, .int rd_value), (0, .ref (zo w + a)), (1, .int p1), (2, .int p2)] dX6_takeNumber_4 rfl rfl rfl rfl ?_
  refine z_aload_n (pc' := 6) C 1 dX6_takeNumber_5 rfl rfl rfl ?_
  refine z_getf (pc' := 9) C zci_6 zw_281 (j := 5) rfl (zc_i (o := 0) n_a0 rfl) rfl rfl dX6_takeNumber_6 rfl ?_
  refine z_bipush (pc' := 11) C dX6_takeNumber_9 zk_bipush_m2 rfl ?_
  refine z_icmp_eq (pc' := 14) C 27 hf dX6_takeNumber_11 rfl rfl (fun g_11 hf => ?_) (fun g_11 hf => ?_)
  · refine z_iload_n (pc' := 28) C 0 dX6_takeNumber_27 rfl rfl rfl ?_
    refine z_iload_n (pc' := 29) C 2 dX6_takeNumber_28 rfl rfl rfl ?_
    refine z_icmp_lt (pc' := 32) C 37 hf dX6_takeNumber_29 rfl rfl (fun g_29 hf => ?_) (fun g_29 hf => ?_)
    · refine z_pick (lv' := [(0, .ref (zo w + a)), (3, .int rd_value)]) [1, 0] rfl ?_
      exact w_X6_takeNumber_37 C n_a0 h_a1  hf
    · refine z_iload_n (pc' := 33) C 0 dX6_takeNumber_32 rfl rfl rfl ?_
      refine z_iload_n (pc' := 34) C 3 dX6_takeNumber_33 rfl rfl rfl ?_
      refine z_icmp_le (pc' := 37) C 47 hf dX6_takeNumber_34 rfl rfl (fun g_34 hf => ?_) (fun g_34 hf => ?_)
      · refine z_pick (lv' := [(0, .ref (zo w + a)), (3, .int rd_value)]) [1, 0] rfl ?_
        exact w_X6_takeNumber_47 C n_a0 h_a1  hf
      · refine z_pick (lv' := [(0, .ref (zo w + a)), (3, .int rd_value)]) [1, 0] rfl ?_
        exact w_X6_takeNumber_37 C n_a0 h_a1  hf
  · refine z_aload_n (pc' := 15) C 1 dX6_takeNumber_14 rfl rfl rfl ?_
    refine z_aload_n (pc' := 16) C 1 dX6_takeNumber_15 rfl rfl rfl ?_
    refine z_getf (pc' := 19) C zci_6 zw_282 (j := 6) rfl (zc_i (o := 0) n_a0 rfl) rfl rfl dX6_takeNumber_16 rfl ?_
    refine z_bipush (pc' := 21) C dX6_takeNumber_19 zk_bipush_m2 rfl ?_
    refine z_cV (pc' := 24) C hf (As := [.int rd_start, .int (-2 : Int32)]) (fun hq => c_X6_failAt (a := a) (zc_i (o := 0) n_a0 rfl) hq) (fun q_21 => (zu h a [(0, .inr (6, [.ref (zo w + (a + 1)), .int rd_filled, .ref (zo w + (a + 2)), .int rd_length, .int rd_at, .int rd_kind, .int rd_start, .int rd_value, .int q_21.1, .int q_21.2, .int rd_hasThreshold, .int rd_hasRate]))])) (fun q_21 => []) (fun _ => zu_sh (d := 0) rfl rfl) (fun _ => rfl) zy_X6_failAt zw_599 zw_601 zv_6 (ci := 6) rfl (zc_i (o := 0) n_a0 rfl) ⟨rfl, rfl⟩ rfl rfl rfl rfl rfl dX6_takeNumber_21 rfl (fun q_21 hf => ?_)
    refine z_goto C 47 dX6_takeNumber_24 rfl ?_
    refine z_pick (lv' := [(0, .ref (zo w + a)), (3, .int rd_value)]) [1, 0] rfl ?_
    exact w_X6_takeNumber_47 C n_a0 h_a1  hf
set_option maxRecDepth 20000 in
theorem c_X6_take {w : zV} {N : Nat} {h : zH} {a : Nat} {rd_filled : Int32} {rd_hasThreshold : Int32} {rd_hasRate : Int32} {rd_length : Int32} {rd_at : Int32} {rd_kind : Int32} {rd_start : Int32} {rd_value : Int32} {rd_error : Int32} {rd_errorAt : Int32} {rd_text : Nat → Int32} {p1 : Int32} (h_a0 : zc N h (a + 0) (.inr (6, [.ref (zo w + (a + 1)), .int rd_filled, .ref (zo w + (a + 2)), .int rd_length, .int rd_at, .int rd_kind, .int rd_start, .int rd_value, .int rd_error, .int rd_errorAt, .int rd_hasThreshold, .int rd_hasRate]))) (h_a1 : zc N h (a + 1) (.inl (w.2.2.1 2, 900, .inl rd_text))) {r : Int32 × Int32 × Int32 × Int32 × Int32 × Int32} (hf : f_X6_take rd_length rd_at rd_kind rd_start rd_value rd_error rd_errorAt rd_text p1 = some r) : zM w yX6_take cX6_take 2 none (zr 1 30) false N N h [.ref (zo w + a), .int p1] (none) (zu h a [(0, .inr (6, [.ref (zo w + (a + 1)), .int rd_filled, .ref (zo w + (a + 2)), .int rd_length, .int r.1, .int r.2.1, .int r.2.2.1, .int r.2.2.2.1, .int r.2.2.2.2.1, .int r.2.2.2.2.2, .int rd_hasThreshold, .int rd_hasRate]))]) := by
  unfold f_X6_take at hf
  refine zM_of (by decide) rfl (fun X C _ => ?_)
  refine z_eq (h' := (zu h a [(0, .inr (6, [.ref (zo w + (a + 1)), .int rd_filled, .ref (zo w + (a + 2)), .int rd_length, .int rd_at, .int rd_kind, .int rd_start, .int rd_value, .int rd_error, .int rd_errorAt, .int rd_hasThreshold, .int rd_hasRate]))])) (zu_s h_a0 zu_0).symm ?_
  have n_a0 := h_a0.1
  refine z_pick (lv' := [(0, .ref (zo w + a)), (1, .int p1)]) [0, 1] rfl ?_
  refine z_aload_n (pc' := 1) C 0 dX6_take_0 rfl rfl rfl ?_
  refine z_getf (pc' := 4) C zci_6 zw_281 (j := 5) rfl (zc_i (o := 0) n_a0 rfl) rfl rfl dX6_take_1 rfl ?_
  refine z_iload_n (pc' := 5) C 1 dX6_take_4 rfl rfl rfl ?_
  refine z_icmp_ne (pc' := 8) C 15 hf dX6_take_5 rfl rfl (fun g_5 hf => ?_) (fun g_5 hf => ?_)
  · refine z_aload_n (pc' := 16) C 0 dX6_take_15 rfl rfl rfl ?_
    refine z_aload_n (pc' := 17) C 0 dX6_take_16 rfl rfl rfl ?_
    refine z_getf (pc' := 20) C zci_6 zw_282 (j := 6) rfl (zc_i (o := 0) n_a0 rfl) rfl rfl dX6_take_17 rfl ?_
    refine z_bipush (pc' := 22) C dX6_take_20 zk_bipush_m2 rfl ?_
    refine z_cV (pc' := 25) C hf (As := [.int rd_start, .int (-2 : Int32)]) (fun hq => c_X6_failAt (a := a) (zc_i (o := 0) n_a0 rfl) hq) (fun q_22 => (zu h a [(0, .inr (6, [.ref (zo w + (a + 1)), .int rd_filled, .ref (zo w + (a + 2)), .int rd_length, .int rd_at, .int rd_kind, .int rd_start, .int rd_value, .int q_22.1, .int q_22.2, .int rd_hasThreshold, .int rd_hasRate]))])) (fun q_22 => []) (fun _ => zu_sh (d := 0) rfl rfl) (fun _ => rfl) zy_X6_failAt zw_599 zw_601 zv_6 (ci := 6) rfl (zc_i (o := 0) n_a0 rfl) ⟨rfl, rfl⟩ rfl rfl rfl rfl rfl dX6_take_22 rfl (fun q_22 hf => ?_)
    cases hf
    exact z_vret C rfl rfl dX6_take_25
  · refine z_aload_n (pc' := 9) C 0 dX6_take_8 rfl rfl rfl ?_
    refine z_cV (pc' := 12) C hf (As := []) (fun hq => c_X6_advance (a := a) (zc_i (o := 0) n_a0 rfl) (zc_o (o := 1) h_a1 rfl) hq) (fun q_9 => (zu h a [(0, .inr (6, [.ref (zo w + (a + 1)), .int rd_filled, .ref (zo w + (a + 2)), .int rd_length, .int q_9.1, .int q_9.2.1, .int q_9.2.2.1, .int q_9.2.2.2, .int rd_error, .int rd_errorAt, .int rd_hasThreshold, .int rd_hasRate]))])) (fun q_9 => []) (fun _ => zu_sh (d := 0) rfl rfl) (fun _ => rfl) zy_X6_advance zw_533 zw_535 zv_2 (ci := 6) rfl (zc_i (o := 0) n_a0 rfl) ⟨rfl, rfl⟩ rfl rfl rfl rfl rfl dX6_take_9 rfl (fun q_9 hf => ?_)
    refine z_goto C 25 dX6_take_12 rfl ?_
    cases hf
    exact z_vret C rfl rfl dX6_take_25
set_option maxRecDepth 20000 in
theorem c_X6_readHead {w : zV} {N : Nat} {h : zH} {a : Nat} {rd_filled : Int32} {rd_hasThreshold : Int32} {rd_hasRate : Int32} {rd_length : Int32} {rd_at : Int32} {rd_kind : Int32} {rd_start : Int32} {rd_value : Int32} {rd_error : Int32} {rd_errorAt : Int32} {rd_text : Nat → Int32} {co_linked : Nat → Int32} {co_stage : Nat → Int32} {pr_day : Int32} {pr_pricing : Nat} {pr_accounts : Nat → Int64} {co_count : Int32} {co_parent : Nat → Int32} {co_retentionPercent : Nat → Int32} {co_limitPercent : Nat → Int32} {co_paymentDays : Nat → Int32} {co_rank : Nat → Int32} (h_a0 : zc N h (a + 0) (.inr (6, [.ref (zo w + (a + 1)), .int rd_filled, .ref (zo w + (a + 2)), .int rd_length, .int rd_at, .int rd_kind, .int rd_start, .int rd_value, .int rd_error, .int rd_errorAt, .int rd_hasThreshold, .int rd_hasRate]))) (h_a1 : zc N h (a + 1) (.inl (w.2.2.1 2, 900, .inl rd_text))) (h_a2 : zc N h (a + 2) (.inr (5, [.int pr_day, .ref (zo w + (a + 3)), .ref (zo w + (a + 4)), .ref (zo w + pr_pricing), .ref (zo w + (a + 15)), .ref (zo w + (a + 21)), .ref (zo w + (a + 25)), .ref (zo w + (a + 31)), .ref (zo w + (a + 36))]))) (h_a3 : zc N h (a + 3) (.inl (w.2.2.1 1, 9, .inr (.inl pr_accounts)))) (h_a4 : zc N h (a + 4) (.inr (1, [.int co_count, .ref (zo w + (a + 5)), .ref (zo w + (a + 6)), .ref (zo w + (a + 7)), .ref (zo w + (a + 8)), .ref (zo w + (a + 9)), .ref (zo w + (a + 10)), .ref (zo w + (a + 11))]))) (h_a5 : zc N h (a + 5) (.inl (w.2.2.1 0, 8, .inl co_parent))) (h_a6 : zc N h (a + 6) (.inl (w.2.2.1 0, 8, .inl co_retentionPercent))) (h_a7 : zc N h (a + 7) (.inl (w.2.2.1 0, 8, .inl co_limitPercent))) (h_a8 : zc N h (a + 8) (.inl (w.2.2.1 0, 8, .inl co_paymentDays))) (h_a9 : zc N h (a + 9) (.inl (w.2.2.1 0, 8, .inl co_rank))) (h_a10 : zc N h (a + 10) (.inl (w.2.2.1 3, 8, .inl co_linked))) (h_a11 : zc N h (a + 11) (.inl (w.2.2.1 0, 8, .inl co_stage))) {r : Int32 × Int32 × Int32 × Int32 × Int32 × Int32 × (Nat → Int64) × Int32 × (Nat → Int32) × (Nat → Int32) × (Nat → Int32) × (Nat → Int32) × (Nat → Int32) × (Nat → Int32) × (Nat → Int32)} (hf : f_X6_readHead rd_length rd_at rd_kind rd_start rd_value rd_error rd_errorAt rd_text pr_accounts co_count co_parent co_retentionPercent co_limitPercent co_paymentDays co_rank co_linked co_stage = some r) : zM w yX6_readHead cX6_readHead 5 none (zr 6 209) false N N h [.ref (zo w + a)] (none) (zu h a [(0, .inr (6, [.ref (zo w + (a + 1)), .int rd_filled, .ref (zo w + (a + 2)), .int rd_length, .int r.1, .int r.2.1, .int r.2.2.1, .int r.2.2.2.1, .int r.2.2.2.2.1, .int r.2.2.2.2.2.1, .int rd_hasThreshold, .int rd_hasRate])), (3, .inl (w.2.2.1 1, 9, .inr (.inl r.2.2.2.2.2.2.1))), (4, .inr (1, [.int r.2.2.2.2.2.2.2.1, .ref (zo w + (a + 5)), .ref (zo w + (a + 6)), .ref (zo w + (a + 7)), .ref (zo w + (a + 8)), .ref (zo w + (a + 9)), .ref (zo w + (a + 10)), .ref (zo w + (a + 11))])), (5, .inl (w.2.2.1 0, 8, .inl r.2.2.2.2.2.2.2.2.1)), (6, .inl (w.2.2.1 0, 8, .inl r.2.2.2.2.2.2.2.2.2.1)), (7, .inl (w.2.2.1 0, 8, .inl r.2.2.2.2.2.2.2.2.2.2.1)), (8, .inl (w.2.2.1 0, 8, .inl r.2.2.2.2.2.2.2.2.2.2.2.1)), (9, .inl (w.2.2.1 0, 8, .inl r.2.2.2.2.2.2.2.2.2.2.2.2.1)), (10, .inl (w.2.2.1 3, 8, .inl r.2.2.2.2.2.2.2.2.2.2.2.2.2.1)), (11, .inl (w.2.2.1 0, 8, .inl r.2.2.2.2.2.2.2.2.2.2.2.2.2.2))]) := by
  unfold f_X6_readHead at hf
  refine zM_of (by decide) rfl (fun X C _ => ?_)
  refine z_eq (h' := (zu h a [(0, .inr (6, [.ref (zo w + (a + 1)), .int rd_filled, .ref (zo w + (a + 2)), .int rd_length, .int rd_at, .int rd_kind, .int rd_start, .int rd_value, .int rd_error, .int rd_errorAt, .int rd_hasThreshold, .int rd_hasRate])), (3, .inl (w.2.2.1 1, 9, .inr (.inl pr_accounts))), (4, .inr (1, [.int co_count, .ref (zo w + (a + 5)), .ref (zo w + (a + 6)), .ref (zo w + (a + 7)), .ref (zo w + (a + 8)), .ref (zo w + (a + 9)), .ref (zo w + (a + 10)), .ref (zo w + (a + 11))])), (5, .inl (w.2.2.1 0, 8, .inl co_parent)), (6, .inl (w.2.2.1 0, 8, .inl co_retentionPercent)), (7, .inl (w.2.2.1 0, 8, .inl co_limitPercent)), (8, .inl (w.2.2.1 0, 8, .inl co_paymentDays)), (9, .inl (w.2.2.1 0, 8, .inl co_rank)), (10, .inl (w.2.2.1 3, 8, .inl co_linked)), (11, .inl (w.2.2.1 0, 8, .inl co_stage))])) (zu_s h_a0 (zu_s h_a3 (zu_s h_a4 (zu_s h_a5 (zu_s h_a6 (zu_s h_a7 (zu_s h_a8 (zu_s h_a9 (zu_s h_a10 (zu_s h_a11 zu_0)))))))))).symm ?_
  have n_a0 := h_a0.1
  have n_a3 := h_a3.1
  have n_a4 := h_a4.1
  have n_a5 := h_a5.1
  have n_a6 := h_a6.1
  have n_a7 := h_a7.1
  have n_a8 := h_a8.1
  have n_a9 := h_a9.1
  have n_a10 := h_a10.1
  have n_a11 := h_a11.1
  refine z_pick (lv' := [(0, .ref (zo w + a))]) [0] rfl ?_
  refine z_aload_n (pc' := 1) C 0 dX6_readHead_0 rfl rfl rfl ?_
  refine z_ldcS (pc' := 3) C 1 rfl dX6_readHead_1 rfl ?_
  refine z_cV (pc' := 6) C hf (As := [.ref (zsa w 1)]) (fun hq => c_X6_takeWord (a := a) (zc_i (o := 0) n_a0 rfl) (zc_o (o := 1) h_a1 rfl) (by decide) hq) (fun q_3 => (zu h a [(0, .inr (6, [.ref (zo w + (a + 1)), .int rd_filled, .ref (zo w + (a + 2)), .int rd_length, .int q_3.1, .int q_3.2.1, .int q_3.2.2.1, .int q_3.2.2.2.1, .int q_3.2.2.2.2.1, .int q_3.2.2.2.2.2, .int rd_hasThreshold, .int rd_hasRate])), (3, .inl (w.2.2.1 1, 9, .inr (.inl pr_accounts))), (4, .inr (1, [.int co_count, .ref (zo w + (a + 5)), .ref (zo w + (a + 6)), .ref (zo w + (a + 7)), .ref (zo w + (a + 8)), .ref (zo w + (a + 9)), .ref (zo w + (a + 10)), .ref (zo w + (a + 11))])), (5, .inl (w.2.2.1 0, 8, .inl co_parent)), (6, .inl (w.2.2.1 0, 8, .inl co_retentionPercent)), (7, .inl (w.2.2.1 0, 8, .inl co_limitPercent)), (8, .inl (w.2.2.1 0, 8, .inl co_paymentDays)), (9, .inl (w.2.2.1 0, 8, .inl co_rank)), (10, .inl (w.2.2.1 3, 8, .inl co_linked)), (11, .inl (w.2.2.1 0, 8, .inl co_stage))])) (fun q_3 => []) (fun _ => zu_sh (d := 0) rfl rfl) (fun _ => rfl) zy_X6_takeWord zw_543 zw_545 zv_4 (ci := 6) rfl (zc_i (o := 0) n_a0 rfl) ⟨rfl, rfl⟩ rfl rfl rfl rfl rfl dX6_readHead_3 rfl (fun q_3 hf => ?_)
  refine z_aload_n (pc' := 7) C 0 dX6_readHead_6 rfl rfl rfl ?_
  refine z_iconst (pc' := 8) C dX6_readHead_7 zk_iconst_0 rfl ?_
  refine z_ldc (pc' := 10) C zw_603 dX6_readHead_8 rfl ?_
  refine z_cV (pc' := 13) C hf (As := [.int (0 : Int32), .int (9999999 : Int32)]) (fun hq => c_X6_takeNumber (a := a) (zc_i (o := 0) n_a0 rfl) (zc_o (o := 1) h_a1 rfl) hq) (fun q_10 => (zu h a [(0, .inr (6, [.ref (zo w + (a + 1)), .int rd_filled, .ref (zo w + (a + 2)), .int rd_length, .int q_10.2.1, .int q_10.2.2.1, .int q_10.2.2.2.1, .int q_10.2.2.2.2.1, .int q_10.2.2.2.2.2.1, .int q_10.2.2.2.2.2.2, .int rd_hasThreshold, .int rd_hasRate])), (3, .inl (w.2.2.1 1, 9, .inr (.inl pr_accounts))), (4, .inr (1, [.int co_count, .ref (zo w + (a + 5)), .ref (zo w + (a + 6)), .ref (zo w + (a + 7)), .ref (zo w + (a + 8)), .ref (zo w + (a + 9)), .ref (zo w + (a + 10)), .ref (zo w + (a + 11))])), (5, .inl (w.2.2.1 0, 8, .inl co_parent)), (6, .inl (w.2.2.1 0, 8, .inl co_retentionPercent)), (7, .inl (w.2.2.1 0, 8, .inl co_limitPercent)), (8, .inl (w.2.2.1 0, 8, .inl co_paymentDays)), (9, .inl (w.2.2.1 0, 8, .inl co_rank)), (10, .inl (w.2.2.1 3, 8, .inl co_linked)), (11, .inl (w.2.2.1 0, 8, .inl co_stage))])) (fun q_10 => [.int q_10.1]) (fun _ => zu_sh (d := 0) rfl rfl) (fun _ => rfl) zy_X6_takeNumber zw_604 zw_606 zv_7 (ci := 6) rfl (zc_i (o := 0) n_a0 rfl) ⟨rfl, rfl⟩ rfl rfl rfl rfl rfl dX6_readHead_10 rfl (fun q_10 hf => ?_)
  refine z_istore_n (pc' := 14) C [(1, .int q_10.1), (0, .ref (zo w + a))] dX6_readHead_13 rfl rfl rfl rfl ?_
  refine z_aload_n (pc' := 15) C 1 dX6_readHead_14 rfl rfl rfl ?_
  refine z_bipush (pc' := 17) C dX6_readHead_15 zk_bipush_59 rfl ?_
  refine z_cV (pc' := 20) C hf (As := [.int (59 : Int32)]) (fun hq => c_X6_take (a := a) (zc_i (o := 0) n_a0 rfl) (zc_o (o := 1) h_a1 rfl) hq) (fun q_17 => (zu h a [(0, .inr (6, [.ref (zo w + (a + 1)), .int rd_filled, .ref (zo w + (a + 2)), .int rd_length, .int q_17.1, .int q_17.2.1, .int q_17.2.2.1, .int q_17.2.2.2.1, .int q_17.2.2.2.2.1, .int q_17.2.2.2.2.2, .int rd_hasThreshold, .int rd_hasRate])), (3, .inl (w.2.2.1 1, 9, .inr (.inl pr_accounts))), (4, .inr (1, [.int co_count, .ref (zo w + (a + 5)), .ref (zo w + (a + 6)), .ref (zo w + (a + 7)), .ref (zo w + (a + 8)), .ref (zo w + (a + 9)), .ref (zo w + (a + 10)), .ref (zo w + (a + 11))])), (5, .inl (w.2.2.1 0, 8, .inl co_parent)), (6, .inl (w.2.2.1 0, 8, .inl co_retentionPercent)), (7, .inl (w.2.2.1 0, 8, .inl co_limitPercent)), (8, .inl (w.2.2.1 0, 8, .inl co_paymentDays)), (9, .inl (w.2.2.1 0, 8, .inl co_rank)), (10, .inl (w.2.2.1 3, 8, .inl co_linked)), (11, .inl (w.2.2.1 0, 8, .inl co_stage))])) (fun q_17 => []) (fun _ => zu_sh (d := 0) rfl rfl) (fun _ => rfl) zy_X6_take zw_608 zw_610 zv_8 (ci := 6) rfl (zc_i (o := 0) n_a0 rfl) ⟨rfl, rfl⟩ rfl rfl rfl rfl rfl dX6_readHead_17 rfl (fun q_17 hf => ?_)
  refine z_aload_n (pc' := 21) C 1 dX6_readHead_20 rfl rfl rfl ?_
  refine z_ldcS (pc' := 23) C 2 rfl dX6_readHead_21 rfl ?_
  refine z_cV (pc' := 26) C hf (As := [.ref (zsa w 2)]) (fun hq => c_X6_takeWord (a := a) (zc_i (o := 0) n_a0 rfl) (zc_o (o := 1) h_a1 rfl) (by decide) hq) (fun q_23 => (zu h a [(0, .inr (6, [.ref (zo w + (a + 1)), .int rd_filled, .ref (zo w + (a + 2)), .int rd_length, .int q_23.1, .int q_23.2.1, .int q_23.2.2.1, .int q_23.2.2.2.1, .int q_23.2.2.2.2.1, .int q_23.2.2.2.2.2, .int rd_hasThreshold, .int rd_hasRate])), (3, .inl (w.2.2.1 1, 9, .inr (.inl pr_accounts))), (4, .inr (1, [.int co_count, .ref (zo w + (a + 5)), .ref (zo w + (a + 6)), .ref (zo w + (a + 7)), .ref (zo w + (a + 8)), .ref (zo w + (a + 9)), .ref (zo w + (a + 10)), .ref (zo w + (a + 11))])), (5, .inl (w.2.2.1 0, 8, .inl co_parent)), (6, .inl (w.2.2.1 0, 8, .inl co_retentionPercent)), (7, .inl (w.2.2.1 0, 8, .inl co_limitPercent)), (8, .inl (w.2.2.1 0, 8, .inl co_paymentDays)), (9, .inl (w.2.2.1 0, 8, .inl co_rank)), (10, .inl (w.2.2.1 3, 8, .inl co_linked)), (11, .inl (w.2.2.1 0, 8, .inl co_stage))])) (fun q_23 => []) (fun _ => zu_sh (d := 0) rfl rfl) (fun _ => rfl) zy_X6_takeWord zw_543 zw_545 zv_4 (ci := 6) rfl (zc_i (o := 0) n_a0 rfl) ⟨rfl, rfl⟩ rfl rfl rfl rfl rfl dX6_readHead_23 rfl (fun q_23 hf => ?_)
  refine z_aload_n (pc' := 27) C 1 dX6_readHead_26 rfl rfl rfl ?_
  refine z_iconst (pc' := 28) C dX6_readHead_27 zk_iconst_0 rfl ?_
  refine z_bipush (pc' := 30) C dX6_readHead_28 zk_bipush_20 rfl ?_
  refine z_cV (pc' := 33) C hf (As := [.int (0 : Int32), .int (20 : Int32)]) (fun hq => c_X6_takeNumber (a := a) (zc_i (o := 0) n_a0 rfl) (zc_o (o := 1) h_a1 rfl) hq) (fun q_30 => (zu h a [(0, .inr (6, [.ref (zo w + (a + 1)), .int rd_filled, .ref (zo w + (a + 2)), .int rd_length, .int q_30.2.1, .int q_30.2.2.1, .int q_30.2.2.2.1, .int q_30.2.2.2.2.1, .int q_30.2.2.2.2.2.1, .int q_30.2.2.2.2.2.2, .int rd_hasThreshold, .int rd_hasRate])), (3, .inl (w.2.2.1 1, 9, .inr (.inl pr_accounts))), (4, .inr (1, [.int co_count, .ref (zo w + (a + 5)), .ref (zo w + (a + 6)), .ref (zo w + (a + 7)), .ref (zo w + (a + 8)), .ref (zo w + (a + 9)), .ref (zo w + (a + 10)), .ref (zo w + (a + 11))])), (5, .inl (w.2.2.1 0, 8, .inl co_parent)), (6, .inl (w.2.2.1 0, 8, .inl co_retentionPercent)), (7, .inl (w.2.2.1 0, 8, .inl co_limitPercent)), (8, .inl (w.2.2.1 0, 8, .inl co_paymentDays)), (9, .inl (w.2.2.1 0, 8, .inl co_rank)), (10, .inl (w.2.2.1 3, 8, .inl co_linked)), (11, .inl (w.2.2.1 0, 8, .inl co_stage))])) (fun q_30 => [.int q_30.1]) (fun _ => zu_sh (d := 0) rfl rfl) (fun _ => rfl) zy_X6_takeNumber zw_604 zw_606 zv_7 (ci := 6) rfl (zc_i (o := 0) n_a0 rfl) ⟨rfl, rfl⟩ rfl rfl rfl rfl rfl dX6_readHead_30 rfl (fun q_30 hf => ?_)
  refine z_istore_n (pc' := 34) C [(2, .int q_30.1), (1, .int q_10.1), (0, .ref (zo w + a))] dX6_readHead_33 rfl rfl rfl rfl ?_
  refine z_aload_n (pc' := 35) C 2 dX6_readHead_34 rfl rfl rfl ?_
  refine z_iconst (pc' := 36) C dX6_readHead_35 zk_iconst_0 rfl ?_
  refine z_bipush (pc' := 38) C dX6_readHead_36 zk_bipush_20 rfl ?_
  refine z_cV (pc' := 41) C hf (As := [.int (0 : Int32), .int (20 : Int32)]) (fun hq => c_X6_takeNumber (a := a) (zc_i (o := 0) n_a0 rfl) (zc_o (o := 1) h_a1 rfl) hq) (fun q_38 => (zu h a [(0, .inr (6, [.ref (zo w + (a + 1)), .int rd_filled, .ref (zo w + (a + 2)), .int rd_length, .int q_38.2.1, .int q_38.2.2.1, .int q_38.2.2.2.1, .int q_38.2.2.2.2.1, .int q_38.2.2.2.2.2.1, .int q_38.2.2.2.2.2.2, .int rd_hasThreshold, .int rd_hasRate])), (3, .inl (w.2.2.1 1, 9, .inr (.inl pr_accounts))), (4, .inr (1, [.int co_count, .ref (zo w + (a + 5)), .ref (zo w + (a + 6)), .ref (zo w + (a + 7)), .ref (zo w + (a + 8)), .ref (zo w + (a + 9)), .ref (zo w + (a + 10)), .ref (zo w + (a + 11))])), (5, .inl (w.2.2.1 0, 8, .inl co_parent)), (6, .inl (w.2.2.1 0, 8, .inl co_retentionPercent)), (7, .inl (w.2.2.1 0, 8, .inl co_limitPercent)), (8, .inl (w.2.2.1 0, 8, .inl co_paymentDays)), (9, .inl (w.2.2.1 0, 8, .inl co_rank)), (10, .inl (w.2.2.1 3, 8, .inl co_linked)), (11, .inl (w.2.2.1 0, 8, .inl co_stage))])) (fun q_38 => [.int q_38.1]) (fun _ => zu_sh (d := 0) rfl rfl) (fun _ => rfl) zy_X6_takeNumber zw_604 zw_606 zv_7 (ci := 6) rfl (zc_i (o := 0) n_a0 rfl) ⟨rfl, rfl⟩ rfl rfl rfl rfl rfl dX6_readHead_38 rfl (fun q_38 hf => ?_)
  refine z_istore_n (pc' := 42) C [(3, .int q_38.1), (2, .int q_30.1), (1, .int q_10.1), (0, .ref (zo w + a))] dX6_readHead_41 rfl rfl rfl rfl ?_
  refine z_aload_n (pc' := 43) C 3 dX6_readHead_42 rfl rfl rfl ?_
  refine z_iconst (pc' := 44) C dX6_readHead_43 zk_iconst_0 rfl ?_
  refine z_bipush (pc' := 46) C dX6_readHead_44 zk_bipush_60 rfl ?_
  refine z_cV (pc' := 49) C hf (As := [.int (0 : Int32), .int (60 : Int32)]) (fun hq => c_X6_takeNumber (a := a) (zc_i (o := 0) n_a0 rfl) (zc_o (o := 1) h_a1 rfl) hq) (fun q_46 => (zu h a [(0, .inr (6, [.ref (zo w + (a + 1)), .int rd_filled, .ref (zo w + (a + 2)), .int rd_length, .int q_46.2.1, .int q_46.2.2.1, .int q_46.2.2.2.1, .int q_46.2.2.2.2.1, .int q_46.2.2.2.2.2.1, .int q_46.2.2.2.2.2.2, .int rd_hasThreshold, .int rd_hasRate])), (3, .inl (w.2.2.1 1, 9, .inr (.inl pr_accounts))), (4, .inr (1, [.int co_count, .ref (zo w + (a + 5)), .ref (zo w + (a + 6)), .ref (zo w + (a + 7)), .ref (zo w + (a + 8)), .ref (zo w + (a + 9)), .ref (zo w + (a + 10)), .ref (zo w + (a + 11))])), (5, .inl (w.2.2.1 0, 8, .inl co_parent)), (6, .inl (w.2.2.1 0, 8, .inl co_retentionPercent)), (7, .inl (w.2.2.1 0, 8, .inl co_limitPercent)), (8, .inl (w.2.2.1 0, 8, .inl co_paymentDays)), (9, .inl (w.2.2.1 0, 8, .inl co_rank)), (10, .inl (w.2.2.1 3, 8, .inl co_linked)), (11, .inl (w.2.2.1 0, 8, .inl co_stage))])) (fun q_46 => [.int q_46.1]) (fun _ => zu_sh (d := 0) rfl rfl) (fun _ => rfl) zy_X6_takeNumber zw_604 zw_606 zv_7 (ci := 6) rfl (zc_i (o := 0) n_a0 rfl) ⟨rfl, rfl⟩ rfl rfl rfl rfl rfl dX6_readHead_46 rfl (fun q_46 hf => ?_)
  refine z_istore (pc' := 51) C [(4, .int q_46.1), (3, .int q_38.1), (2, .int q_30.1), (1, .int q_10.1), (0, .ref (zo w + a))] dX6_readHead_49 rfl rfl rfl ?_
  refine z_aload_n (pc' := 52) C 4 dX6_readHead_51 rfl rfl rfl ?_
  refine z_bipush (pc' := 54) C dX6_readHead_52 zk_bipush_59 rfl ?_
  refine z_cV (pc' := 57) C hf (As := [.int (59 : Int32)]) (fun hq => c_X6_take (a := a) (zc_i (o := 0) n_a0 rfl) (zc_o (o := 1) h_a1 rfl) hq) (fun q_54 => (zu h a [(0, .inr (6, [.ref (zo w + (a + 1)), .int rd_filled, .ref (zo w + (a + 2)), .int rd_length, .int q_54.1, .int q_54.2.1, .int q_54.2.2.1, .int q_54.2.2.2.1, .int q_54.2.2.2.2.1, .int q_54.2.2.2.2.2, .int rd_hasThreshold, .int rd_hasRate])), (3, .inl (w.2.2.1 1, 9, .inr (.inl pr_accounts))), (4, .inr (1, [.int co_count, .ref (zo w + (a + 5)), .ref (zo w + (a + 6)), .ref (zo w + (a + 7)), .ref (zo w + (a + 8)), .ref (zo w + (a + 9)), .ref (zo w + (a + 10)), .ref (zo w + (a + 11))])), (5, .inl (w.2.2.1 0, 8, .inl co_parent)), (6, .inl (w.2.2.1 0, 8, .inl co_retentionPercent)), (7, .inl (w.2.2.1 0, 8, .inl co_limitPercent)), (8, .inl (w.2.2.1 0, 8, .inl co_paymentDays)), (9, .inl (w.2.2.1 0, 8, .inl co_rank)), (10, .inl (w.2.2.1 3, 8, .inl co_linked)), (11, .inl (w.2.2.1 0, 8, .inl co_stage))])) (fun q_54 => []) (fun _ => zu_sh (d := 0) rfl rfl) (fun _ => rfl) zy_X6_take zw_608 zw_610 zv_8 (ci := 6) rfl (zc_i (o := 0) n_a0 rfl) ⟨rfl, rfl⟩ rfl rfl rfl rfl rfl dX6_readHead_54 rfl (fun q_54 hf => ?_)
  refine z_aload_n (pc' := 58) C 4 dX6_readHead_57 rfl rfl rfl ?_
  refine z_getf (pc' := 61) C zci_6 zw_284 (j := 8) rfl (zc_i (o := 0) n_a0 rfl) rfl rfl dX6_readHead_58 rfl ?_
  refine z_if_ne (pc' := 64) C 92 hf dX6_readHead_61 rfl rfl (fun g_61 hf => ?_) (fun g_61 hf => ?_)
  · cases hf
    exact z_vret C rfl rfl dX6_readHead_92
  · refine z_aload_n (pc' := 65) C 4 dX6_readHead_64 rfl rfl rfl ?_
    refine z_getf (pc' := 68) C zci_6 zw_277 (j := 2) rfl (zc_i (o := 0) n_a0 rfl) rfl rfl dX6_readHead_65 rfl ?_
    refine z_getf (pc' := 71) C zci_5 zw_237 (j := 1) rfl (zc_o (o := 2) h_a2 rfl) rfl rfl dX6_readHead_68 rfl ?_
    refine z_iconst (pc' := 72) C dX6_readHead_71 zk_iconst_0 rfl ?_
    refine z_iload_n (pc' := 73) C 3 dX6_readHead_72 rfl rfl rfl ?_
    refine z_i2l (pc' := 74) C dX6_readHead_73 rfl ?_
    refine z_last (pc' := 75) C hf (zc_i (o := 3) n_a3 rfl) (h' := fun v_74 => (zu h a [(0, .inr (6, [.ref (zo w + (a + 1)), .int rd_filled, .ref (zo w + (a + 2)), .int rd_length, .int q_54.1, .int q_54.2.1, .int q_54.2.2.1, .int q_54.2.2.2.1, .int q_54.2.2.2.2.1, .int q_54.2.2.2.2.2, .int rd_hasThreshold, .int rd_hasRate])), (3, .inl (w.2.2.1 1, 9, .inr (.inl v_74))), (4, .inr (1, [.int co_count, .ref (zo w + (a + 5)), .ref (zo w + (a + 6)), .ref (zo w + (a + 7)), .ref (zo w + (a + 8)), .ref (zo w + (a + 9)), .ref (zo w + (a + 10)), .ref (zo w + (a + 11))])), (5, .inl (w.2.2.1 0, 8, .inl co_parent)), (6, .inl (w.2.2.1 0, 8, .inl co_retentionPercent)), (7, .inl (w.2.2.1 0, 8, .inl co_limitPercent)), (8, .inl (w.2.2.1 0, 8, .inl co_paymentDays)), (9, .inl (w.2.2.1 0, 8, .inl co_rank)), (10, .inl (w.2.2.1 3, 8, .inl co_linked)), (11, .inl (w.2.2.1 0, 8, .inl co_stage))])) (fun _ => zu_put (o := 3) rfl) dX6_readHead_74 rfl (fun v_74 hf => ?_)
    refine z_aload_n (pc' := 76) C 4 dX6_readHead_75 rfl rfl rfl ?_
    refine z_getf (pc' := 79) C zci_6 zw_277 (j := 2) rfl (zc_i (o := 0) n_a0 rfl) rfl rfl dX6_readHead_76 rfl ?_
    refine z_getf (pc' := 82) C zci_5 zw_241 (j := 2) rfl (zc_o (o := 2) h_a2 rfl) rfl rfl dX6_readHead_79 rfl ?_
    refine z_iconst (pc' := 83) C dX6_readHead_82 zk_iconst_m1 rfl ?_
    refine z_iload_n (pc' := 84) C 2 dX6_readHead_83 rfl rfl rfl ?_
    refine z_iload_n (pc' := 85) C 1 dX6_readHead_84 rfl rfl rfl ?_
    refine z_iload (pc' := 87) C 0 dX6_readHead_85 rfl rfl ?_
    refine z_iconst (pc' := 88) C dX6_readHead_87 zk_iconst_0 rfl ?_
    refine z_iconst (pc' := 89) C dX6_readHead_88 zk_iconst_0 rfl ?_
    refine z_cV (pc' := 92) C hf (As := [.int (-1 : Int32), .int q_30.1, .int q_38.1, .int q_46.1, .int (0 : Int32), .int (0 : Int32)]) (fun hq => c_X1_add (a := (a + 4)) (zc_i (o := 4) n_a4 rfl) (zc_i (o := 5) n_a5 rfl) (zc_i (o := 6) n_a6 rfl) (zc_i (o := 7) n_a7 rfl) (zc_i (o := 8) n_a8 rfl) (zc_i (o := 9) n_a9 rfl) (zc_i (o := 10) n_a10 rfl) (zc_i (o := 11) n_a11 rfl) hq) (fun q_89 => (zu h a [(0, .inr (6, [.ref (zo w + (a + 1)), .int rd_filled, .ref (zo w + (a + 2)), .int rd_length, .int q_54.1, .int q_54.2.1, .int q_54.2.2.1, .int q_54.2.2.2.1, .int q_54.2.2.2.2.1, .int q_54.2.2.2.2.2, .int rd_hasThreshold, .int rd_hasRate])), (3, .inl (w.2.2.1 1, 9, .inr (.inl v_74))), (4, .inr (1, [.int q_89.1, .ref (zo w + (a + 5)), .ref (zo w + (a + 6)), .ref (zo w + (a + 7)), .ref (zo w + (a + 8)), .ref (zo w + (a + 9)), .ref (zo w + (a + 10)), .ref (zo w + (a + 11))])), (5, .inl (w.2.2.1 0, 8, .inl q_89.2.1)), (6, .inl (w.2.2.1 0, 8, .inl q_89.2.2.1)), (7, .inl (w.2.2.1 0, 8, .inl q_89.2.2.2.1)), (8, .inl (w.2.2.1 0, 8, .inl q_89.2.2.2.2.1)), (9, .inl (w.2.2.1 0, 8, .inl q_89.2.2.2.2.2.1)), (10, .inl (w.2.2.1 3, 8, .inl q_89.2.2.2.2.2.2.1)), (11, .inl (w.2.2.1 0, 8, .inl q_89.2.2.2.2.2.2.2))])) (fun q_89 => []) (fun _ => zu_sh (d := 4) rfl rfl) (fun _ => rfl) zy_X1_add zw_613 zw_614 zw_615 (ci := 1) rfl (zc_i (o := 4) n_a4 rfl) ⟨rfl, rfl⟩ rfl rfl rfl rfl rfl dX6_readHead_89 rfl (fun q_89 hf => ?_)
    cases hf
    exact z_vret C rfl rfl dX6_readHead_92
set_option maxRecDepth 20000 in
theorem w_X6_readSub_98 {X : zC} {w : zV} {N : Nat} {h : zH} {a : Nat} {rd_filled : Int32} {rd_hasThreshold : Int32} {rd_hasRate : Int32} {rd_length : Int32} {rd_text : Nat → Int32} {pr_day : Int32} {pr_pricing : Nat} (C : zK X w RX6 cX6_readSub 7 none (zr 5 180)) (n_a0 : a + 0 < N) (h_a1 : zc N h (a + 1) (.inl (w.2.2.1 2, 900, .inl rd_text))) (h_a2 : zc N h (a + 2) (.inr (5, [.int pr_day, .ref (zo w + (a + 3)), .ref (zo w + (a + 4)), .ref (zo w + pr_pricing), .ref (zo w + (a + 15)), .ref (zo w + (a + 21)), .ref (zo w + (a + 25)), .ref (zo w + (a + 31)), .ref (zo w + (a + 36))]))) (n_a4 : a + 4 < N) (n_a5 : a + 5 < N) (n_a6 : a + 6 < N) (n_a7 : a + 7 < N) (n_a8 : a + 8 < N) (n_a9 : a + 9 < N) (n_a10 : a + 10 < N) (n_a11 : a + 11 < N) {r : Int32 × Int32 × Int32 × Int32 × Int32 × Int32 × Int32 × (Nat → Int32) × (Nat → Int32) × (Nat → Int32) × (Nat → Int32) × (Nat → Int32) × (Nat → Int32) × (Nat → Int32)} {rd_at : Int32} {rd_kind : Int32} {rd_start : Int32} {rd_value : Int32} {rd_error : Int32} {rd_errorAt : Int32} {co_count : Int32} {co_parent : Nat → Int32} {co_retentionPercent : Nat → Int32} {co_limitPercent : Nat → Int32} {co_paymentDays : Nat → Int32} {co_rank : Nat → Int32} {co_linked : Nat → Int32} {co_stage : Nat → Int32} {x1 : Int32} {x2 : Int32} {x3 : Int32} {x4 : Int32} {x5 : Int32} {x6 : Int32} (hf : f_X6_readSub_98  rd_at rd_kind rd_start rd_value rd_error rd_errorAt co_count co_parent co_retentionPercent co_limitPercent co_paymentDays co_rank co_linked co_stage x1 x2 x3 x4 x5 x6 = some r) : zZ X w (zQ X w (zr 5 180) (none) false N (zu h a [(0, .inr (6, [.ref (zo w + (a + 1)), .int rd_filled, .ref (zo w + (a + 2)), .int rd_length, .int r.1, .int r.2.1, .int r.2.2.1, .int r.2.2.2.1, .int r.2.2.2.2.1, .int r.2.2.2.2.2.1, .int rd_hasThreshold, .int rd_hasRate])), (4, .inr (1, [.int r.2.2.2.2.2.2.1, .ref (zo w + (a + 5)), .ref (zo w + (a + 6)), .ref (zo w + (a + 7)), .ref (zo w + (a + 8)), .ref (zo w + (a + 9)), .ref (zo w + (a + 10)), .ref (zo w + (a + 11))])), (5, .inl (w.2.2.1 0, 8, .inl r.2.2.2.2.2.2.2.1)), (6, .inl (w.2.2.1 0, 8, .inl r.2.2.2.2.2.2.2.2.1)), (7, .inl (w.2.2.1 0, 8, .inl r.2.2.2.2.2.2.2.2.2.1)), (8, .inl (w.2.2.1 0, 8, .inl r.2.2.2.2.2.2.2.2.2.2.1)), (9, .inl (w.2.2.1 0, 8, .inl r.2.2.2.2.2.2.2.2.2.2.2.1)), (10, .inl (w.2.2.1 3, 8, .inl r.2.2.2.2.2.2.2.2.2.2.2.2.1)), (11, .inl (w.2.2.1 0, 8, .inl r.2.2.2.2.2.2.2.2.2.2.2.2.2))])) 0 0 false N (zu h a [(0, .inr (6, [.ref (zo w + (a + 1)), .int rd_filled, .ref (zo w + (a + 2)), .int rd_length, .int rd_at, .int rd_kind, .int rd_start, .int rd_value, .int rd_error, .int rd_errorAt, .int rd_hasThreshold, .int rd_hasRate])), (4, .inr (1, [.int co_count, .ref (zo w + (a + 5)), .ref (zo w + (a + 6)), .ref (zo w + (a + 7)), .ref (zo w + (a + 8)), .ref (zo w + (a + 9)), .ref (zo w + (a + 10)), .ref (zo w + (a + 11))])), (5, .inl (w.2.2.1 0, 8, .inl co_parent)), (6, .inl (w.2.2.1 0, 8, .inl co_retentionPercent)), (7, .inl (w.2.2.1 0, 8, .inl co_limitPercent)), (8, .inl (w.2.2.1 0, 8, .inl co_paymentDays)), (9, .inl (w.2.2.1 0, 8, .inl co_rank)), (10, .inl (w.2.2.1 3, 8, .inl co_linked)), (11, .inl (w.2.2.1 0, 8, .inl co_stage))]) 98 [(0, .ref (zo w + a)), (1, .int x1), (2, .int x2), (3, .int x3), (4, .int x4), (5, .int x5), (6, .int x6)] [] := by
  unfold f_X6_readSub_98 at hf
  refine z_aload_n (pc' := 99) C 0 dX6_readSub_98 rfl rfl rfl ?_
  refine z_getf (pc' := 102) C zci_6 zw_284 (j := 8) rfl (zc_i (o := 0) n_a0 rfl) rfl rfl dX6_readSub_99 rfl ?_
  refine z_if_ne (pc' := 105) C 124 hf dX6_readSub_102 rfl rfl (fun g_102 hf => ?_) (fun g_102 hf => ?_)
  · cases hf
    exact z_vret C rfl rfl dX6_readSub_124
  · refine z_aload_n (pc' := 106) C 0 dX6_readSub_105 rfl rfl rfl ?_
    refine z_getf (pc' := 109) C zci_6 zw_277 (j := 2) rfl (zc_i (o := 0) n_a0 rfl) rfl rfl dX6_readSub_106 rfl ?_
    refine z_getf (pc' := 112) C zci_5 zw_241 (j := 2) rfl (zc_o (o := 2) h_a2 rfl) rfl rfl dX6_readSub_109 rfl ?_
    refine z_iload_n (pc' := 113) C 1 dX6_readSub_112 rfl rfl rfl ?_
    refine z_iload_n (pc' := 114) C 2 dX6_readSub_113 rfl rfl rfl ?_
    refine z_iload_n (pc' := 115) C 3 dX6_readSub_114 rfl rfl rfl ?_
    refine z_iload (pc' := 117) C 4 dX6_readSub_115 rfl rfl ?_
    refine z_iload (pc' := 119) C 5 dX6_readSub_117 rfl rfl ?_
    refine z_iload (pc' := 121) C 6 dX6_readSub_119 rfl rfl ?_
    refine z_cV (pc' := 124) C hf (As := [.int x1, .int x2, .int x3, .int x4, .int x5, .int x6]) (fun hq => c_X1_add (a := (a + 4)) (zc_i (o := 4) n_a4 rfl) (zc_i (o := 5) n_a5 rfl) (zc_i (o := 6) n_a6 rfl) (zc_i (o := 7) n_a7 rfl) (zc_i (o := 8) n_a8 rfl) (zc_i (o := 9) n_a9 rfl) (zc_i (o := 10) n_a10 rfl) (zc_i (o := 11) n_a11 rfl) hq) (fun q_121 => (zu h a [(0, .inr (6, [.ref (zo w + (a + 1)), .int rd_filled, .ref (zo w + (a + 2)), .int rd_length, .int rd_at, .int rd_kind, .int rd_start, .int rd_value, .int rd_error, .int rd_errorAt, .int rd_hasThreshold, .int rd_hasRate])), (4, .inr (1, [.int q_121.1, .ref (zo w + (a + 5)), .ref (zo w + (a + 6)), .ref (zo w + (a + 7)), .ref (zo w + (a + 8)), .ref (zo w + (a + 9)), .ref (zo w + (a + 10)), .ref (zo w + (a + 11))])), (5, .inl (w.2.2.1 0, 8, .inl q_121.2.1)), (6, .inl (w.2.2.1 0, 8, .inl q_121.2.2.1)), (7, .inl (w.2.2.1 0, 8, .inl q_121.2.2.2.1)), (8, .inl (w.2.2.1 0, 8, .inl q_121.2.2.2.2.1)), (9, .inl (w.2.2.1 0, 8, .inl q_121.2.2.2.2.2.1)), (10, .inl (w.2.2.1 3, 8, .inl q_121.2.2.2.2.2.2.1)), (11, .inl (w.2.2.1 0, 8, .inl q_121.2.2.2.2.2.2.2))])) (fun q_121 => []) (fun _ => zu_sh (d := 4) rfl rfl) (fun _ => rfl) zy_X1_add zw_613 zw_614 zw_615 (ci := 1) rfl (zc_i (o := 4) n_a4 rfl) ⟨rfl, rfl⟩ rfl rfl rfl rfl rfl dX6_readSub_121 rfl (fun q_121 hf => ?_)
    cases hf
    exact z_vret C rfl rfl dX6_readSub_124
set_option maxRecDepth 20000 in
theorem c_X6_readSub {w : zV} {N : Nat} {h : zH} {a : Nat} {rd_filled : Int32} {rd_hasThreshold : Int32} {rd_hasRate : Int32} {rd_length : Int32} {rd_at : Int32} {rd_kind : Int32} {rd_start : Int32} {rd_value : Int32} {rd_error : Int32} {rd_errorAt : Int32} {rd_text : Nat → Int32} {co_linked : Nat → Int32} {co_stage : Nat → Int32} {pr_day : Int32} {pr_pricing : Nat} {co_count : Int32} {co_parent : Nat → Int32} {co_retentionPercent : Nat → Int32} {co_limitPercent : Nat → Int32} {co_paymentDays : Nat → Int32} {co_rank : Nat → Int32} (h_a0 : zc N h (a + 0) (.inr (6, [.ref (zo w + (a + 1)), .int rd_filled, .ref (zo w + (a + 2)), .int rd_length, .int rd_at, .int rd_kind, .int rd_start, .int rd_value, .int rd_error, .int rd_errorAt, .int rd_hasThreshold, .int rd_hasRate]))) (h_a1 : zc N h (a + 1) (.inl (w.2.2.1 2, 900, .inl rd_text))) (h_a2 : zc N h (a + 2) (.inr (5, [.int pr_day, .ref (zo w + (a + 3)), .ref (zo w + (a + 4)), .ref (zo w + pr_pricing), .ref (zo w + (a + 15)), .ref (zo w + (a + 21)), .ref (zo w + (a + 25)), .ref (zo w + (a + 31)), .ref (zo w + (a + 36))]))) (h_a4 : zc N h (a + 4) (.inr (1, [.int co_count, .ref (zo w + (a + 5)), .ref (zo w + (a + 6)), .ref (zo w + (a + 7)), .ref (zo w + (a + 8)), .ref (zo w + (a + 9)), .ref (zo w + (a + 10)), .ref (zo w + (a + 11))]))) (h_a5 : zc N h (a + 5) (.inl (w.2.2.1 0, 8, .inl co_parent))) (h_a6 : zc N h (a + 6) (.inl (w.2.2.1 0, 8, .inl co_retentionPercent))) (h_a7 : zc N h (a + 7) (.inl (w.2.2.1 0, 8, .inl co_limitPercent))) (h_a8 : zc N h (a + 8) (.inl (w.2.2.1 0, 8, .inl co_paymentDays))) (h_a9 : zc N h (a + 9) (.inl (w.2.2.1 0, 8, .inl co_rank))) (h_a10 : zc N h (a + 10) (.inl (w.2.2.1 3, 8, .inl co_linked))) (h_a11 : zc N h (a + 11) (.inl (w.2.2.1 0, 8, .inl co_stage))) {r : Int32 × Int32 × Int32 × Int32 × Int32 × Int32 × Int32 × (Nat → Int32) × (Nat → Int32) × (Nat → Int32) × (Nat → Int32) × (Nat → Int32) × (Nat → Int32) × (Nat → Int32)} (hf : f_X6_readSub rd_length rd_at rd_kind rd_start rd_value rd_error rd_errorAt rd_text co_count co_parent co_retentionPercent co_limitPercent co_paymentDays co_rank co_linked co_stage = some r) : zM w yX6_readSub cX6_readSub 7 none (zr 5 180) false N N h [.ref (zo w + a)] (none) (zu h a [(0, .inr (6, [.ref (zo w + (a + 1)), .int rd_filled, .ref (zo w + (a + 2)), .int rd_length, .int r.1, .int r.2.1, .int r.2.2.1, .int r.2.2.2.1, .int r.2.2.2.2.1, .int r.2.2.2.2.2.1, .int rd_hasThreshold, .int rd_hasRate])), (4, .inr (1, [.int r.2.2.2.2.2.2.1, .ref (zo w + (a + 5)), .ref (zo w + (a + 6)), .ref (zo w + (a + 7)), .ref (zo w + (a + 8)), .ref (zo w + (a + 9)), .ref (zo w + (a + 10)), .ref (zo w + (a + 11))])), (5, .inl (w.2.2.1 0, 8, .inl r.2.2.2.2.2.2.2.1)), (6, .inl (w.2.2.1 0, 8, .inl r.2.2.2.2.2.2.2.2.1)), (7, .inl (w.2.2.1 0, 8, .inl r.2.2.2.2.2.2.2.2.2.1)), (8, .inl (w.2.2.1 0, 8, .inl r.2.2.2.2.2.2.2.2.2.2.1)), (9, .inl (w.2.2.1 0, 8, .inl r.2.2.2.2.2.2.2.2.2.2.2.1)), (10, .inl (w.2.2.1 3, 8, .inl r.2.2.2.2.2.2.2.2.2.2.2.2.1)), (11, .inl (w.2.2.1 0, 8, .inl r.2.2.2.2.2.2.2.2.2.2.2.2.2))]) := by
  unfold f_X6_readSub at hf
  refine zM_of (by decide) rfl (fun X C _ => ?_)
  refine z_eq (h' := (zu h a [(0, .inr (6, [.ref (zo w + (a + 1)), .int rd_filled, .ref (zo w + (a + 2)), .int rd_length, .int rd_at, .int rd_kind, .int rd_start, .int rd_value, .int rd_error, .int rd_errorAt, .int rd_hasThreshold, .int rd_hasRate])), (4, .inr (1, [.int co_count, .ref (zo w + (a + 5)), .ref (zo w + (a + 6)), .ref (zo w + (a + 7)), .ref (zo w + (a + 8)), .ref (zo w + (a + 9)), .ref (zo w + (a + 10)), .ref (zo w + (a + 11))])), (5, .inl (w.2.2.1 0, 8, .inl co_parent)), (6, .inl (w.2.2.1 0, 8, .inl co_retentionPercent)), (7, .inl (w.2.2.1 0, 8, .inl co_limitPercent)), (8, .inl (w.2.2.1 0, 8, .inl co_paymentDays)), (9, .inl (w.2.2.1 0, 8, .inl co_rank)), (10, .inl (w.2.2.1 3, 8, .inl co_linked)), (11, .inl (w.2.2.1 0, 8, .inl co_stage))])) (zu_s h_a0 (zu_s h_a4 (zu_s h_a5 (zu_s h_a6 (zu_s h_a7 (zu_s h_a8 (zu_s h_a9 (zu_s h_a10 (zu_s h_a11 zu_0))))))))).symm ?_
  have n_a0 := h_a0.1
  have n_a4 := h_a4.1
  have n_a5 := h_a5.1
  have n_a6 := h_a6.1
  have n_a7 := h_a7.1
  have n_a8 := h_a8.1
  have n_a9 := h_a9.1
  have n_a10 := h_a10.1
  have n_a11 := h_a11.1
  refine z_pick (lv' := [(0, .ref (zo w + a))]) [0] rfl ?_
  refine z_aload_n (pc' := 1) C 0 dX6_readSub_0 rfl rfl rfl ?_
  refine z_getf (pc' := 4) C zci_6 zw_277 (j := 2) rfl (zc_i (o := 0) n_a0 rfl) rfl rfl dX6_readSub_1 rfl ?_
  refine z_getf (pc' := 7) C zci_5 zw_241 (j := 2) rfl (zc_o (o := 2) h_a2 rfl) rfl rfl dX6_readSub_4 rfl ?_
  refine z_getf (pc' := 10) C zci_1 zw_52 (j := 0) rfl (zc_i (o := 4) n_a4 rfl) rfl rfl dX6_readSub_7 rfl ?_
  refine z_bipush (pc' := 12) C dX6_readSub_10 zk_bipush_8 rfl ?_
  refine z_icmp_lt (pc' := 15) C 26 hf dX6_readSub_12 rfl rfl (fun g_12 hf => ?_) (fun g_12 hf => ?_)
  · refine z_aload_n (pc' := 27) C 0 dX6_readSub_26 rfl rfl rfl ?_
    refine z_cV (pc' := 30) C hf (As := []) (fun hq => c_X6_advance (a := a) (zc_i (o := 0) n_a0 rfl) (zc_o (o := 1) h_a1 rfl) hq) (fun q_27 => (zu h a [(0, .inr (6, [.ref (zo w + (a + 1)), .int rd_filled, .ref (zo w + (a + 2)), .int rd_length, .int q_27.1, .int q_27.2.1, .int q_27.2.2.1, .int q_27.2.2.2, .int rd_error, .int rd_errorAt, .int rd_hasThreshold, .int rd_hasRate])), (4, .inr (1, [.int co_count, .ref (zo w + (a + 5)), .ref (zo w + (a + 6)), .ref (zo w + (a + 7)), .ref (zo w + (a + 8)), .ref (zo w + (a + 9)), .ref (zo w + (a + 10)), .ref (zo w + (a + 11))])), (5, .inl (w.2.2.1 0, 8, .inl co_parent)), (6, .inl (w.2.2.1 0, 8, .inl co_retentionPercent)), (7, .inl (w.2.2.1 0, 8, .inl co_limitPercent)), (8, .inl (w.2.2.1 0, 8, .inl co_paymentDays)), (9, .inl (w.2.2.1 0, 8, .inl co_rank)), (10, .inl (w.2.2.1 3, 8, .inl co_linked)), (11, .inl (w.2.2.1 0, 8, .inl co_stage))])) (fun q_27 => []) (fun _ => zu_sh (d := 0) rfl rfl) (fun _ => rfl) zy_X6_advance zw_533 zw_535 zv_2 (ci := 6) rfl (zc_i (o := 0) n_a0 rfl) ⟨rfl, rfl⟩ rfl rfl rfl rfl rfl dX6_readSub_27 rfl (fun q_27 hf => ?_)
    refine z_aload_n (pc' := 31) C 0 dX6_readSub_30 rfl rfl rfl ?_
    refine z_iconst (pc' := 32) C dX6_readSub_31 zk_iconst_0 rfl ?_
    refine z_aload_n (pc' := 33) C 0 dX6_readSub_32 rfl rfl rfl ?_
    refine z_getf (pc' := 36) C zci_6 zw_277 (j := 2) rfl (zc_i (o := 0) n_a0 rfl) rfl rfl dX6_readSub_33 rfl ?_
    refine z_getf (pc' := 39) C zci_5 zw_241 (j := 2) rfl (zc_o (o := 2) h_a2 rfl) rfl rfl dX6_readSub_36 rfl ?_
    refine z_getf (pc' := 42) C zci_1 zw_52 (j := 0) rfl (zc_i (o := 4) n_a4 rfl) rfl rfl dX6_readSub_39 rfl ?_
    refine z_iconst (pc' := 43) C dX6_readSub_42 zk_iconst_1 rfl ?_
    refine z_isub (pc' := 44) C dX6_readSub_43 rfl ?_
    refine z_cV (pc' := 47) C hf (As := [.int (0 : Int32), .int (co_count - (1 : Int32))]) (fun hq => c_X6_takeNumber (a := a) (zc_i (o := 0) n_a0 rfl) (zc_o (o := 1) h_a1 rfl) hq) (fun q_44 => (zu h a [(0, .inr (6, [.ref (zo w + (a + 1)), .int rd_filled, .ref (zo w + (a + 2)), .int rd_length, .int q_44.2.1, .int q_44.2.2.1, .int q_44.2.2.2.1, .int q_44.2.2.2.2.1, .int q_44.2.2.2.2.2.1, .int q_44.2.2.2.2.2.2, .int rd_hasThreshold, .int rd_hasRate])), (4, .inr (1, [.int co_count, .ref (zo w + (a + 5)), .ref (zo w + (a + 6)), .ref (zo w + (a + 7)), .ref (zo w + (a + 8)), .ref (zo w + (a + 9)), .ref (zo w + (a + 10)), .ref (zo w + (a + 11))])), (5, .inl (w.2.2.1 0, 8, .inl co_parent)), (6, .inl (w.2.2.1 0, 8, .inl co_retentionPercent)), (7, .inl (w.2.2.1 0, 8, .inl co_limitPercent)), (8, .inl (w.2.2.1 0, 8, .inl co_paymentDays)), (9, .inl (w.2.2.1 0, 8, .inl co_rank)), (10, .inl (w.2.2.1 3, 8, .inl co_linked)), (11, .inl (w.2.2.1 0, 8, .inl co_stage))])) (fun q_44 => [.int q_44.1]) (fun _ => zu_sh (d := 0) rfl rfl) (fun _ => rfl) zy_X6_takeNumber zw_604 zw_606 zv_7 (ci := 6) rfl (zc_i (o := 0) n_a0 rfl) ⟨rfl, rfl⟩ rfl rfl rfl rfl rfl dX6_readSub_44 rfl (fun q_44 hf => ?_)
    refine z_istore_n (pc' := 48) C [(1, .int q_44.1), (0, .ref (zo w + a))] dX6_readSub_47 rfl rfl rfl rfl ?_
    refine z_aload_n (pc' := 49) C 1 dX6_readSub_48 rfl rfl rfl ?_
    refine z_iconst (pc' := 50) C dX6_readSub_49 zk_iconst_0 rfl ?_
    refine z_bipush (pc' := 52) C dX6_readSub_50 zk_bipush_20 rfl ?_
    refine z_cV (pc' := 55) C hf (As := [.int (0 : Int32), .int (20 : Int32)]) (fun hq => c_X6_takeNumber (a := a) (zc_i (o := 0) n_a0 rfl) (zc_o (o := 1) h_a1 rfl) hq) (fun q_52 => (zu h a [(0, .inr (6, [.ref (zo w + (a + 1)), .int rd_filled, .ref (zo w + (a + 2)), .int rd_length, .int q_52.2.1, .int q_52.2.2.1, .int q_52.2.2.2.1, .int q_52.2.2.2.2.1, .int q_52.2.2.2.2.2.1, .int q_52.2.2.2.2.2.2, .int rd_hasThreshold, .int rd_hasRate])), (4, .inr (1, [.int co_count, .ref (zo w + (a + 5)), .ref (zo w + (a + 6)), .ref (zo w + (a + 7)), .ref (zo w + (a + 8)), .ref (zo w + (a + 9)), .ref (zo w + (a + 10)), .ref (zo w + (a + 11))])), (5, .inl (w.2.2.1 0, 8, .inl co_parent)), (6, .inl (w.2.2.1 0, 8, .inl co_retentionPercent)), (7, .inl (w.2.2.1 0, 8, .inl co_limitPercent)), (8, .inl (w.2.2.1 0, 8, .inl co_paymentDays)), (9, .inl (w.2.2.1 0, 8, .inl co_rank)), (10, .inl (w.2.2.1 3, 8, .inl co_linked)), (11, .inl (w.2.2.1 0, 8, .inl co_stage))])) (fun q_52 => [.int q_52.1]) (fun _ => zu_sh (d := 0) rfl rfl) (fun _ => rfl) zy_X6_takeNumber zw_604 zw_606 zv_7 (ci := 6) rfl (zc_i (o := 0) n_a0 rfl) ⟨rfl, rfl⟩ rfl rfl rfl rfl rfl dX6_readSub_52 rfl (fun q_52 hf => ?_)
    refine z_istore_n (pc' := 56) C [(2, .int q_52.1), (1, .int q_44.1), (0, .ref (zo w + a))] dX6_readSub_55 rfl rfl rfl rfl ?_
    refine z_aload_n (pc' := 57) C 2 dX6_readSub_56 rfl rfl rfl ?_
    refine z_iconst (pc' := 58) C dX6_readSub_57 zk_iconst_0 rfl ?_
    refine z_bipush (pc' := 60) C dX6_readSub_58 zk_bipush_20 rfl ?_
    refine z_cV (pc' := 63) C hf (As := [.int (0 : Int32), .int (20 : Int32)]) (fun hq => c_X6_takeNumber (a := a) (zc_i (o := 0) n_a0 rfl) (zc_o (o := 1) h_a1 rfl) hq) (fun q_60 => (zu h a [(0, .inr (6, [.ref (zo w + (a + 1)), .int rd_filled, .ref (zo w + (a + 2)), .int rd_length, .int q_60.2.1, .int q_60.2.2.1, .int q_60.2.2.2.1, .int q_60.2.2.2.2.1, .int q_60.2.2.2.2.2.1, .int q_60.2.2.2.2.2.2, .int rd_hasThreshold, .int rd_hasRate])), (4, .inr (1, [.int co_count, .ref (zo w + (a + 5)), .ref (zo w + (a + 6)), .ref (zo w + (a + 7)), .ref (zo w + (a + 8)), .ref (zo w + (a + 9)), .ref (zo w + (a + 10)), .ref (zo w + (a + 11))])), (5, .inl (w.2.2.1 0, 8, .inl co_parent)), (6, .inl (w.2.2.1 0, 8, .inl co_retentionPercent)), (7, .inl (w.2.2.1 0, 8, .inl co_limitPercent)), (8, .inl (w.2.2.1 0, 8, .inl co_paymentDays)), (9, .inl (w.2.2.1 0, 8, .inl co_rank)), (10, .inl (w.2.2.1 3, 8, .inl co_linked)), (11, .inl (w.2.2.1 0, 8, .inl co_stage))])) (fun q_60 => [.int q_60.1]) (fun _ => zu_sh (d := 0) rfl rfl) (fun _ => rfl) zy_X6_takeNumber zw_604 zw_606 zv_7 (ci := 6) rfl (zc_i (o := 0) n_a0 rfl) ⟨rfl, rfl⟩ rfl rfl rfl rfl rfl dX6_readSub_60 rfl (fun q_60 hf => ?_)
    refine z_istore_n (pc' := 64) C [(3, .int q_60.1), (2, .int q_52.1), (1, .int q_44.1), (0, .ref (zo w + a))] dX6_readSub_63 rfl rfl rfl rfl ?_
    refine z_aload_n (pc' := 65) C 3 dX6_readSub_64 rfl rfl rfl ?_
    refine z_iconst (pc' := 66) C dX6_readSub_65 zk_iconst_0 rfl ?_
    refine z_bipush (pc' := 68) C dX6_readSub_66 zk_bipush_60 rfl ?_
    refine z_cV (pc' := 71) C hf (As := [.int (0 : Int32), .int (60 : Int32)]) (fun hq => c_X6_takeNumber (a := a) (zc_i (o := 0) n_a0 rfl) (zc_o (o := 1) h_a1 rfl) hq) (fun q_68 => (zu h a [(0, .inr (6, [.ref (zo w + (a + 1)), .int rd_filled, .ref (zo w + (a + 2)), .int rd_length, .int q_68.2.1, .int q_68.2.2.1, .int q_68.2.2.2.1, .int q_68.2.2.2.2.1, .int q_68.2.2.2.2.2.1, .int q_68.2.2.2.2.2.2, .int rd_hasThreshold, .int rd_hasRate])), (4, .inr (1, [.int co_count, .ref (zo w + (a + 5)), .ref (zo w + (a + 6)), .ref (zo w + (a + 7)), .ref (zo w + (a + 8)), .ref (zo w + (a + 9)), .ref (zo w + (a + 10)), .ref (zo w + (a + 11))])), (5, .inl (w.2.2.1 0, 8, .inl co_parent)), (6, .inl (w.2.2.1 0, 8, .inl co_retentionPercent)), (7, .inl (w.2.2.1 0, 8, .inl co_limitPercent)), (8, .inl (w.2.2.1 0, 8, .inl co_paymentDays)), (9, .inl (w.2.2.1 0, 8, .inl co_rank)), (10, .inl (w.2.2.1 3, 8, .inl co_linked)), (11, .inl (w.2.2.1 0, 8, .inl co_stage))])) (fun q_68 => [.int q_68.1]) (fun _ => zu_sh (d := 0) rfl rfl) (fun _ => rfl) zy_X6_takeNumber zw_604 zw_606 zv_7 (ci := 6) rfl (zc_i (o := 0) n_a0 rfl) ⟨rfl, rfl⟩ rfl rfl rfl rfl rfl dX6_readSub_68 rfl (fun q_68 hf => ?_)
    refine z_istore (pc' := 73) C [(4, .int q_68.1), (3, .int q_60.1), (2, .int q_52.1), (1, .int q_44.1), (0, .ref (zo w + a))] dX6_readSub_71 rfl rfl rfl ?_
    refine z_aload_n (pc' := 74) C 4 dX6_readSub_73 rfl rfl rfl ?_
    refine z_iconst (pc' := 75) C dX6_readSub_74 zk_iconst_0 rfl ?_
    refine z_iconst (pc' := 76) C dX6_readSub_75 zk_iconst_3 rfl ?_
    refine z_cV (pc' := 79) C hf (As := [.int (0 : Int32), .int (3 : Int32)]) (fun hq => c_X6_takeNumber (a := a) (zc_i (o := 0) n_a0 rfl) (zc_o (o := 1) h_a1 rfl) hq) (fun q_76 => (zu h a [(0, .inr (6, [.ref (zo w + (a + 1)), .int rd_filled, .ref (zo w + (a + 2)), .int rd_length, .int q_76.2.1, .int q_76.2.2.1, .int q_76.2.2.2.1, .int q_76.2.2.2.2.1, .int q_76.2.2.2.2.2.1, .int q_76.2.2.2.2.2.2, .int rd_hasThreshold, .int rd_hasRate])), (4, .inr (1, [.int co_count, .ref (zo w + (a + 5)), .ref (zo w + (a + 6)), .ref (zo w + (a + 7)), .ref (zo w + (a + 8)), .ref (zo w + (a + 9)), .ref (zo w + (a + 10)), .ref (zo w + (a + 11))])), (5, .inl (w.2.2.1 0, 8, .inl co_parent)), (6, .inl (w.2.2.1 0, 8, .inl co_retentionPercent)), (7, .inl (w.2.2.1 0, 8, .inl co_limitPercent)), (8, .inl (w.2.2.1 0, 8, .inl co_paymentDays)), (9, .inl (w.2.2.1 0, 8, .inl co_rank)), (10, .inl (w.2.2.1 3, 8, .inl co_linked)), (11, .inl (w.2.2.1 0, 8, .inl co_stage))])) (fun q_76 => [.int q_76.1]) (fun _ => zu_sh (d := 0) rfl rfl) (fun _ => rfl) zy_X6_takeNumber zw_604 zw_606 zv_7 (ci := 6) rfl (zc_i (o := 0) n_a0 rfl) ⟨rfl, rfl⟩ rfl rfl rfl rfl rfl dX6_readSub_76 rfl (fun q_76 hf => ?_)
    refine z_istore (pc' := 81) C [(5, .int q_76.1), (4, .int q_68.1), (3, .int q_60.1), (2, .int q_52.1), (1, .int q_44.1), (0, .ref (zo w + a))] dX6_readSub_79 rfl rfl rfl ?_
    refine z_aload_n (pc' := 82) C 5 dX6_readSub_81 rfl rfl rfl ?_
    refine z_ldcS (pc' := 84) C 4 rfl dX6_readSub_82 rfl ?_
    refine z_cV (pc' := 87) C hf (As := [.ref (zsa w 4)]) (fun hq => c_X6_isWord (a := a) (zc_i (o := 0) n_a0 rfl) (zc_o (o := 1) h_a1 rfl) (by decide) hq) (fun _ => (zu h a [(0, .inr (6, [.ref (zo w + (a + 1)), .int rd_filled, .ref (zo w + (a + 2)), .int rd_length, .int q_76.2.1, .int q_76.2.2.1, .int q_76.2.2.2.1, .int q_76.2.2.2.2.1, .int q_76.2.2.2.2.2.1, .int q_76.2.2.2.2.2.2, .int rd_hasThreshold, .int rd_hasRate])), (4, .inr (1, [.int co_count, .ref (zo w + (a + 5)), .ref (zo w + (a + 6)), .ref (zo w + (a + 7)), .ref (zo w + (a + 8)), .ref (zo w + (a + 9)), .ref (zo w + (a + 10)), .ref (zo w + (a + 11))])), (5, .inl (w.2.2.1 0, 8, .inl co_parent)), (6, .inl (w.2.2.1 0, 8, .inl co_retentionPercent)), (7, .inl (w.2.2.1 0, 8, .inl co_limitPercent)), (8, .inl (w.2.2.1 0, 8, .inl co_paymentDays)), (9, .inl (w.2.2.1 0, 8, .inl co_rank)), (10, .inl (w.2.2.1 3, 8, .inl co_linked)), (11, .inl (w.2.2.1 0, 8, .inl co_stage))])) (fun q_84 => [.int q_84]) (fun _ => rfl) (fun _ => rfl) zy_X6_isWord zw_547 zw_549 zv_5 (ci := 6) rfl (zc_i (o := 0) n_a0 rfl) ⟨rfl, rfl⟩ rfl rfl rfl rfl rfl dX6_readSub_84 rfl (fun q_84 hf => ?_)
    refine z_istore (pc' := 89) C [(6, .int q_84), (5, .int q_76.1), (4, .int q_68.1), (3, .int q_60.1), (2, .int q_52.1), (1, .int q_44.1), (0, .ref (zo w + a))] dX6_readSub_87 rfl rfl rfl ?_
    refine z_iload (pc' := 91) C 0 dX6_readSub_89 rfl rfl ?_
    refine z_if_eq (pc' := 94) C 98 hf dX6_readSub_91 rfl rfl (fun g_91 hf => ?_) (fun g_91 hf => ?_)
    · refine z_pick (lv' := [(0, .ref (zo w + a)), (1, .int q_44.1), (2, .int q_52.1), (3, .int q_60.1), (4, .int q_68.1), (5, .int q_76.1), (6, .int q_84)]) [6, 5, 4, 3, 2, 1, 0] rfl ?_
      exact w_X6_readSub_98 C n_a0 h_a1 h_a2 n_a4 n_a5 n_a6 n_a7 n_a8 n_a9 n_a10 n_a11  hf
    · refine z_aload_n (pc' := 95) C 6 dX6_readSub_94 rfl rfl rfl ?_
      refine z_cV (pc' := 98) C hf (As := []) (fun hq => c_X6_advance (a := a) (zc_i (o := 0) n_a0 rfl) (zc_o (o := 1) h_a1 rfl) hq) (fun q_95 => (zu h a [(0, .inr (6, [.ref (zo w + (a + 1)), .int rd_filled, .ref (zo w + (a + 2)), .int rd_length, .int q_95.1, .int q_95.2.1, .int q_95.2.2.1, .int q_95.2.2.2, .int q_76.2.2.2.2.2.1, .int q_76.2.2.2.2.2.2, .int rd_hasThreshold, .int rd_hasRate])), (4, .inr (1, [.int co_count, .ref (zo w + (a + 5)), .ref (zo w + (a + 6)), .ref (zo w + (a + 7)), .ref (zo w + (a + 8)), .ref (zo w + (a + 9)), .ref (zo w + (a + 10)), .ref (zo w + (a + 11))])), (5, .inl (w.2.2.1 0, 8, .inl co_parent)), (6, .inl (w.2.2.1 0, 8, .inl co_retentionPercent)), (7, .inl (w.2.2.1 0, 8, .inl co_limitPercent)), (8, .inl (w.2.2.1 0, 8, .inl co_paymentDays)), (9, .inl (w.2.2.1 0, 8, .inl co_rank)), (10, .inl (w.2.2.1 3, 8, .inl co_linked)), (11, .inl (w.2.2.1 0, 8, .inl co_stage))])) (fun q_95 => []) (fun _ => zu_sh (d := 0) rfl rfl) (fun _ => rfl) zy_X6_advance zw_533 zw_535 zv_2 (ci := 6) rfl (zc_i (o := 0) n_a0 rfl) ⟨rfl, rfl⟩ rfl rfl rfl rfl rfl dX6_readSub_95 rfl (fun q_95 hf => ?_)
      refine z_pick (lv' := [(0, .ref (zo w + a)), (1, .int q_44.1), (2, .int q_52.1), (3, .int q_60.1), (4, .int q_68.1), (5, .int q_76.1), (6, .int q_84)]) [6, 5, 4, 3, 2, 1, 0] rfl ?_
      exact w_X6_readSub_98 C n_a0 h_a1 h_a2 n_a4 n_a5 n_a6 n_a7 n_a8 n_a9 n_a10 n_a11  hf
  · refine z_aload_n (pc' := 16) C 0 dX6_readSub_15 rfl rfl rfl ?_
    refine z_aload_n (pc' := 17) C 0 dX6_readSub_16 rfl rfl rfl ?_
    refine z_getf (pc' := 20) C zci_6 zw_282 (j := 6) rfl (zc_i (o := 0) n_a0 rfl) rfl rfl dX6_readSub_17 rfl ?_
    refine z_bipush (pc' := 22) C dX6_readSub_20 zk_bipush_m4 rfl ?_
    refine z_cV (pc' := 25) C hf (As := [.int rd_start, .int (-4 : Int32)]) (fun hq => c_X6_failAt (a := a) (zc_i (o := 0) n_a0 rfl) hq) (fun q_22 => (zu h a [(0, .inr (6, [.ref (zo w + (a + 1)), .int rd_filled, .ref (zo w + (a + 2)), .int rd_length, .int rd_at, .int rd_kind, .int rd_start, .int rd_value, .int q_22.1, .int q_22.2, .int rd_hasThreshold, .int rd_hasRate])), (4, .inr (1, [.int co_count, .ref (zo w + (a + 5)), .ref (zo w + (a + 6)), .ref (zo w + (a + 7)), .ref (zo w + (a + 8)), .ref (zo w + (a + 9)), .ref (zo w + (a + 10)), .ref (zo w + (a + 11))])), (5, .inl (w.2.2.1 0, 8, .inl co_parent)), (6, .inl (w.2.2.1 0, 8, .inl co_retentionPercent)), (7, .inl (w.2.2.1 0, 8, .inl co_limitPercent)), (8, .inl (w.2.2.1 0, 8, .inl co_paymentDays)), (9, .inl (w.2.2.1 0, 8, .inl co_rank)), (10, .inl (w.2.2.1 3, 8, .inl co_linked)), (11, .inl (w.2.2.1 0, 8, .inl co_stage))])) (fun q_22 => []) (fun _ => zu_sh (d := 0) rfl rfl) (fun _ => rfl) zy_X6_failAt zw_599 zw_601 zv_6 (ci := 6) rfl (zc_i (o := 0) n_a0 rfl) ⟨rfl, rfl⟩ rfl rfl rfl rfl rfl dX6_readSub_22 rfl (fun q_22 hf => ?_)
    cases hf
    exact z_vret C rfl rfl dX6_readSub_25
set_option maxRecDepth 20000 in
theorem w_X6_readItem_58 {X : zC} {w : zV} {N : Nat} {h : zH} {a : Nat} {rd_filled : Int32} {rd_hasThreshold : Int32} {rd_hasRate : Int32} {rd_length : Int32} {rd_text : Nat → Int32} {pr_day : Int32} {pr_pricing : Nat} {co_count : Int32} (C : zK X w RX6 cX6_readItem 5 none (zr 2 61)) (n_a0 : a + 0 < N) (h_a1 : zc N h (a + 1) (.inl (w.2.2.1 2, 900, .inl rd_text))) (h_a2 : zc N h (a + 2) (.inr (5, [.int pr_day, .ref (zo w + (a + 3)), .ref (zo w + (a + 4)), .ref (zo w + pr_pricing), .ref (zo w + (a + 15)), .ref (zo w + (a + 21)), .ref (zo w + (a + 25)), .ref (zo w + (a + 31)), .ref (zo w + (a + 36))]))) (h_a4 : zc N h (a + 4) (.inr (1, [.int co_count, .ref (zo w + (a + 5)), .ref (zo w + (a + 6)), .ref (zo w + (a + 7)), .ref (zo w + (a + 8)), .ref (zo w + (a + 9)), .ref (zo w + (a + 10)), .ref (zo w + (a + 11))]))) (h_a15 : zc N h (a + 15) (.inr (2, [.ref (zo w + (a + 16)), .ref (zo w + (a + 17)), .ref (zo w + (a + 18)), .ref (zo w + (a + 19)), .ref (zo w + (a + 20))]))) (n_a16 : a + 16 < N) (n_a17 : a + 17 < N) (n_a18 : a + 18 < N) (n_a19 : a + 19 < N) (n_a20 : a + 20 < N) {r : Int32 × Int32 × Int32 × Int32 × Int32 × Int32 × (Nat → Int32) × (Nat → Int32) × (Nat → Int32) × (Nat → Int32) × (Nat → Int32)} {rd_at : Int32} {rd_kind : Int32} {rd_start : Int32} {rd_value : Int32} {rd_error : Int32} {rd_errorAt : Int32} {it_count : Nat → Int32} {it_first : Nat → Int32} {it_price : Nat → Int32} {it_quantity : Nat → Int32} {it_progress : Nat → Int32} {x2 : Int32} (hf : f_X6_readItem_58  rd_length rd_at rd_kind rd_start rd_value rd_error rd_errorAt rd_text it_count it_first it_price it_quantity it_progress x2 = some r) : zZ X w (zQ X w (zr 2 61) (none) false N (zu h a [(0, .inr (6, [.ref (zo w + (a + 1)), .int rd_filled, .ref (zo w + (a + 2)), .int rd_length, .int r.1, .int r.2.1, .int r.2.2.1, .int r.2.2.2.1, .int r.2.2.2.2.1, .int r.2.2.2.2.2.1, .int rd_hasThreshold, .int rd_hasRate])), (16, .inl (w.2.2.1 0, 8, .inl r.2.2.2.2.2.2.1)), (17, .inl (w.2.2.1 0, 48, .inl r.2.2.2.2.2.2.2.1)), (18, .inl (w.2.2.1 0, 48, .inl r.2.2.2.2.2.2.2.2.1)), (19, .inl (w.2.2.1 0, 48, .inl r.2.2.2.2.2.2.2.2.2.1)), (20, .inl (w.2.2.1 0, 48, .inl r.2.2.2.2.2.2.2.2.2.2))])) 0 0 false N (zu h a [(0, .inr (6, [.ref (zo w + (a + 1)), .int rd_filled, .ref (zo w + (a + 2)), .int rd_length, .int rd_at, .int rd_kind, .int rd_start, .int rd_value, .int rd_error, .int rd_errorAt, .int rd_hasThreshold, .int rd_hasRate])), (16, .inl (w.2.2.1 0, 8, .inl it_count)), (17, .inl (w.2.2.1 0, 48, .inl it_first)), (18, .inl (w.2.2.1 0, 48, .inl it_price)), (19, .inl (w.2.2.1 0, 48, .inl it_quantity)), (20, .inl (w.2.2.1 0, 48, .inl it_progress))]) 58 [(0, .ref (zo w + a)), (2, .int x2)] [] := by
  unfold f_X6_readItem_58 at hf
  refine z_aload_n (pc' := 59) C 0 dX6_readItem_58 rfl rfl rfl ?_
  refine z_iconst (pc' := 60) C dX6_readItem_59 zk_iconst_1 rfl ?_
  refine z_sipush (pc' := 63) C dX6_readItem_60 zk_sipush_999 rfl ?_
  refine z_cV (pc' := 66) C hf (As := [.int (1 : Int32), .int (999 : Int32)]) (fun hq => c_X6_takeNumber (a := a) (zc_i (o := 0) n_a0 rfl) (zc_o (o := 1) h_a1 rfl) hq) (fun q_63 => (zu h a [(0, .inr (6, [.ref (zo w + (a + 1)), .int rd_filled, .ref (zo w + (a + 2)), .int rd_length, .int q_63.2.1, .int q_63.2.2.1, .int q_63.2.2.2.1, .int q_63.2.2.2.2.1, .int q_63.2.2.2.2.2.1, .int q_63.2.2.2.2.2.2, .int rd_hasThreshold, .int rd_hasRate])), (16, .inl (w.2.2.1 0, 8, .inl it_count)), (17, .inl (w.2.2.1 0, 48, .inl it_first)), (18, .inl (w.2.2.1 0, 48, .inl it_price)), (19, .inl (w.2.2.1 0, 48, .inl it_quantity)), (20, .inl (w.2.2.1 0, 48, .inl it_progress))])) (fun q_63 => [.int q_63.1]) (fun _ => zu_sh (d := 0) rfl rfl) (fun _ => rfl) zy_X6_takeNumber zw_604 zw_606 zv_7 (ci := 6) rfl (zc_i (o := 0) n_a0 rfl) ⟨rfl, rfl⟩ rfl rfl rfl rfl rfl dX6_readItem_63 rfl (fun q_63 hf => ?_)
  refine z_istore_n (pc' := 67) C [(3, .int q_63.1), (0, .ref (zo w + a)), (2, .int x2)] dX6_readItem_66 rfl rfl rfl rfl ?_
  refine z_aload_n (pc' := 68) C 1 dX6_readItem_67 rfl rfl rfl ?_
  refine z_iconst (pc' := 69) C dX6_readItem_68 zk_iconst_0 rfl ?_
  refine z_sipush (pc' := 72) C dX6_readItem_69 zk_sipush_9999 rfl ?_
  refine z_cV (pc' := 75) C hf (As := [.int (0 : Int32), .int (9999 : Int32)]) (fun hq => c_X6_takeNumber (a := a) (zc_i (o := 0) n_a0 rfl) (zc_o (o := 1) h_a1 rfl) hq) (fun q_72 => (zu h a [(0, .inr (6, [.ref (zo w + (a + 1)), .int rd_filled, .ref (zo w + (a + 2)), .int rd_length, .int q_72.2.1, .int q_72.2.2.1, .int q_72.2.2.2.1, .int q_72.2.2.2.2.1, .int q_72.2.2.2.2.2.1, .int q_72.2.2.2.2.2.2, .int rd_hasThreshold, .int rd_hasRate])), (16, .inl (w.2.2.1 0, 8, .inl it_count)), (17, .inl (w.2.2.1 0, 48, .inl it_first)), (18, .inl (w.2.2.1 0, 48, .inl it_price)), (19, .inl (w.2.2.1 0, 48, .inl it_quantity)), (20, .inl (w.2.2.1 0, 48, .inl it_progress))])) (fun q_72 => [.int q_72.1]) (fun _ => zu_sh (d := 0) rfl rfl) (fun _ => rfl) zy_X6_takeNumber zw_604 zw_606 zv_7 (ci := 6) rfl (zc_i (o := 0) n_a0 rfl) ⟨rfl, rfl⟩ rfl rfl rfl rfl rfl dX6_readItem_72 rfl (fun q_72 hf => ?_)
  refine z_istore (pc' := 77) C [(4, .int q_72.1), (3, .int q_63.1), (0, .ref (zo w + a)), (2, .int x2)] dX6_readItem_75 rfl rfl rfl ?_
  refine z_aload_n (pc' := 78) C 2 dX6_readItem_77 rfl rfl rfl ?_
  refine z_getf (pc' := 81) C zci_6 zw_284 (j := 8) rfl (zc_i (o := 0) n_a0 rfl) rfl rfl dX6_readItem_78 rfl ?_
  refine z_if_ne (pc' := 84) C 98 hf dX6_readItem_81 rfl rfl (fun g_81 hf => ?_) (fun g_81 hf => ?_)
  · cases hf
    exact z_vret C rfl rfl dX6_readItem_98
  · refine z_aload_n (pc' := 85) C 2 dX6_readItem_84 rfl rfl rfl ?_
    refine z_getf (pc' := 88) C zci_6 zw_277 (j := 2) rfl (zc_i (o := 0) n_a0 rfl) rfl rfl dX6_readItem_85 rfl ?_
    refine z_getf (pc' := 91) C zci_5 zw_246 (j := 4) rfl (zc_o (o := 2) h_a2 rfl) rfl rfl dX6_readItem_88 rfl ?_
    refine z_iload_n (pc' := 92) C 3 dX6_readItem_91 rfl rfl rfl ?_
    refine z_iload_n (pc' := 93) C 1 dX6_readItem_92 rfl rfl rfl ?_
    refine z_iload (pc' := 95) C 0 dX6_readItem_93 rfl rfl ?_
    refine z_cV (pc' := 98) C hf (As := [.int x2, .int q_63.1, .int q_72.1]) (fun hq => c_X2_add (a := (a + 15)) (zc_o (o := 15) h_a15 rfl) (zc_i (o := 16) n_a16 rfl) (zc_i (o := 17) n_a17 rfl) (zc_i (o := 18) n_a18 rfl) (zc_i (o := 19) n_a19 rfl) (zc_i (o := 20) n_a20 rfl) hq) (fun q_95 => (zu h a [(0, .inr (6, [.ref (zo w + (a + 1)), .int rd_filled, .ref (zo w + (a + 2)), .int rd_length, .int q_72.2.1, .int q_72.2.2.1, .int q_72.2.2.2.1, .int q_72.2.2.2.2.1, .int q_72.2.2.2.2.2.1, .int q_72.2.2.2.2.2.2, .int rd_hasThreshold, .int rd_hasRate])), (16, .inl (w.2.2.1 0, 8, .inl q_95.1)), (17, .inl (w.2.2.1 0, 48, .inl q_95.2.1)), (18, .inl (w.2.2.1 0, 48, .inl q_95.2.2.1)), (19, .inl (w.2.2.1 0, 48, .inl q_95.2.2.2.1)), (20, .inl (w.2.2.1 0, 48, .inl q_95.2.2.2.2))])) (fun q_95 => []) (fun _ => zu_sh (d := 15) rfl rfl) (fun _ => rfl) zy_X2_add zw_632 zw_633 zw_634 (ci := 2) rfl (zc_o (o := 15) h_a15 rfl) ⟨rfl, rfl⟩ rfl rfl rfl rfl rfl dX6_readItem_95 rfl (fun q_95 hf => ?_)
    cases hf
    exact z_vret C rfl rfl dX6_readItem_98
set_option maxRecDepth 20000 in
theorem c_X6_readItem {w : zV} {N : Nat} {h : zH} {a : Nat} {rd_filled : Int32} {rd_hasThreshold : Int32} {rd_hasRate : Int32} {rd_length : Int32} {rd_at : Int32} {rd_kind : Int32} {rd_start : Int32} {rd_value : Int32} {rd_error : Int32} {rd_errorAt : Int32} {rd_text : Nat → Int32} {it_count : Nat → Int32} {it_first : Nat → Int32} {it_price : Nat → Int32} {it_quantity : Nat → Int32} {pr_day : Int32} {pr_pricing : Nat} {it_progress : Nat → Int32} {co_count : Int32} (h_a0 : zc N h (a + 0) (.inr (6, [.ref (zo w + (a + 1)), .int rd_filled, .ref (zo w + (a + 2)), .int rd_length, .int rd_at, .int rd_kind, .int rd_start, .int rd_value, .int rd_error, .int rd_errorAt, .int rd_hasThreshold, .int rd_hasRate]))) (h_a1 : zc N h (a + 1) (.inl (w.2.2.1 2, 900, .inl rd_text))) (h_a2 : zc N h (a + 2) (.inr (5, [.int pr_day, .ref (zo w + (a + 3)), .ref (zo w + (a + 4)), .ref (zo w + pr_pricing), .ref (zo w + (a + 15)), .ref (zo w + (a + 21)), .ref (zo w + (a + 25)), .ref (zo w + (a + 31)), .ref (zo w + (a + 36))]))) (h_a4 : zc N h (a + 4) (.inr (1, [.int co_count, .ref (zo w + (a + 5)), .ref (zo w + (a + 6)), .ref (zo w + (a + 7)), .ref (zo w + (a + 8)), .ref (zo w + (a + 9)), .ref (zo w + (a + 10)), .ref (zo w + (a + 11))]))) (h_a15 : zc N h (a + 15) (.inr (2, [.ref (zo w + (a + 16)), .ref (zo w + (a + 17)), .ref (zo w + (a + 18)), .ref (zo w + (a + 19)), .ref (zo w + (a + 20))]))) (h_a16 : zc N h (a + 16) (.inl (w.2.2.1 0, 8, .inl it_count))) (h_a17 : zc N h (a + 17) (.inl (w.2.2.1 0, 48, .inl it_first))) (h_a18 : zc N h (a + 18) (.inl (w.2.2.1 0, 48, .inl it_price))) (h_a19 : zc N h (a + 19) (.inl (w.2.2.1 0, 48, .inl it_quantity))) (h_a20 : zc N h (a + 20) (.inl (w.2.2.1 0, 48, .inl it_progress))) {r : Int32 × Int32 × Int32 × Int32 × Int32 × Int32 × (Nat → Int32) × (Nat → Int32) × (Nat → Int32) × (Nat → Int32) × (Nat → Int32)} (hf : f_X6_readItem rd_length rd_at rd_kind rd_start rd_value rd_error rd_errorAt rd_text co_count it_count it_first it_price it_quantity it_progress = some r) : zM w yX6_readItem cX6_readItem 5 none (zr 2 61) false N N h [.ref (zo w + a)] (none) (zu h a [(0, .inr (6, [.ref (zo w + (a + 1)), .int rd_filled, .ref (zo w + (a + 2)), .int rd_length, .int r.1, .int r.2.1, .int r.2.2.1, .int r.2.2.2.1, .int r.2.2.2.2.1, .int r.2.2.2.2.2.1, .int rd_hasThreshold, .int rd_hasRate])), (16, .inl (w.2.2.1 0, 8, .inl r.2.2.2.2.2.2.1)), (17, .inl (w.2.2.1 0, 48, .inl r.2.2.2.2.2.2.2.1)), (18, .inl (w.2.2.1 0, 48, .inl r.2.2.2.2.2.2.2.2.1)), (19, .inl (w.2.2.1 0, 48, .inl r.2.2.2.2.2.2.2.2.2.1)), (20, .inl (w.2.2.1 0, 48, .inl r.2.2.2.2.2.2.2.2.2.2))]) := by
  unfold f_X6_readItem at hf
  refine zM_of (by decide) rfl (fun X C _ => ?_)
  refine z_eq (h' := (zu h a [(0, .inr (6, [.ref (zo w + (a + 1)), .int rd_filled, .ref (zo w + (a + 2)), .int rd_length, .int rd_at, .int rd_kind, .int rd_start, .int rd_value, .int rd_error, .int rd_errorAt, .int rd_hasThreshold, .int rd_hasRate])), (16, .inl (w.2.2.1 0, 8, .inl it_count)), (17, .inl (w.2.2.1 0, 48, .inl it_first)), (18, .inl (w.2.2.1 0, 48, .inl it_price)), (19, .inl (w.2.2.1 0, 48, .inl it_quantity)), (20, .inl (w.2.2.1 0, 48, .inl it_progress))])) (zu_s h_a0 (zu_s h_a16 (zu_s h_a17 (zu_s h_a18 (zu_s h_a19 (zu_s h_a20 zu_0)))))).symm ?_
  have n_a0 := h_a0.1
  have n_a16 := h_a16.1
  have n_a17 := h_a17.1
  have n_a18 := h_a18.1
  have n_a19 := h_a19.1
  have n_a20 := h_a20.1
  refine z_pick (lv' := [(0, .ref (zo w + a))]) [0] rfl ?_
  refine z_aload_n (pc' := 1) C 0 dX6_readItem_0 rfl rfl rfl ?_
  refine z_cV (pc' := 4) C hf (As := []) (fun hq => c_X6_advance (a := a) (zc_i (o := 0) n_a0 rfl) (zc_o (o := 1) h_a1 rfl) hq) (fun q_1 => (zu h a [(0, .inr (6, [.ref (zo w + (a + 1)), .int rd_filled, .ref (zo w + (a + 2)), .int rd_length, .int q_1.1, .int q_1.2.1, .int q_1.2.2.1, .int q_1.2.2.2, .int rd_error, .int rd_errorAt, .int rd_hasThreshold, .int rd_hasRate])), (16, .inl (w.2.2.1 0, 8, .inl it_count)), (17, .inl (w.2.2.1 0, 48, .inl it_first)), (18, .inl (w.2.2.1 0, 48, .inl it_price)), (19, .inl (w.2.2.1 0, 48, .inl it_quantity)), (20, .inl (w.2.2.1 0, 48, .inl it_progress))])) (fun q_1 => []) (fun _ => zu_sh (d := 0) rfl rfl) (fun _ => rfl) zy_X6_advance zw_533 zw_535 zv_2 (ci := 6) rfl (zc_i (o := 0) n_a0 rfl) ⟨rfl, rfl⟩ rfl rfl rfl rfl rfl dX6_readItem_1 rfl (fun q_1 hf => ?_)
  refine z_aload_n (pc' := 5) C 0 dX6_readItem_4 rfl rfl rfl ?_
  refine z_getf (pc' := 8) C zci_6 zw_282 (j := 6) rfl (zc_i (o := 0) n_a0 rfl) rfl rfl dX6_readItem_5 rfl ?_
  refine z_istore_n (pc' := 9) C [(1, .int q_1.2.2.1), (0, .ref (zo w + a))] dX6_readItem_8 rfl rfl rfl rfl ?_
  refine z_aload_n (pc' := 10) C 1 dX6_readItem_9 rfl rfl rfl ?_
  refine z_iconst (pc' := 11) C dX6_readItem_10 zk_iconst_0 rfl ?_
  refine z_aload_n (pc' := 12) C 1 dX6_readItem_11 rfl rfl rfl ?_
  refine z_getf (pc' := 15) C zci_6 zw_277 (j := 2) rfl (zc_i (o := 0) n_a0 rfl) rfl rfl dX6_readItem_12 rfl ?_
  refine z_getf (pc' := 18) C zci_5 zw_241 (j := 2) rfl (zc_o (o := 2) h_a2 rfl) rfl rfl dX6_readItem_15 rfl ?_
  refine z_getf (pc' := 21) C zci_1 zw_52 (j := 0) rfl (zc_o (o := 4) h_a4 rfl) rfl rfl dX6_readItem_18 rfl ?_
  refine z_iconst (pc' := 22) C dX6_readItem_21 zk_iconst_1 rfl ?_
  refine z_isub (pc' := 23) C dX6_readItem_22 rfl ?_
  refine z_cV (pc' := 26) C hf (As := [.int (0 : Int32), .int (co_count - (1 : Int32))]) (fun hq => c_X6_takeNumber (a := a) (zc_i (o := 0) n_a0 rfl) (zc_o (o := 1) h_a1 rfl) hq) (fun q_23 => (zu h a [(0, .inr (6, [.ref (zo w + (a + 1)), .int rd_filled, .ref (zo w + (a + 2)), .int rd_length, .int q_23.2.1, .int q_23.2.2.1, .int q_23.2.2.2.1, .int q_23.2.2.2.2.1, .int q_23.2.2.2.2.2.1, .int q_23.2.2.2.2.2.2, .int rd_hasThreshold, .int rd_hasRate])), (16, .inl (w.2.2.1 0, 8, .inl it_count)), (17, .inl (w.2.2.1 0, 48, .inl it_first)), (18, .inl (w.2.2.1 0, 48, .inl it_price)), (19, .inl (w.2.2.1 0, 48, .inl it_quantity)), (20, .inl (w.2.2.1 0, 48, .inl it_progress))])) (fun q_23 => [.int q_23.1]) (fun _ => zu_sh (d := 0) rfl rfl) (fun _ => rfl) zy_X6_takeNumber zw_604 zw_606 zv_7 (ci := 6) rfl (zc_i (o := 0) n_a0 rfl) ⟨rfl, rfl⟩ rfl rfl rfl rfl rfl dX6_readItem_23 rfl (fun q_23 hf => ?_)
  refine z_istore_n (pc' := 27) C [(2, .int q_23.1), (1, .int q_1.2.2.1), (0, .ref (zo w + a))] dX6_readItem_26 rfl rfl rfl rfl ?_
  refine z_aload_n (pc' := 28) C 2 dX6_readItem_27 rfl rfl rfl ?_
  refine z_getf (pc' := 31) C zci_6 zw_284 (j := 8) rfl (zc_i (o := 0) n_a0 rfl) rfl rfl dX6_readItem_28 rfl ?_
  refine z_if_ne (pc' := 34) C 58 hf dX6_readItem_31 rfl rfl (fun g_31 hf => ?_) (fun g_31 hf => ?_)
  · refine z_pick (lv' := [(0, .ref (zo w + a)), (2, .int q_23.1)]) [2, 0] rfl ?_
    exact w_X6_readItem_58 C n_a0 h_a1 h_a2 h_a4 h_a15 n_a16 n_a17 n_a18 n_a19 n_a20  hf
  · refine z_aload_n (pc' := 35) C 2 dX6_readItem_34 rfl rfl rfl ?_
    refine z_getf (pc' := 38) C zci_6 zw_277 (j := 2) rfl (zc_i (o := 0) n_a0 rfl) rfl rfl dX6_readItem_35 rfl ?_
    refine z_getf (pc' := 41) C zci_5 zw_246 (j := 4) rfl (zc_o (o := 2) h_a2 rfl) rfl rfl dX6_readItem_38 rfl ?_
    refine z_getf (pc' := 44) C zci_2 zw_124 (j := 0) rfl (zc_o (o := 15) h_a15 rfl) rfl rfl dX6_readItem_41 rfl ?_
    refine z_iload_n (pc' := 45) C 0 dX6_readItem_44 rfl rfl rfl ?_
    refine z_iald (pc' := 46) C hf (zc_i (o := 16) n_a16 rfl) dX6_readItem_45 rfl (fun v_45 hf => ?_)
    refine z_bipush (pc' := 48) C dX6_readItem_46 zk_bipush_6 rfl ?_
    refine z_icmp_lt (pc' := 51) C 58 hf dX6_readItem_48 rfl rfl (fun g_48 hf => ?_) (fun g_48 hf => ?_)
    · refine z_pick (lv' := [(0, .ref (zo w + a)), (2, .int q_23.1)]) [2, 0] rfl ?_
      exact w_X6_readItem_58 C n_a0 h_a1 h_a2 h_a4 h_a15 n_a16 n_a17 n_a18 n_a19 n_a20  hf
    · refine z_aload_n (pc' := 52) C 2 dX6_readItem_51 rfl rfl rfl ?_
      refine z_iload_n (pc' := 53) C 1 dX6_readItem_52 rfl rfl rfl ?_
      refine z_bipush (pc' := 55) C dX6_readItem_53 zk_bipush_m4 rfl ?_
      refine z_cV (pc' := 58) C hf (As := [.int q_1.2.2.1, .int (-4 : Int32)]) (fun hq => c_X6_failAt (a := a) (zc_i (o := 0) n_a0 rfl) hq) (fun q_55 => (zu h a [(0, .inr (6, [.ref (zo w + (a + 1)), .int rd_filled, .ref (zo w + (a + 2)), .int rd_length, .int q_23.2.1, .int q_23.2.2.1, .int q_23.2.2.2.1, .int q_23.2.2.2.2.1, .int q_55.1, .int q_55.2, .int rd_hasThreshold, .int rd_hasRate])), (16, .inl (w.2.2.1 0, 8, .inl it_count)), (17, .inl (w.2.2.1 0, 48, .inl it_first)), (18, .inl (w.2.2.1 0, 48, .inl it_price)), (19, .inl (w.2.2.1 0, 48, .inl it_quantity)), (20, .inl (w.2.2.1 0, 48, .inl it_progress))])) (fun q_55 => []) (fun _ => zu_sh (d := 0) rfl rfl) (fun _ => rfl) zy_X6_failAt zw_599 zw_601 zv_6 (ci := 6) rfl (zc_i (o := 0) n_a0 rfl) ⟨rfl, rfl⟩ rfl rfl rfl rfl rfl dX6_readItem_55 rfl (fun q_55 hf => ?_)
      refine z_pick (lv' := [(0, .ref (zo w + a)), (2, .int q_23.1)]) [2, 0] rfl ?_
      exact w_X6_readItem_58 C n_a0 h_a1 h_a2 h_a4 h_a15 n_a16 n_a17 n_a18 n_a19 n_a20  hf
set_option maxRecDepth 20000 in
theorem c_X6_addOperand {w : zV} {N : Nat} {h : zH} {a : Nat} {rd_filled : Int32} {rd_hasThreshold : Int32} {rd_hasRate : Int32} {rd_length : Int32} {rd_at : Int32} {rd_kind : Int32} {rd_start : Int32} {rd_value : Int32} {rd_error : Int32} {rd_errorAt : Int32} {rd_text : Nat → Int32} {pr_day : Int32} {pr_pricing : Nat} {pg_threshold : Int32} {pg_length : Int32} {pg_clen : Nat} {pg_code : Nat → Int32} {p1 : Int32} (h_a0 : zc N h (a + 0) (.inr (6, [.ref (zo w + (a + 1)), .int rd_filled, .ref (zo w + (a + 2)), .int rd_length, .int rd_at, .int rd_kind, .int rd_start, .int rd_value, .int rd_error, .int rd_errorAt, .int rd_hasThreshold, .int rd_hasRate]))) (h_a1 : zc N h (a + 1) (.inl (w.2.2.1 2, 900, .inl rd_text))) (h_a2 : zc N h (a + 2) (.inr (5, [.int pr_day, .ref (zo w + (a + 3)), .ref (zo w + (a + 4)), .ref (zo w + pr_pricing), .ref (zo w + (a + 15)), .ref (zo w + (a + 21)), .ref (zo w + (a + 25)), .ref (zo w + (a + 31)), .ref (zo w + (a + 36))]))) (h_pr_pricing0 : zc N h (pr_pricing + 0) (.inr (4, [.int pg_threshold, .int pg_length, .ref (zo w + (pr_pricing + 2)), .ref (zo w + (pr_pricing + 1))]))) (h_pr_pricing2 : zc N h (pr_pricing + 2) (.inl (w.2.2.1 0, pg_clen, .inl pg_code))) (far_a : a + 37 ≤ pr_pricing) {r : Int32 × Int32 × Int32 × Int32 × Int32 × (Nat → Int32)} (hf : f_X6_addOperand rd_length rd_at rd_kind rd_start rd_value rd_text pg_length pg_clen pg_code p1 = some r) : zM w yX6_addOperand cX6_addOperand 2 none (zr 1 29) false N N h [.ref (zo w + a), .int p1] (none) (zu (zu h pr_pricing [(0, .inr (4, [.int pg_threshold, .int r.2.2.2.2.1, .ref (zo w + (pr_pricing + 2)), .ref (zo w + (pr_pricing + 1))])), (2, .inl (w.2.2.1 0, pg_clen, .inl r.2.2.2.2.2))]) a [(0, .inr (6, [.ref (zo w + (a + 1)), .int rd_filled, .ref (zo w + (a + 2)), .int rd_length, .int r.1, .int r.2.1, .int r.2.2.1, .int r.2.2.2.1, .int rd_error, .int rd_errorAt, .int rd_hasThreshold, .int rd_hasRate]))]) := by
  unfold f_X6_addOperand at hf
  refine zM_of (by decide) rfl (fun X C _ => ?_)
  refine z_eq (h' := (zu (zu h pr_pricing [(0, .inr (4, [.int pg_threshold, .int pg_length, .ref (zo w + (pr_pricing + 2)), .ref (zo w + (pr_pricing + 1))])), (2, .inl (w.2.2.1 0, pg_clen, .inl pg_code))]) a [(0, .inr (6, [.ref (zo w + (a + 1)), .int rd_filled, .ref (zo w + (a + 2)), .int rd_length, .int rd_at, .int rd_kind, .int rd_start, .int rd_value, .int rd_error, .int rd_errorAt, .int rd_hasThreshold, .int rd_hasRate]))])) ((congrArg (fun x => zu x a [(0, .inr (6, [.ref (zo w + (a + 1)), .int rd_filled, .ref (zo w + (a + 2)), .int rd_length, .int rd_at, .int rd_kind, .int rd_start, .int rd_value, .int rd_error, .int rd_errorAt, .int rd_hasThreshold, .int rd_hasRate]))]) (zu_s h_pr_pricing0 (zu_s h_pr_pricing2 zu_0))).trans (zu_s h_a0 zu_0)).symm ?_
  have n_a0 := h_a0.1
  have n_pr_pricing0 := h_pr_pricing0.1
  have n_pr_pricing2 := h_pr_pricing2.1
  refine z_pick (lv' := [(0, .ref (zo w + a)), (1, .int p1)]) [0, 1] rfl ?_
  refine z_aload_n (pc' := 1) C 0 dX6_addOperand_0 rfl rfl rfl ?_
  refine z_getf (pc' := 4) C zci_6 zw_277 (j := 2) rfl (zc_i (o := 0) n_a0 rfl) rfl rfl dX6_addOperand_1 rfl ?_
  refine z_getf (pc' := 7) C zci_5 zw_243 (j := 3) rfl (zc_o (o := 2) (zc_f (m := 3) h_a2 (by omega) rfl) rfl) rfl rfl dX6_addOperand_4 rfl ?_
  refine z_iload_n (pc' := 8) C 1 dX6_addOperand_7 rfl rfl rfl ?_
  refine z_cV (pc' := 11) C hf (As := [.int p1]) (fun hq => c_X4_add (a := pr_pricing) (zc_f (m := 37) (zc_i (o := 0) n_pr_pricing0 rfl) (by omega) rfl) (zc_f (m := 37) (zc_i (o := 2) n_pr_pricing2 rfl) (by omega) rfl) hq) (fun q_8 => (zu (zu h pr_pricing [(0, .inr (4, [.int pg_threshold, .int q_8.1, .ref (zo w + (pr_pricing + 2)), .ref (zo w + (pr_pricing + 1))])), (2, .inl (w.2.2.1 0, pg_clen, .inl q_8.2))]) a [(0, .inr (6, [.ref (zo w + (a + 1)), .int rd_filled, .ref (zo w + (a + 2)), .int rd_length, .int rd_at, .int rd_kind, .int rd_start, .int rd_value, .int rd_error, .int rd_errorAt, .int rd_hasThreshold, .int rd_hasRate]))])) (fun q_8 => []) (fun _ => zu_shG (m := 37) (n := 3) rfl rfl (by omega) rfl rfl) (fun _ => rfl) zy_X4_add zw_656 zw_657 zw_658 (ci := 4) rfl (zc_f (m := 37) (zc_i (o := 0) n_pr_pricing0 rfl) (by omega) rfl) ⟨rfl, rfl⟩ rfl rfl rfl rfl rfl dX6_addOperand_8 rfl (fun q_8 hf => ?_)
  refine z_aload_n (pc' := 12) C 0 dX6_addOperand_11 rfl rfl rfl ?_
  refine z_cV (pc' := 15) C hf (As := []) (fun hq => c_X6_advance (a := a) (zc_i (o := 0) n_a0 rfl) (zc_o (o := 1) (zc_f (m := 3) h_a1 (by omega) rfl) rfl) hq) (fun q_12 => (zu (zu h pr_pricing [(0, .inr (4, [.int pg_threshold, .int q_8.1, .ref (zo w + (pr_pricing + 2)), .ref (zo w + (pr_pricing + 1))])), (2, .inl (w.2.2.1 0, pg_clen, .inl q_8.2))]) a [(0, .inr (6, [.ref (zo w + (a + 1)), .int rd_filled, .ref (zo w + (a + 2)), .int rd_length, .int q_12.1, .int q_12.2.1, .int q_12.2.2.1, .int q_12.2.2.2, .int rd_error, .int rd_errorAt, .int rd_hasThreshold, .int rd_hasRate]))])) (fun q_12 => []) (fun _ => zu_sh (d := 0) rfl rfl) (fun _ => rfl) zy_X6_advance zw_533 zw_535 zv_2 (ci := 6) rfl (zc_i (o := 0) n_a0 rfl) ⟨rfl, rfl⟩ rfl rfl rfl rfl rfl dX6_addOperand_12 rfl (fun q_12 hf => ?_)
  cases hf
  exact z_vret C rfl rfl dX6_addOperand_15
set_option maxRecDepth 20000 in
theorem w_X6_readSum_56 {X : zC} {w : zV} {N : Nat} {h : zH} {a : Nat} {d : Nat} {R : Nat → Int32 → Int32 → Int32 → Int32 → Int32 → Int32 → Int32 → (Nat → Int32) → Int32 → Nat → (Nat → Int32) → Int32 → Option (Int32 × Int32 × Int32 × Int32 × Int32 × Int32 × Int32 × (Nat → Int32))} {rd_filled : Int32} {rd_hasThreshold : Int32} {rd_hasRate : Int32} {rd_length : Int32} {rd_text : Nat → Int32} {pr_day : Int32} {pr_pricing : Nat} {pg_threshold : Int32} {pg_clen : Nat} (C : zK X w RX6 cX6_readSum 4 none (zrd (d + 1))) (n_a0 : a + 0 < N) (h_a1 : zc N h (a + 1) (.inl (w.2.2.1 2, 900, .inl rd_text))) (h_a2 : zc N h (a + 2) (.inr (5, [.int pr_day, .ref (zo w + (a + 3)), .ref (zo w + (a + 4)), .ref (zo w + pr_pricing), .ref (zo w + (a + 15)), .ref (zo w + (a + 21)), .ref (zo w + (a + 25)), .ref (zo w + (a + 31)), .ref (zo w + (a + 36))]))) (n_pr_pricing0 : pr_pricing + 0 < N) (n_pr_pricing2 : pr_pricing + 2 < N) (far_a : a + 37 ≤ pr_pricing) (hR0 : ∀ {h : zH} {a : Nat} {rd_filled : Int32} {rd_hasThreshold : Int32} {rd_hasRate : Int32} {rd_length : Int32} {rd_at : Int32} {rd_kind : Int32} {rd_start : Int32} {rd_value : Int32} {rd_error : Int32} {rd_errorAt : Int32} {rd_text : Nat → Int32} {pr_day : Int32} {pr_pricing : Nat} {pg_threshold : Int32} {pg_length : Int32} {pg_clen : Nat} {pg_code : Nat → Int32} {p1 : Int32} {r : Int32 × Int32 × Int32 × Int32 × Int32 × Int32 × Int32 × (Nat → Int32)}, zc N h (a + 0) (.inr (6, [.ref (zo w + (a + 1)), .int rd_filled, .ref (zo w + (a + 2)), .int rd_length, .int rd_at, .int rd_kind, .int rd_start, .int rd_value, .int rd_error, .int rd_errorAt, .int rd_hasThreshold, .int rd_hasRate])) → zc N h (a + 1) (.inl (w.2.2.1 2, 900, .inl rd_text)) → zc N h (a + 2) (.inr (5, [.int pr_day, .ref (zo w + (a + 3)), .ref (zo w + (a + 4)), .ref (zo w + pr_pricing), .ref (zo w + (a + 15)), .ref (zo w + (a + 21)), .ref (zo w + (a + 25)), .ref (zo w + (a + 31)), .ref (zo w + (a + 36))])) → zc N h (pr_pricing + 0) (.inr (4, [.int pg_threshold, .int pg_length, .ref (zo w + (pr_pricing + 2)), .ref (zo w + (pr_pricing + 1))])) → zc N h (pr_pricing + 2) (.inl (w.2.2.1 0, pg_clen, .inl pg_code)) → a + 37 ≤ pr_pricing → R 0 rd_length rd_at rd_kind rd_start rd_value rd_error rd_errorAt rd_text pg_length pg_clen pg_code p1 = some r → zM w yX6_readSum cX6_readSum 4 none (zrd d) false N N h [.ref (zo w + a), .int p1] (none) (zu (zu h pr_pricing [(0, .inr (4, [.int pg_threshold, .int r.2.2.2.2.2.2.1, .ref (zo w + (pr_pricing + 2)), .ref (zo w + (pr_pricing + 1))])), (2, .inl (w.2.2.1 0, pg_clen, .inl r.2.2.2.2.2.2.2))]) a [(0, .inr (6, [.ref (zo w + (a + 1)), .int rd_filled, .ref (zo w + (a + 2)), .int rd_length, .int r.1, .int r.2.1, .int r.2.2.1, .int r.2.2.2.1, .int r.2.2.2.2.1, .int r.2.2.2.2.2.1, .int rd_hasThreshold, .int rd_hasRate]))])) (hR1 : ∀ {h : zH} {a : Nat} {rd_filled : Int32} {rd_hasThreshold : Int32} {rd_hasRate : Int32} {rd_length : Int32} {rd_at : Int32} {rd_kind : Int32} {rd_start : Int32} {rd_value : Int32} {rd_error : Int32} {rd_errorAt : Int32} {rd_text : Nat → Int32} {pr_day : Int32} {pr_pricing : Nat} {pg_threshold : Int32} {pg_length : Int32} {pg_clen : Nat} {pg_code : Nat → Int32} {p1 : Int32} {r : Int32 × Int32 × Int32 × Int32 × Int32 × Int32 × Int32 × (Nat → Int32)}, zc N h (a + 0) (.inr (6, [.ref (zo w + (a + 1)), .int rd_filled, .ref (zo w + (a + 2)), .int rd_length, .int rd_at, .int rd_kind, .int rd_start, .int rd_value, .int rd_error, .int rd_errorAt, .int rd_hasThreshold, .int rd_hasRate])) → zc N h (a + 1) (.inl (w.2.2.1 2, 900, .inl rd_text)) → zc N h (a + 2) (.inr (5, [.int pr_day, .ref (zo w + (a + 3)), .ref (zo w + (a + 4)), .ref (zo w + pr_pricing), .ref (zo w + (a + 15)), .ref (zo w + (a + 21)), .ref (zo w + (a + 25)), .ref (zo w + (a + 31)), .ref (zo w + (a + 36))])) → zc N h (pr_pricing + 0) (.inr (4, [.int pg_threshold, .int pg_length, .ref (zo w + (pr_pricing + 2)), .ref (zo w + (pr_pricing + 1))])) → zc N h (pr_pricing + 2) (.inl (w.2.2.1 0, pg_clen, .inl pg_code)) → a + 37 ≤ pr_pricing → R 1 rd_length rd_at rd_kind rd_start rd_value rd_error rd_errorAt rd_text pg_length pg_clen pg_code p1 = some r → zM w yX6_readTerm cX6_readTerm 4 none (zrd d) false N N h [.ref (zo w + a), .int p1] (none) (zu (zu h pr_pricing [(0, .inr (4, [.int pg_threshold, .int r.2.2.2.2.2.2.1, .ref (zo w + (pr_pricing + 2)), .ref (zo w + (pr_pricing + 1))])), (2, .inl (w.2.2.1 0, pg_clen, .inl r.2.2.2.2.2.2.2))]) a [(0, .inr (6, [.ref (zo w + (a + 1)), .int rd_filled, .ref (zo w + (a + 2)), .int rd_length, .int r.1, .int r.2.1, .int r.2.2.1, .int r.2.2.2.1, .int r.2.2.2.2.1, .int r.2.2.2.2.2.1, .int rd_hasThreshold, .int rd_hasRate]))])) (hR2 : ∀ {h : zH} {a : Nat} {rd_filled : Int32} {rd_hasThreshold : Int32} {rd_hasRate : Int32} {rd_length : Int32} {rd_at : Int32} {rd_kind : Int32} {rd_start : Int32} {rd_value : Int32} {rd_error : Int32} {rd_errorAt : Int32} {rd_text : Nat → Int32} {pr_day : Int32} {pr_pricing : Nat} {pg_threshold : Int32} {pg_length : Int32} {pg_clen : Nat} {pg_code : Nat → Int32} {p1 : Int32} {r : Int32 × Int32 × Int32 × Int32 × Int32 × Int32 × Int32 × (Nat → Int32)}, zc N h (a + 0) (.inr (6, [.ref (zo w + (a + 1)), .int rd_filled, .ref (zo w + (a + 2)), .int rd_length, .int rd_at, .int rd_kind, .int rd_start, .int rd_value, .int rd_error, .int rd_errorAt, .int rd_hasThreshold, .int rd_hasRate])) → zc N h (a + 1) (.inl (w.2.2.1 2, 900, .inl rd_text)) → zc N h (a + 2) (.inr (5, [.int pr_day, .ref (zo w + (a + 3)), .ref (zo w + (a + 4)), .ref (zo w + pr_pricing), .ref (zo w + (a + 15)), .ref (zo w + (a + 21)), .ref (zo w + (a + 25)), .ref (zo w + (a + 31)), .ref (zo w + (a + 36))])) → zc N h (pr_pricing + 0) (.inr (4, [.int pg_threshold, .int pg_length, .ref (zo w + (pr_pricing + 2)), .ref (zo w + (pr_pricing + 1))])) → zc N h (pr_pricing + 2) (.inl (w.2.2.1 0, pg_clen, .inl pg_code)) → a + 37 ≤ pr_pricing → R 2 rd_length rd_at rd_kind rd_start rd_value rd_error rd_errorAt rd_text pg_length pg_clen pg_code p1 = some r → zM w yX6_readFactor cX6_readFactor 2 none (zrd d) false N N h [.ref (zo w + a), .int p1] (none) (zu (zu h pr_pricing [(0, .inr (4, [.int pg_threshold, .int r.2.2.2.2.2.2.1, .ref (zo w + (pr_pricing + 2)), .ref (zo w + (pr_pricing + 1))])), (2, .inl (w.2.2.1 0, pg_clen, .inl r.2.2.2.2.2.2.2))]) a [(0, .inr (6, [.ref (zo w + (a + 1)), .int rd_filled, .ref (zo w + (a + 2)), .int rd_length, .int r.1, .int r.2.1, .int r.2.2.1, .int r.2.2.2.1, .int r.2.2.2.2.1, .int r.2.2.2.2.2.1, .int rd_hasThreshold, .int rd_hasRate]))])) {r : Int32 × Int32 × Int32 × Int32 × Int32 × Int32 × Int32 × (Nat → Int32)} {k7 : Int32 → Int32 → Int32 → Int32 → Int32 → Int32 → Int32 → (Nat → Int32) → Int32 → Nat → (Nat → Int32) → Int32 → Int32 → Option (Int32 × Int32 × Int32 × Int32 × Int32 × Int32 × Int32 × (Nat → Int32))} (hk7 : ∀ {rd_at : Int32} {rd_kind : Int32} {rd_start : Int32} {rd_value : Int32} {rd_error : Int32} {rd_errorAt : Int32} {pg_length : Int32} {pg_code : Nat → Int32} {x1 : Int32} {x2 : Int32}, k7 rd_length rd_at rd_kind rd_start rd_value rd_error rd_errorAt rd_text pg_length pg_clen pg_code x1 x2 = some r → zZ X w (zQ X w (zrd (d + 1)) (none) false N (zu (zu h pr_pricing [(0, .inr (4, [.int pg_threshold, .int r.2.2.2.2.2.2.1, .ref (zo w + (pr_pricing + 2)), .ref (zo w + (pr_pricing + 1))])), (2, .inl (w.2.2.1 0, pg_clen, .inl r.2.2.2.2.2.2.2))]) a [(0, .inr (6, [.ref (zo w + (a + 1)), .int rd_filled, .ref (zo w + (a + 2)), .int rd_length, .int r.1, .int r.2.1, .int r.2.2.1, .int r.2.2.2.1, .int r.2.2.2.2.1, .int r.2.2.2.2.2.1, .int rd_hasThreshold, .int rd_hasRate]))])) 0 0 false N (zu (zu h pr_pricing [(0, .inr (4, [.int pg_threshold, .int pg_length, .ref (zo w + (pr_pricing + 2)), .ref (zo w + (pr_pricing + 1))])), (2, .inl (w.2.2.1 0, pg_clen, .inl pg_code))]) a [(0, .inr (6, [.ref (zo w + (a + 1)), .int rd_filled, .ref (zo w + (a + 2)), .int rd_length, .int rd_at, .int rd_kind, .int rd_start, .int rd_value, .int rd_error, .int rd_errorAt, .int rd_hasThreshold, .int rd_hasRate]))]) 7 [(0, .ref (zo w + a)), (1, .int x1), (2, .int x2)] []) {rd_at : Int32} {rd_kind : Int32} {rd_start : Int32} {rd_value : Int32} {rd_error : Int32} {rd_errorAt : Int32} {pg_length : Int32} {pg_code : Nat → Int32} {x1 : Int32} {x2 : Int32} {s0 : Int32} (hf : f_X6_readSum_56 R k7 rd_length rd_at rd_kind rd_start rd_value rd_error rd_errorAt rd_text pg_length pg_clen pg_code x1 x2 s0 = some r) : zZ X w (zQ X w (zrd (d + 1)) (none) false N (zu (zu h pr_pricing [(0, .inr (4, [.int pg_threshold, .int r.2.2.2.2.2.2.1, .ref (zo w + (pr_pricing + 2)), .ref (zo w + (pr_pricing + 1))])), (2, .inl (w.2.2.1 0, pg_clen, .inl r.2.2.2.2.2.2.2))]) a [(0, .inr (6, [.ref (zo w + (a + 1)), .int rd_filled, .ref (zo w + (a + 2)), .int rd_length, .int r.1, .int r.2.1, .int r.2.2.1, .int r.2.2.2.1, .int r.2.2.2.2.1, .int r.2.2.2.2.2.1, .int rd_hasThreshold, .int rd_hasRate]))])) 0 0 false N (zu (zu h pr_pricing [(0, .inr (4, [.int pg_threshold, .int pg_length, .ref (zo w + (pr_pricing + 2)), .ref (zo w + (pr_pricing + 1))])), (2, .inl (w.2.2.1 0, pg_clen, .inl pg_code))]) a [(0, .inr (6, [.ref (zo w + (a + 1)), .int rd_filled, .ref (zo w + (a + 2)), .int rd_length, .int rd_at, .int rd_kind, .int rd_start, .int rd_value, .int rd_error, .int rd_errorAt, .int rd_hasThreshold, .int rd_hasRate]))]) 56 [(0, .ref (zo w + a)), (1, .int x1), (2, .int x2)] [.int s0] := by
  unfold f_X6_readSum_56 at hf
  refine z_istore_n (pc' := 57) C [(3, .int s0), (0, .ref (zo w + a)), (1, .int x1), (2, .int x2)] dX6_readSum_56 rfl rfl rfl rfl ?_
  refine z_aload_n (pc' := 58) C 1 dX6_readSum_57 rfl rfl rfl ?_
  refine z_cV (pc' := 61) C hf (As := []) (fun hq => c_X6_advance (a := a) (zc_i (o := 0) n_a0 rfl) (zc_o (o := 1) (zc_f (m := 3) h_a1 (by omega) rfl) rfl) hq) (fun q_58 => (zu (zu h pr_pricing [(0, .inr (4, [.int pg_threshold, .int pg_length, .ref (zo w + (pr_pricing + 2)), .ref (zo w + (pr_pricing + 1))])), (2, .inl (w.2.2.1 0, pg_clen, .inl pg_code))]) a [(0, .inr (6, [.ref (zo w + (a + 1)), .int rd_filled, .ref (zo w + (a + 2)), .int rd_length, .int q_58.1, .int q_58.2.1, .int q_58.2.2.1, .int q_58.2.2.2, .int rd_error, .int rd_errorAt, .int rd_hasThreshold, .int rd_hasRate]))])) (fun q_58 => []) (fun _ => zu_sh (d := 0) rfl rfl) (fun _ => rfl) zy_X6_advance zw_533 zw_535 zv_2 (ci := 6) rfl (zc_i (o := 0) n_a0 rfl) ⟨rfl, rfl⟩ (zRm_c rfl) rfl rfl rfl rfl dX6_readSum_58 rfl (fun q_58 hf => ?_)
  refine z_aload_n (pc' := 62) C 1 dX6_readSum_61 rfl rfl rfl ?_
  refine z_iload_n (pc' := 63) C 2 dX6_readSum_62 rfl rfl rfl ?_
  refine z_cV (pc' := 66) C hf (As := [.int x1]) (fun hq => hR1 (a := a) (pr_pricing := pr_pricing) (zc_i (o := 0) n_a0 rfl) (zc_o (o := 1) (zc_f (m := 3) h_a1 (by omega) rfl) rfl) (zc_o (o := 2) (zc_f (m := 3) h_a2 (by omega) rfl) rfl) (zc_f (m := 37) (zc_i (o := 0) n_pr_pricing0 rfl) (by omega) rfl) (zc_f (m := 37) (zc_i (o := 2) n_pr_pricing2 rfl) (by omega) rfl) (by omega) hq) (fun q_63 => (zu (zu h pr_pricing [(0, .inr (4, [.int pg_threshold, .int q_63.2.2.2.2.2.2.1, .ref (zo w + (pr_pricing + 2)), .ref (zo w + (pr_pricing + 1))])), (2, .inl (w.2.2.1 0, pg_clen, .inl q_63.2.2.2.2.2.2.2))]) a [(0, .inr (6, [.ref (zo w + (a + 1)), .int rd_filled, .ref (zo w + (a + 2)), .int rd_length, .int q_63.1, .int q_63.2.1, .int q_63.2.2.1, .int q_63.2.2.2.1, .int q_63.2.2.2.2.1, .int q_63.2.2.2.2.2.1, .int rd_hasThreshold, .int rd_hasRate]))])) (fun q_63 => []) (fun _ => zu_shB (d := 0) (m := 37) (n := 3) rfl rfl (by omega) rfl rfl rfl rfl) (fun _ => rfl) zy_X6_readTerm zw_643 zw_645 zv_13 (ci := 6) rfl (zc_i (o := 0) n_a0 rfl) ⟨rfl, rfl⟩ zRm_r rfl rfl rfl rfl dX6_readSum_63 rfl (fun q_63 hf => ?_)
  refine z_aload_n (pc' := 67) C 1 dX6_readSum_66 rfl rfl rfl ?_
  refine z_getf (pc' := 70) C zci_6 zw_277 (j := 2) rfl (zc_i (o := 0) n_a0 rfl) rfl rfl dX6_readSum_67 rfl ?_
  refine z_getf (pc' := 73) C zci_5 zw_243 (j := 3) rfl (zc_o (o := 2) (zc_f (m := 3) h_a2 (by omega) rfl) rfl) rfl rfl dX6_readSum_70 rfl ?_
  refine z_iload_n (pc' := 74) C 0 dX6_readSum_73 rfl rfl rfl ?_
  refine z_cV (pc' := 77) C hf (As := [.int s0]) (fun hq => c_X4_add (a := pr_pricing) (zc_f (m := 37) (zc_i (o := 0) n_pr_pricing0 rfl) (by omega) rfl) (zc_f (m := 37) (zc_i (o := 2) n_pr_pricing2 rfl) (by omega) rfl) hq) (fun q_74 => (zu (zu h pr_pricing [(0, .inr (4, [.int pg_threshold, .int q_74.1, .ref (zo w + (pr_pricing + 2)), .ref (zo w + (pr_pricing + 1))])), (2, .inl (w.2.2.1 0, pg_clen, .inl q_74.2))]) a [(0, .inr (6, [.ref (zo w + (a + 1)), .int rd_filled, .ref (zo w + (a + 2)), .int rd_length, .int q_63.1, .int q_63.2.1, .int q_63.2.2.1, .int q_63.2.2.2.1, .int q_63.2.2.2.2.1, .int q_63.2.2.2.2.2.1, .int rd_hasThreshold, .int rd_hasRate]))])) (fun q_74 => []) (fun _ => zu_shG (m := 37) (n := 3) rfl rfl (by omega) rfl rfl) (fun _ => rfl) zy_X4_add zw_656 zw_657 zw_658 (ci := 4) rfl (zc_f (m := 37) (zc_i (o := 0) n_pr_pricing0 rfl) (by omega) rfl) ⟨rfl, rfl⟩ (zRm_c rfl) rfl rfl rfl rfl dX6_readSum_74 rfl (fun q_74 hf => ?_)
  refine z_iinc (pc' := 80) C 3 [(2, .int (x2 + (1 : Int32))), (3, .int s0), (0, .ref (zo w + a)), (1, .int x1)] dX6_readSum_77 rfl zk_iconst_1 rfl rfl rfl ?_
  refine z_goto C 7 dX6_readSum_80 rfl ?_
  refine z_pick (lv' := [(0, .ref (zo w + a)), (1, .int x1), (2, .int (x2 + (1 : Int32)))]) [2, 3, 0] rfl ?_
  exact hk7 hf
set_option maxRecDepth 20000 in
theorem w_X6_readSum_40 {X : zC} {w : zV} {N : Nat} {h : zH} {a : Nat} {d : Nat} {R : Nat → Int32 → Int32 → Int32 → Int32 → Int32 → Int32 → Int32 → (Nat → Int32) → Int32 → Nat → (Nat → Int32) → Int32 → Option (Int32 × Int32 × Int32 × Int32 × Int32 × Int32 × Int32 × (Nat → Int32))} {rd_filled : Int32} {rd_hasThreshold : Int32} {rd_hasRate : Int32} {rd_length : Int32} {rd_text : Nat → Int32} {pr_day : Int32} {pr_pricing : Nat} {pg_threshold : Int32} {pg_clen : Nat} (C : zK X w RX6 cX6_readSum 4 none (zrd (d + 1))) (n_a0 : a + 0 < N) (h_a1 : zc N h (a + 1) (.inl (w.2.2.1 2, 900, .inl rd_text))) (h_a2 : zc N h (a + 2) (.inr (5, [.int pr_day, .ref (zo w + (a + 3)), .ref (zo w + (a + 4)), .ref (zo w + pr_pricing), .ref (zo w + (a + 15)), .ref (zo w + (a + 21)), .ref (zo w + (a + 25)), .ref (zo w + (a + 31)), .ref (zo w + (a + 36))]))) (n_pr_pricing0 : pr_pricing + 0 < N) (n_pr_pricing2 : pr_pricing + 2 < N) (far_a : a + 37 ≤ pr_pricing) (hR0 : ∀ {h : zH} {a : Nat} {rd_filled : Int32} {rd_hasThreshold : Int32} {rd_hasRate : Int32} {rd_length : Int32} {rd_at : Int32} {rd_kind : Int32} {rd_start : Int32} {rd_value : Int32} {rd_error : Int32} {rd_errorAt : Int32} {rd_text : Nat → Int32} {pr_day : Int32} {pr_pricing : Nat} {pg_threshold : Int32} {pg_length : Int32} {pg_clen : Nat} {pg_code : Nat → Int32} {p1 : Int32} {r : Int32 × Int32 × Int32 × Int32 × Int32 × Int32 × Int32 × (Nat → Int32)}, zc N h (a + 0) (.inr (6, [.ref (zo w + (a + 1)), .int rd_filled, .ref (zo w + (a + 2)), .int rd_length, .int rd_at, .int rd_kind, .int rd_start, .int rd_value, .int rd_error, .int rd_errorAt, .int rd_hasThreshold, .int rd_hasRate])) → zc N h (a + 1) (.inl (w.2.2.1 2, 900, .inl rd_text)) → zc N h (a + 2) (.inr (5, [.int pr_day, .ref (zo w + (a + 3)), .ref (zo w + (a + 4)), .ref (zo w + pr_pricing), .ref (zo w + (a + 15)), .ref (zo w + (a + 21)), .ref (zo w + (a + 25)), .ref (zo w + (a + 31)), .ref (zo w + (a + 36))])) → zc N h (pr_pricing + 0) (.inr (4, [.int pg_threshold, .int pg_length, .ref (zo w + (pr_pricing + 2)), .ref (zo w + (pr_pricing + 1))])) → zc N h (pr_pricing + 2) (.inl (w.2.2.1 0, pg_clen, .inl pg_code)) → a + 37 ≤ pr_pricing → R 0 rd_length rd_at rd_kind rd_start rd_value rd_error rd_errorAt rd_text pg_length pg_clen pg_code p1 = some r → zM w yX6_readSum cX6_readSum 4 none (zrd d) false N N h [.ref (zo w + a), .int p1] (none) (zu (zu h pr_pricing [(0, .inr (4, [.int pg_threshold, .int r.2.2.2.2.2.2.1, .ref (zo w + (pr_pricing + 2)), .ref (zo w + (pr_pricing + 1))])), (2, .inl (w.2.2.1 0, pg_clen, .inl r.2.2.2.2.2.2.2))]) a [(0, .inr (6, [.ref (zo w + (a + 1)), .int rd_filled, .ref (zo w + (a + 2)), .int rd_length, .int r.1, .int r.2.1, .int r.2.2.1, .int r.2.2.2.1, .int r.2.2.2.2.1, .int r.2.2.2.2.2.1, .int rd_hasThreshold, .int rd_hasRate]))])) (hR1 : ∀ {h : zH} {a : Nat} {rd_filled : Int32} {rd_hasThreshold : Int32} {rd_hasRate : Int32} {rd_length : Int32} {rd_at : Int32} {rd_kind : Int32} {rd_start : Int32} {rd_value : Int32} {rd_error : Int32} {rd_errorAt : Int32} {rd_text : Nat → Int32} {pr_day : Int32} {pr_pricing : Nat} {pg_threshold : Int32} {pg_length : Int32} {pg_clen : Nat} {pg_code : Nat → Int32} {p1 : Int32} {r : Int32 × Int32 × Int32 × Int32 × Int32 × Int32 × Int32 × (Nat → Int32)}, zc N h (a + 0) (.inr (6, [.ref (zo w + (a + 1)), .int rd_filled, .ref (zo w + (a + 2)), .int rd_length, .int rd_at, .int rd_kind, .int rd_start, .int rd_value, .int rd_error, .int rd_errorAt, .int rd_hasThreshold, .int rd_hasRate])) → zc N h (a + 1) (.inl (w.2.2.1 2, 900, .inl rd_text)) → zc N h (a + 2) (.inr (5, [.int pr_day, .ref (zo w + (a + 3)), .ref (zo w + (a + 4)), .ref (zo w + pr_pricing), .ref (zo w + (a + 15)), .ref (zo w + (a + 21)), .ref (zo w + (a + 25)), .ref (zo w + (a + 31)), .ref (zo w + (a + 36))])) → zc N h (pr_pricing + 0) (.inr (4, [.int pg_threshold, .int pg_length, .ref (zo w + (pr_pricing + 2)), .ref (zo w + (pr_pricing + 1))])) → zc N h (pr_pricing + 2) (.inl (w.2.2.1 0, pg_clen, .inl pg_code)) → a + 37 ≤ pr_pricing → R 1 rd_length rd_at rd_kind rd_start rd_value rd_error rd_errorAt rd_text pg_length pg_clen pg_code p1 = some r → zM w yX6_readTerm cX6_readTerm 4 none (zrd d) false N N h [.ref (zo w + a), .int p1] (none) (zu (zu h pr_pricing [(0, .inr (4, [.int pg_threshold, .int r.2.2.2.2.2.2.1, .ref (zo w + (pr_pricing + 2)), .ref (zo w + (pr_pricing + 1))])), (2, .inl (w.2.2.1 0, pg_clen, .inl r.2.2.2.2.2.2.2))]) a [(0, .inr (6, [.ref (zo w + (a + 1)), .int rd_filled, .ref (zo w + (a + 2)), .int rd_length, .int r.1, .int r.2.1, .int r.2.2.1, .int r.2.2.2.1, .int r.2.2.2.2.1, .int r.2.2.2.2.2.1, .int rd_hasThreshold, .int rd_hasRate]))])) (hR2 : ∀ {h : zH} {a : Nat} {rd_filled : Int32} {rd_hasThreshold : Int32} {rd_hasRate : Int32} {rd_length : Int32} {rd_at : Int32} {rd_kind : Int32} {rd_start : Int32} {rd_value : Int32} {rd_error : Int32} {rd_errorAt : Int32} {rd_text : Nat → Int32} {pr_day : Int32} {pr_pricing : Nat} {pg_threshold : Int32} {pg_length : Int32} {pg_clen : Nat} {pg_code : Nat → Int32} {p1 : Int32} {r : Int32 × Int32 × Int32 × Int32 × Int32 × Int32 × Int32 × (Nat → Int32)}, zc N h (a + 0) (.inr (6, [.ref (zo w + (a + 1)), .int rd_filled, .ref (zo w + (a + 2)), .int rd_length, .int rd_at, .int rd_kind, .int rd_start, .int rd_value, .int rd_error, .int rd_errorAt, .int rd_hasThreshold, .int rd_hasRate])) → zc N h (a + 1) (.inl (w.2.2.1 2, 900, .inl rd_text)) → zc N h (a + 2) (.inr (5, [.int pr_day, .ref (zo w + (a + 3)), .ref (zo w + (a + 4)), .ref (zo w + pr_pricing), .ref (zo w + (a + 15)), .ref (zo w + (a + 21)), .ref (zo w + (a + 25)), .ref (zo w + (a + 31)), .ref (zo w + (a + 36))])) → zc N h (pr_pricing + 0) (.inr (4, [.int pg_threshold, .int pg_length, .ref (zo w + (pr_pricing + 2)), .ref (zo w + (pr_pricing + 1))])) → zc N h (pr_pricing + 2) (.inl (w.2.2.1 0, pg_clen, .inl pg_code)) → a + 37 ≤ pr_pricing → R 2 rd_length rd_at rd_kind rd_start rd_value rd_error rd_errorAt rd_text pg_length pg_clen pg_code p1 = some r → zM w yX6_readFactor cX6_readFactor 2 none (zrd d) false N N h [.ref (zo w + a), .int p1] (none) (zu (zu h pr_pricing [(0, .inr (4, [.int pg_threshold, .int r.2.2.2.2.2.2.1, .ref (zo w + (pr_pricing + 2)), .ref (zo w + (pr_pricing + 1))])), (2, .inl (w.2.2.1 0, pg_clen, .inl r.2.2.2.2.2.2.2))]) a [(0, .inr (6, [.ref (zo w + (a + 1)), .int rd_filled, .ref (zo w + (a + 2)), .int rd_length, .int r.1, .int r.2.1, .int r.2.2.1, .int r.2.2.2.1, .int r.2.2.2.2.1, .int r.2.2.2.2.2.1, .int rd_hasThreshold, .int rd_hasRate]))])) {r : Int32 × Int32 × Int32 × Int32 × Int32 × Int32 × Int32 × (Nat → Int32)} {k7 : Int32 → Int32 → Int32 → Int32 → Int32 → Int32 → Int32 → (Nat → Int32) → Int32 → Nat → (Nat → Int32) → Int32 → Int32 → Option (Int32 × Int32 × Int32 × Int32 × Int32 × Int32 × Int32 × (Nat → Int32))} (hk7 : ∀ {rd_at : Int32} {rd_kind : Int32} {rd_start : Int32} {rd_value : Int32} {rd_error : Int32} {rd_errorAt : Int32} {pg_length : Int32} {pg_code : Nat → Int32} {x1 : Int32} {x2 : Int32}, k7 rd_length rd_at rd_kind rd_start rd_value rd_error rd_errorAt rd_text pg_length pg_clen pg_code x1 x2 = some r → zZ X w (zQ X w (zrd (d + 1)) (none) false N (zu (zu h pr_pricing [(0, .inr (4, [.int pg_threshold, .int r.2.2.2.2.2.2.1, .ref (zo w + (pr_pricing + 2)), .ref (zo w + (pr_pricing + 1))])), (2, .inl (w.2.2.1 0, pg_clen, .inl r.2.2.2.2.2.2.2))]) a [(0, .inr (6, [.ref (zo w + (a + 1)), .int rd_filled, .ref (zo w + (a + 2)), .int rd_length, .int r.1, .int r.2.1, .int r.2.2.1, .int r.2.2.2.1, .int r.2.2.2.2.1, .int r.2.2.2.2.2.1, .int rd_hasThreshold, .int rd_hasRate]))])) 0 0 false N (zu (zu h pr_pricing [(0, .inr (4, [.int pg_threshold, .int pg_length, .ref (zo w + (pr_pricing + 2)), .ref (zo w + (pr_pricing + 1))])), (2, .inl (w.2.2.1 0, pg_clen, .inl pg_code))]) a [(0, .inr (6, [.ref (zo w + (a + 1)), .int rd_filled, .ref (zo w + (a + 2)), .int rd_length, .int rd_at, .int rd_kind, .int rd_start, .int rd_value, .int rd_error, .int rd_errorAt, .int rd_hasThreshold, .int rd_hasRate]))]) 7 [(0, .ref (zo w + a)), (1, .int x1), (2, .int x2)] []) {rd_at : Int32} {rd_kind : Int32} {rd_start : Int32} {rd_value : Int32} {rd_error : Int32} {rd_errorAt : Int32} {pg_length : Int32} {pg_code : Nat → Int32} {x1 : Int32} {x2 : Int32} (hf : f_X6_readSum_40 R k7 rd_length rd_at rd_kind rd_start rd_value rd_error rd_errorAt rd_text pg_length pg_clen pg_code x1 x2 = some r) : zZ X w (zQ X w (zrd (d + 1)) (none) false N (zu (zu h pr_pricing [(0, .inr (4, [.int pg_threshold, .int r.2.2.2.2.2.2.1, .ref (zo w + (pr_pricing + 2)), .ref (zo w + (pr_pricing + 1))])), (2, .inl (w.2.2.1 0, pg_clen, .inl r.2.2.2.2.2.2.2))]) a [(0, .inr (6, [.ref (zo w + (a + 1)), .int rd_filled, .ref (zo w + (a + 2)), .int rd_length, .int r.1, .int r.2.1, .int r.2.2.1, .int r.2.2.2.1, .int r.2.2.2.2.1, .int r.2.2.2.2.2.1, .int rd_hasThreshold, .int rd_hasRate]))])) 0 0 false N (zu (zu h pr_pricing [(0, .inr (4, [.int pg_threshold, .int pg_length, .ref (zo w + (pr_pricing + 2)), .ref (zo w + (pr_pricing + 1))])), (2, .inl (w.2.2.1 0, pg_clen, .inl pg_code))]) a [(0, .inr (6, [.ref (zo w + (a + 1)), .int rd_filled, .ref (zo w + (a + 2)), .int rd_length, .int rd_at, .int rd_kind, .int rd_start, .int rd_value, .int rd_error, .int rd_errorAt, .int rd_hasThreshold, .int rd_hasRate]))]) 40 [(0, .ref (zo w + a)), (1, .int x1), (2, .int x2)] [] := by
  unfold f_X6_readSum_40 at hf
  refine z_aload_n (pc' := 41) C 0 dX6_readSum_40 rfl rfl rfl ?_
  refine z_getf (pc' := 44) C zci_6 zw_281 (j := 5) rfl (zc_i (o := 0) n_a0 rfl) rfl rfl dX6_readSum_41 rfl ?_
  refine z_bipush (pc' := 46) C dX6_readSum_44 zk_bipush_43 rfl ?_
  refine z_icmp_ne (pc' := 49) C 54 hf dX6_readSum_46 rfl rfl (fun g_46 hf => ?_) (fun g_46 hf => ?_)
  · refine z_bipush (pc' := 56) C dX6_readSum_54 zk_bipush_m5 rfl ?_
    exact w_X6_readSum_56 C n_a0 h_a1 h_a2 n_pr_pricing0 n_pr_pricing2 far_a hR0 hR1 hR2 (fun hf => hk7 hf) hf
  · refine z_bipush (pc' := 51) C dX6_readSum_49 zk_bipush_m4 rfl ?_
    refine z_goto C 56 dX6_readSum_51 rfl ?_
    exact w_X6_readSum_56 C n_a0 h_a1 h_a2 n_pr_pricing0 n_pr_pricing2 far_a hR0 hR1 hR2 (fun hf => hk7 hf) hf
set_option maxRecDepth 20000 in
theorem w_X6_readSum_7 {X : zC} {w : zV} {N : Nat} {h : zH} {a : Nat} {d : Nat} {R : Nat → Int32 → Int32 → Int32 → Int32 → Int32 → Int32 → Int32 → (Nat → Int32) → Int32 → Nat → (Nat → Int32) → Int32 → Option (Int32 × Int32 × Int32 × Int32 × Int32 × Int32 × Int32 × (Nat → Int32))} {rd_filled : Int32} {rd_hasThreshold : Int32} {rd_hasRate : Int32} {rd_length : Int32} {rd_text : Nat → Int32} {pr_day : Int32} {pr_pricing : Nat} {pg_threshold : Int32} {pg_clen : Nat} (C : zK X w RX6 cX6_readSum 4 none (zrd (d + 1))) (n_a0 : a + 0 < N) (h_a1 : zc N h (a + 1) (.inl (w.2.2.1 2, 900, .inl rd_text))) (h_a2 : zc N h (a + 2) (.inr (5, [.int pr_day, .ref (zo w + (a + 3)), .ref (zo w + (a + 4)), .ref (zo w + pr_pricing), .ref (zo w + (a + 15)), .ref (zo w + (a + 21)), .ref (zo w + (a + 25)), .ref (zo w + (a + 31)), .ref (zo w + (a + 36))]))) (n_pr_pricing0 : pr_pricing + 0 < N) (n_pr_pricing2 : pr_pricing + 2 < N) (far_a : a + 37 ≤ pr_pricing) (hR0 : ∀ {h : zH} {a : Nat} {rd_filled : Int32} {rd_hasThreshold : Int32} {rd_hasRate : Int32} {rd_length : Int32} {rd_at : Int32} {rd_kind : Int32} {rd_start : Int32} {rd_value : Int32} {rd_error : Int32} {rd_errorAt : Int32} {rd_text : Nat → Int32} {pr_day : Int32} {pr_pricing : Nat} {pg_threshold : Int32} {pg_length : Int32} {pg_clen : Nat} {pg_code : Nat → Int32} {p1 : Int32} {r : Int32 × Int32 × Int32 × Int32 × Int32 × Int32 × Int32 × (Nat → Int32)}, zc N h (a + 0) (.inr (6, [.ref (zo w + (a + 1)), .int rd_filled, .ref (zo w + (a + 2)), .int rd_length, .int rd_at, .int rd_kind, .int rd_start, .int rd_value, .int rd_error, .int rd_errorAt, .int rd_hasThreshold, .int rd_hasRate])) → zc N h (a + 1) (.inl (w.2.2.1 2, 900, .inl rd_text)) → zc N h (a + 2) (.inr (5, [.int pr_day, .ref (zo w + (a + 3)), .ref (zo w + (a + 4)), .ref (zo w + pr_pricing), .ref (zo w + (a + 15)), .ref (zo w + (a + 21)), .ref (zo w + (a + 25)), .ref (zo w + (a + 31)), .ref (zo w + (a + 36))])) → zc N h (pr_pricing + 0) (.inr (4, [.int pg_threshold, .int pg_length, .ref (zo w + (pr_pricing + 2)), .ref (zo w + (pr_pricing + 1))])) → zc N h (pr_pricing + 2) (.inl (w.2.2.1 0, pg_clen, .inl pg_code)) → a + 37 ≤ pr_pricing → R 0 rd_length rd_at rd_kind rd_start rd_value rd_error rd_errorAt rd_text pg_length pg_clen pg_code p1 = some r → zM w yX6_readSum cX6_readSum 4 none (zrd d) false N N h [.ref (zo w + a), .int p1] (none) (zu (zu h pr_pricing [(0, .inr (4, [.int pg_threshold, .int r.2.2.2.2.2.2.1, .ref (zo w + (pr_pricing + 2)), .ref (zo w + (pr_pricing + 1))])), (2, .inl (w.2.2.1 0, pg_clen, .inl r.2.2.2.2.2.2.2))]) a [(0, .inr (6, [.ref (zo w + (a + 1)), .int rd_filled, .ref (zo w + (a + 2)), .int rd_length, .int r.1, .int r.2.1, .int r.2.2.1, .int r.2.2.2.1, .int r.2.2.2.2.1, .int r.2.2.2.2.2.1, .int rd_hasThreshold, .int rd_hasRate]))])) (hR1 : ∀ {h : zH} {a : Nat} {rd_filled : Int32} {rd_hasThreshold : Int32} {rd_hasRate : Int32} {rd_length : Int32} {rd_at : Int32} {rd_kind : Int32} {rd_start : Int32} {rd_value : Int32} {rd_error : Int32} {rd_errorAt : Int32} {rd_text : Nat → Int32} {pr_day : Int32} {pr_pricing : Nat} {pg_threshold : Int32} {pg_length : Int32} {pg_clen : Nat} {pg_code : Nat → Int32} {p1 : Int32} {r : Int32 × Int32 × Int32 × Int32 × Int32 × Int32 × Int32 × (Nat → Int32)}, zc N h (a + 0) (.inr (6, [.ref (zo w + (a + 1)), .int rd_filled, .ref (zo w + (a + 2)), .int rd_length, .int rd_at, .int rd_kind, .int rd_start, .int rd_value, .int rd_error, .int rd_errorAt, .int rd_hasThreshold, .int rd_hasRate])) → zc N h (a + 1) (.inl (w.2.2.1 2, 900, .inl rd_text)) → zc N h (a + 2) (.inr (5, [.int pr_day, .ref (zo w + (a + 3)), .ref (zo w + (a + 4)), .ref (zo w + pr_pricing), .ref (zo w + (a + 15)), .ref (zo w + (a + 21)), .ref (zo w + (a + 25)), .ref (zo w + (a + 31)), .ref (zo w + (a + 36))])) → zc N h (pr_pricing + 0) (.inr (4, [.int pg_threshold, .int pg_length, .ref (zo w + (pr_pricing + 2)), .ref (zo w + (pr_pricing + 1))])) → zc N h (pr_pricing + 2) (.inl (w.2.2.1 0, pg_clen, .inl pg_code)) → a + 37 ≤ pr_pricing → R 1 rd_length rd_at rd_kind rd_start rd_value rd_error rd_errorAt rd_text pg_length pg_clen pg_code p1 = some r → zM w yX6_readTerm cX6_readTerm 4 none (zrd d) false N N h [.ref (zo w + a), .int p1] (none) (zu (zu h pr_pricing [(0, .inr (4, [.int pg_threshold, .int r.2.2.2.2.2.2.1, .ref (zo w + (pr_pricing + 2)), .ref (zo w + (pr_pricing + 1))])), (2, .inl (w.2.2.1 0, pg_clen, .inl r.2.2.2.2.2.2.2))]) a [(0, .inr (6, [.ref (zo w + (a + 1)), .int rd_filled, .ref (zo w + (a + 2)), .int rd_length, .int r.1, .int r.2.1, .int r.2.2.1, .int r.2.2.2.1, .int r.2.2.2.2.1, .int r.2.2.2.2.2.1, .int rd_hasThreshold, .int rd_hasRate]))])) (hR2 : ∀ {h : zH} {a : Nat} {rd_filled : Int32} {rd_hasThreshold : Int32} {rd_hasRate : Int32} {rd_length : Int32} {rd_at : Int32} {rd_kind : Int32} {rd_start : Int32} {rd_value : Int32} {rd_error : Int32} {rd_errorAt : Int32} {rd_text : Nat → Int32} {pr_day : Int32} {pr_pricing : Nat} {pg_threshold : Int32} {pg_length : Int32} {pg_clen : Nat} {pg_code : Nat → Int32} {p1 : Int32} {r : Int32 × Int32 × Int32 × Int32 × Int32 × Int32 × Int32 × (Nat → Int32)}, zc N h (a + 0) (.inr (6, [.ref (zo w + (a + 1)), .int rd_filled, .ref (zo w + (a + 2)), .int rd_length, .int rd_at, .int rd_kind, .int rd_start, .int rd_value, .int rd_error, .int rd_errorAt, .int rd_hasThreshold, .int rd_hasRate])) → zc N h (a + 1) (.inl (w.2.2.1 2, 900, .inl rd_text)) → zc N h (a + 2) (.inr (5, [.int pr_day, .ref (zo w + (a + 3)), .ref (zo w + (a + 4)), .ref (zo w + pr_pricing), .ref (zo w + (a + 15)), .ref (zo w + (a + 21)), .ref (zo w + (a + 25)), .ref (zo w + (a + 31)), .ref (zo w + (a + 36))])) → zc N h (pr_pricing + 0) (.inr (4, [.int pg_threshold, .int pg_length, .ref (zo w + (pr_pricing + 2)), .ref (zo w + (pr_pricing + 1))])) → zc N h (pr_pricing + 2) (.inl (w.2.2.1 0, pg_clen, .inl pg_code)) → a + 37 ≤ pr_pricing → R 2 rd_length rd_at rd_kind rd_start rd_value rd_error rd_errorAt rd_text pg_length pg_clen pg_code p1 = some r → zM w yX6_readFactor cX6_readFactor 2 none (zrd d) false N N h [.ref (zo w + a), .int p1] (none) (zu (zu h pr_pricing [(0, .inr (4, [.int pg_threshold, .int r.2.2.2.2.2.2.1, .ref (zo w + (pr_pricing + 2)), .ref (zo w + (pr_pricing + 1))])), (2, .inl (w.2.2.1 0, pg_clen, .inl r.2.2.2.2.2.2.2))]) a [(0, .inr (6, [.ref (zo w + (a + 1)), .int rd_filled, .ref (zo w + (a + 2)), .int rd_length, .int r.1, .int r.2.1, .int r.2.2.1, .int r.2.2.2.1, .int r.2.2.2.2.1, .int r.2.2.2.2.2.1, .int rd_hasThreshold, .int rd_hasRate]))])) {r : Int32 × Int32 × Int32 × Int32 × Int32 × Int32 × Int32 × (Nat → Int32)} (n : Nat) : ∀ {rd_at : Int32} {rd_kind : Int32} {rd_start : Int32} {rd_value : Int32} {rd_error : Int32} {rd_errorAt : Int32} {pg_length : Int32} {pg_code : Nat → Int32} {x1 : Int32} {x2 : Int32}, f_X6_readSum_7 R  n rd_length rd_at rd_kind rd_start rd_value rd_error rd_errorAt rd_text pg_length pg_clen pg_code x1 x2 = some r → zZ X w (zQ X w (zrd (d + 1)) (none) false N (zu (zu h pr_pricing [(0, .inr (4, [.int pg_threshold, .int r.2.2.2.2.2.2.1, .ref (zo w + (pr_pricing + 2)), .ref (zo w + (pr_pricing + 1))])), (2, .inl (w.2.2.1 0, pg_clen, .inl r.2.2.2.2.2.2.2))]) a [(0, .inr (6, [.ref (zo w + (a + 1)), .int rd_filled, .ref (zo w + (a + 2)), .int rd_length, .int r.1, .int r.2.1, .int r.2.2.1, .int r.2.2.2.1, .int r.2.2.2.2.1, .int r.2.2.2.2.2.1, .int rd_hasThreshold, .int rd_hasRate]))])) 0 0 false N (zu (zu h pr_pricing [(0, .inr (4, [.int pg_threshold, .int pg_length, .ref (zo w + (pr_pricing + 2)), .ref (zo w + (pr_pricing + 1))])), (2, .inl (w.2.2.1 0, pg_clen, .inl pg_code))]) a [(0, .inr (6, [.ref (zo w + (a + 1)), .int rd_filled, .ref (zo w + (a + 2)), .int rd_length, .int rd_at, .int rd_kind, .int rd_start, .int rd_value, .int rd_error, .int rd_errorAt, .int rd_hasThreshold, .int rd_hasRate]))]) 7 [(0, .ref (zo w + a)), (1, .int x1), (2, .int x2)] [] := by
  induction n with
  | zero =>
    intro rd_at rd_kind rd_start rd_value rd_error rd_errorAt pg_length pg_code x1 x2 hf
    have hf : (none : Option (Int32 × Int32 × Int32 × Int32 × Int32 × Int32 × Int32 × (Nat → Int32))) = some r := hf
    cases hf
  | succ z ih =>
    intro rd_at rd_kind rd_start rd_value rd_error rd_errorAt pg_length pg_code x1 x2 hf
    rw [f_X6_readSum_7] at hf
    refine z_iload_n (pc' := 8) C 2 dX6_readSum_7 rfl rfl rfl ?_
    refine z_aload_n (pc' := 9) C 0 dX6_readSum_8 rfl rfl rfl ?_
    refine z_getf (pc' := 12) C zci_6 zw_279 (j := 3) rfl (zc_i (o := 0) n_a0 rfl) rfl rfl dX6_readSum_9 rfl ?_
    refine z_icmp_ge (pc' := 15) C 83 hf dX6_readSum_12 rfl rfl (fun g_12 hf => ?_) (fun g_12 hf => ?_)
    · cases hf
      exact z_vret C rfl rfl dX6_readSum_83
    · refine z_aload_n (pc' := 16) C 0 dX6_readSum_15 rfl rfl rfl ?_
      refine z_getf (pc' := 19) C zci_6 zw_284 (j := 8) rfl (zc_i (o := 0) n_a0 rfl) rfl rfl dX6_readSum_16 rfl ?_
      refine z_if_ne (pc' := 22) C 83 hf dX6_readSum_19 rfl rfl (fun g_19 hf => ?_) (fun g_19 hf => ?_)
      · cases hf
        exact z_vret C rfl rfl dX6_readSum_83
      · refine z_aload_n (pc' := 23) C 0 dX6_readSum_22 rfl rfl rfl ?_
        refine z_getf (pc' := 26) C zci_6 zw_281 (j := 5) rfl (zc_i (o := 0) n_a0 rfl) rfl rfl dX6_readSum_23 rfl ?_
        refine z_bipush (pc' := 28) C dX6_readSum_26 zk_bipush_43 rfl ?_
        refine z_icmp_eq (pc' := 31) C 40 hf dX6_readSum_28 rfl rfl (fun g_28 hf => ?_) (fun g_28 hf => ?_)
        · exact w_X6_readSum_40 C n_a0 h_a1 h_a2 n_pr_pricing0 n_pr_pricing2 far_a hR0 hR1 hR2 (fun hf => ih hf) hf
        · refine z_aload_n (pc' := 32) C 0 dX6_readSum_31 rfl rfl rfl ?_
          refine z_getf (pc' := 35) C zci_6 zw_281 (j := 5) rfl (zc_i (o := 0) n_a0 rfl) rfl rfl dX6_readSum_32 rfl ?_
          refine z_bipush (pc' := 37) C dX6_readSum_35 zk_bipush_45 rfl ?_
          refine z_icmp_ne (pc' := 40) C 83 hf dX6_readSum_37 rfl rfl (fun g_37 hf => ?_) (fun g_37 hf => ?_)
          · cases hf
            exact z_vret C rfl rfl dX6_readSum_83
          · exact w_X6_readSum_40 C n_a0 h_a1 h_a2 n_pr_pricing0 n_pr_pricing2 far_a hR0 hR1 hR2 (fun hf => ih hf) hf
set_option maxRecDepth 20000 in
theorem cb_X6_readSum {w : zV} {N : Nat} {h : zH} {a : Nat} {d : Nat} {R : Nat → Int32 → Int32 → Int32 → Int32 → Int32 → Int32 → Int32 → (Nat → Int32) → Int32 → Nat → (Nat → Int32) → Int32 → Option (Int32 × Int32 × Int32 × Int32 × Int32 × Int32 × Int32 × (Nat → Int32))} {rd_filled : Int32} {rd_hasThreshold : Int32} {rd_hasRate : Int32} {rd_length : Int32} {rd_at : Int32} {rd_kind : Int32} {rd_start : Int32} {rd_value : Int32} {rd_error : Int32} {rd_errorAt : Int32} {rd_text : Nat → Int32} {pr_day : Int32} {pr_pricing : Nat} {pg_threshold : Int32} {pg_length : Int32} {pg_clen : Nat} {pg_code : Nat → Int32} {p1 : Int32} (h_a0 : zc N h (a + 0) (.inr (6, [.ref (zo w + (a + 1)), .int rd_filled, .ref (zo w + (a + 2)), .int rd_length, .int rd_at, .int rd_kind, .int rd_start, .int rd_value, .int rd_error, .int rd_errorAt, .int rd_hasThreshold, .int rd_hasRate]))) (h_a1 : zc N h (a + 1) (.inl (w.2.2.1 2, 900, .inl rd_text))) (h_a2 : zc N h (a + 2) (.inr (5, [.int pr_day, .ref (zo w + (a + 3)), .ref (zo w + (a + 4)), .ref (zo w + pr_pricing), .ref (zo w + (a + 15)), .ref (zo w + (a + 21)), .ref (zo w + (a + 25)), .ref (zo w + (a + 31)), .ref (zo w + (a + 36))]))) (h_pr_pricing0 : zc N h (pr_pricing + 0) (.inr (4, [.int pg_threshold, .int pg_length, .ref (zo w + (pr_pricing + 2)), .ref (zo w + (pr_pricing + 1))]))) (h_pr_pricing2 : zc N h (pr_pricing + 2) (.inl (w.2.2.1 0, pg_clen, .inl pg_code))) (far_a : a + 37 ≤ pr_pricing) (hR0 : ∀ {h : zH} {a : Nat} {rd_filled : Int32} {rd_hasThreshold : Int32} {rd_hasRate : Int32} {rd_length : Int32} {rd_at : Int32} {rd_kind : Int32} {rd_start : Int32} {rd_value : Int32} {rd_error : Int32} {rd_errorAt : Int32} {rd_text : Nat → Int32} {pr_day : Int32} {pr_pricing : Nat} {pg_threshold : Int32} {pg_length : Int32} {pg_clen : Nat} {pg_code : Nat → Int32} {p1 : Int32} {r : Int32 × Int32 × Int32 × Int32 × Int32 × Int32 × Int32 × (Nat → Int32)}, zc N h (a + 0) (.inr (6, [.ref (zo w + (a + 1)), .int rd_filled, .ref (zo w + (a + 2)), .int rd_length, .int rd_at, .int rd_kind, .int rd_start, .int rd_value, .int rd_error, .int rd_errorAt, .int rd_hasThreshold, .int rd_hasRate])) → zc N h (a + 1) (.inl (w.2.2.1 2, 900, .inl rd_text)) → zc N h (a + 2) (.inr (5, [.int pr_day, .ref (zo w + (a + 3)), .ref (zo w + (a + 4)), .ref (zo w + pr_pricing), .ref (zo w + (a + 15)), .ref (zo w + (a + 21)), .ref (zo w + (a + 25)), .ref (zo w + (a + 31)), .ref (zo w + (a + 36))])) → zc N h (pr_pricing + 0) (.inr (4, [.int pg_threshold, .int pg_length, .ref (zo w + (pr_pricing + 2)), .ref (zo w + (pr_pricing + 1))])) → zc N h (pr_pricing + 2) (.inl (w.2.2.1 0, pg_clen, .inl pg_code)) → a + 37 ≤ pr_pricing → R 0 rd_length rd_at rd_kind rd_start rd_value rd_error rd_errorAt rd_text pg_length pg_clen pg_code p1 = some r → zM w yX6_readSum cX6_readSum 4 none (zrd d) false N N h [.ref (zo w + a), .int p1] (none) (zu (zu h pr_pricing [(0, .inr (4, [.int pg_threshold, .int r.2.2.2.2.2.2.1, .ref (zo w + (pr_pricing + 2)), .ref (zo w + (pr_pricing + 1))])), (2, .inl (w.2.2.1 0, pg_clen, .inl r.2.2.2.2.2.2.2))]) a [(0, .inr (6, [.ref (zo w + (a + 1)), .int rd_filled, .ref (zo w + (a + 2)), .int rd_length, .int r.1, .int r.2.1, .int r.2.2.1, .int r.2.2.2.1, .int r.2.2.2.2.1, .int r.2.2.2.2.2.1, .int rd_hasThreshold, .int rd_hasRate]))])) (hR1 : ∀ {h : zH} {a : Nat} {rd_filled : Int32} {rd_hasThreshold : Int32} {rd_hasRate : Int32} {rd_length : Int32} {rd_at : Int32} {rd_kind : Int32} {rd_start : Int32} {rd_value : Int32} {rd_error : Int32} {rd_errorAt : Int32} {rd_text : Nat → Int32} {pr_day : Int32} {pr_pricing : Nat} {pg_threshold : Int32} {pg_length : Int32} {pg_clen : Nat} {pg_code : Nat → Int32} {p1 : Int32} {r : Int32 × Int32 × Int32 × Int32 × Int32 × Int32 × Int32 × (Nat → Int32)}, zc N h (a + 0) (.inr (6, [.ref (zo w + (a + 1)), .int rd_filled, .ref (zo w + (a + 2)), .int rd_length, .int rd_at, .int rd_kind, .int rd_start, .int rd_value, .int rd_error, .int rd_errorAt, .int rd_hasThreshold, .int rd_hasRate])) → zc N h (a + 1) (.inl (w.2.2.1 2, 900, .inl rd_text)) → zc N h (a + 2) (.inr (5, [.int pr_day, .ref (zo w + (a + 3)), .ref (zo w + (a + 4)), .ref (zo w + pr_pricing), .ref (zo w + (a + 15)), .ref (zo w + (a + 21)), .ref (zo w + (a + 25)), .ref (zo w + (a + 31)), .ref (zo w + (a + 36))])) → zc N h (pr_pricing + 0) (.inr (4, [.int pg_threshold, .int pg_length, .ref (zo w + (pr_pricing + 2)), .ref (zo w + (pr_pricing + 1))])) → zc N h (pr_pricing + 2) (.inl (w.2.2.1 0, pg_clen, .inl pg_code)) → a + 37 ≤ pr_pricing → R 1 rd_length rd_at rd_kind rd_start rd_value rd_error rd_errorAt rd_text pg_length pg_clen pg_code p1 = some r → zM w yX6_readTerm cX6_readTerm 4 none (zrd d) false N N h [.ref (zo w + a), .int p1] (none) (zu (zu h pr_pricing [(0, .inr (4, [.int pg_threshold, .int r.2.2.2.2.2.2.1, .ref (zo w + (pr_pricing + 2)), .ref (zo w + (pr_pricing + 1))])), (2, .inl (w.2.2.1 0, pg_clen, .inl r.2.2.2.2.2.2.2))]) a [(0, .inr (6, [.ref (zo w + (a + 1)), .int rd_filled, .ref (zo w + (a + 2)), .int rd_length, .int r.1, .int r.2.1, .int r.2.2.1, .int r.2.2.2.1, .int r.2.2.2.2.1, .int r.2.2.2.2.2.1, .int rd_hasThreshold, .int rd_hasRate]))])) (hR2 : ∀ {h : zH} {a : Nat} {rd_filled : Int32} {rd_hasThreshold : Int32} {rd_hasRate : Int32} {rd_length : Int32} {rd_at : Int32} {rd_kind : Int32} {rd_start : Int32} {rd_value : Int32} {rd_error : Int32} {rd_errorAt : Int32} {rd_text : Nat → Int32} {pr_day : Int32} {pr_pricing : Nat} {pg_threshold : Int32} {pg_length : Int32} {pg_clen : Nat} {pg_code : Nat → Int32} {p1 : Int32} {r : Int32 × Int32 × Int32 × Int32 × Int32 × Int32 × Int32 × (Nat → Int32)}, zc N h (a + 0) (.inr (6, [.ref (zo w + (a + 1)), .int rd_filled, .ref (zo w + (a + 2)), .int rd_length, .int rd_at, .int rd_kind, .int rd_start, .int rd_value, .int rd_error, .int rd_errorAt, .int rd_hasThreshold, .int rd_hasRate])) → zc N h (a + 1) (.inl (w.2.2.1 2, 900, .inl rd_text)) → zc N h (a + 2) (.inr (5, [.int pr_day, .ref (zo w + (a + 3)), .ref (zo w + (a + 4)), .ref (zo w + pr_pricing), .ref (zo w + (a + 15)), .ref (zo w + (a + 21)), .ref (zo w + (a + 25)), .ref (zo w + (a + 31)), .ref (zo w + (a + 36))])) → zc N h (pr_pricing + 0) (.inr (4, [.int pg_threshold, .int pg_length, .ref (zo w + (pr_pricing + 2)), .ref (zo w + (pr_pricing + 1))])) → zc N h (pr_pricing + 2) (.inl (w.2.2.1 0, pg_clen, .inl pg_code)) → a + 37 ≤ pr_pricing → R 2 rd_length rd_at rd_kind rd_start rd_value rd_error rd_errorAt rd_text pg_length pg_clen pg_code p1 = some r → zM w yX6_readFactor cX6_readFactor 2 none (zrd d) false N N h [.ref (zo w + a), .int p1] (none) (zu (zu h pr_pricing [(0, .inr (4, [.int pg_threshold, .int r.2.2.2.2.2.2.1, .ref (zo w + (pr_pricing + 2)), .ref (zo w + (pr_pricing + 1))])), (2, .inl (w.2.2.1 0, pg_clen, .inl r.2.2.2.2.2.2.2))]) a [(0, .inr (6, [.ref (zo w + (a + 1)), .int rd_filled, .ref (zo w + (a + 2)), .int rd_length, .int r.1, .int r.2.1, .int r.2.2.1, .int r.2.2.2.1, .int r.2.2.2.2.1, .int r.2.2.2.2.2.1, .int rd_hasThreshold, .int rd_hasRate]))])) {r : Int32 × Int32 × Int32 × Int32 × Int32 × Int32 × Int32 × (Nat → Int32)} (hf : f_X6_readSum R rd_length rd_at rd_kind rd_start rd_value rd_error rd_errorAt rd_text pg_length pg_clen pg_code p1 = some r) : zM w yX6_readSum cX6_readSum 4 none (zrd (d + 1)) false N N h [.ref (zo w + a), .int p1] (none) (zu (zu h pr_pricing [(0, .inr (4, [.int pg_threshold, .int r.2.2.2.2.2.2.1, .ref (zo w + (pr_pricing + 2)), .ref (zo w + (pr_pricing + 1))])), (2, .inl (w.2.2.1 0, pg_clen, .inl r.2.2.2.2.2.2.2))]) a [(0, .inr (6, [.ref (zo w + (a + 1)), .int rd_filled, .ref (zo w + (a + 2)), .int rd_length, .int r.1, .int r.2.1, .int r.2.2.1, .int r.2.2.2.1, .int r.2.2.2.2.1, .int r.2.2.2.2.2.1, .int rd_hasThreshold, .int rd_hasRate]))]) := by
  unfold f_X6_readSum at hf
  refine zM_of (by decide) rfl (fun X C _ => ?_)
  refine z_eq (h' := (zu (zu h pr_pricing [(0, .inr (4, [.int pg_threshold, .int pg_length, .ref (zo w + (pr_pricing + 2)), .ref (zo w + (pr_pricing + 1))])), (2, .inl (w.2.2.1 0, pg_clen, .inl pg_code))]) a [(0, .inr (6, [.ref (zo w + (a + 1)), .int rd_filled, .ref (zo w + (a + 2)), .int rd_length, .int rd_at, .int rd_kind, .int rd_start, .int rd_value, .int rd_error, .int rd_errorAt, .int rd_hasThreshold, .int rd_hasRate]))])) ((congrArg (fun x => zu x a [(0, .inr (6, [.ref (zo w + (a + 1)), .int rd_filled, .ref (zo w + (a + 2)), .int rd_length, .int rd_at, .int rd_kind, .int rd_start, .int rd_value, .int rd_error, .int rd_errorAt, .int rd_hasThreshold, .int rd_hasRate]))]) (zu_s h_pr_pricing0 (zu_s h_pr_pricing2 zu_0))).trans (zu_s h_a0 zu_0)).symm ?_
  have n_a0 := h_a0.1
  have n_pr_pricing0 := h_pr_pricing0.1
  have n_pr_pricing2 := h_pr_pricing2.1
  refine z_pick (lv' := [(0, .ref (zo w + a)), (1, .int p1)]) [0, 1] rfl ?_
  refine z_aload_n (pc' := 1) C 0 dX6_readSum_0 rfl rfl rfl ?_
  refine z_iload_n (pc' := 2) C 1 dX6_readSum_1 rfl rfl rfl ?_
  refine z_cV (pc' := 5) C hf (As := [.int p1]) (fun hq => hR1 (a := a) (pr_pricing := pr_pricing) (zc_i (o := 0) n_a0 rfl) (zc_o (o := 1) (zc_f (m := 3) h_a1 (by omega) rfl) rfl) (zc_o (o := 2) (zc_f (m := 3) h_a2 (by omega) rfl) rfl) (zc_f (m := 37) (zc_i (o := 0) n_pr_pricing0 rfl) (by omega) rfl) (zc_f (m := 37) (zc_i (o := 2) n_pr_pricing2 rfl) (by omega) rfl) (by omega) hq) (fun q_2 => (zu (zu h pr_pricing [(0, .inr (4, [.int pg_threshold, .int q_2.2.2.2.2.2.2.1, .ref (zo w + (pr_pricing + 2)), .ref (zo w + (pr_pricing + 1))])), (2, .inl (w.2.2.1 0, pg_clen, .inl q_2.2.2.2.2.2.2.2))]) a [(0, .inr (6, [.ref (zo w + (a + 1)), .int rd_filled, .ref (zo w + (a + 2)), .int rd_length, .int q_2.1, .int q_2.2.1, .int q_2.2.2.1, .int q_2.2.2.2.1, .int q_2.2.2.2.2.1, .int q_2.2.2.2.2.2.1, .int rd_hasThreshold, .int rd_hasRate]))])) (fun q_2 => []) (fun _ => zu_shB (d := 0) (m := 37) (n := 3) rfl rfl (by omega) rfl rfl rfl rfl) (fun _ => rfl) zy_X6_readTerm zw_643 zw_645 zv_13 (ci := 6) rfl (zc_i (o := 0) n_a0 rfl) ⟨rfl, rfl⟩ zRm_r rfl rfl rfl rfl dX6_readSum_2 rfl (fun q_2 hf => ?_)
  refine z_iconst (pc' := 6) C dX6_readSum_5 zk_iconst_0 rfl ?_
  refine z_istore_n (pc' := 7) C [(2, .int (0 : Int32)), (0, .ref (zo w + a)), (1, .int p1)] dX6_readSum_6 rfl rfl rfl rfl ?_
  refine z_pick (lv' := [(0, .ref (zo w + a)), (1, .int p1), (2, .int (0 : Int32))]) [1, 2, 0] rfl ?_
  exact w_X6_readSum_7 C n_a0 h_a1 h_a2 n_pr_pricing0 n_pr_pricing2 far_a hR0 hR1 hR2  FU hf
set_option maxRecDepth 20000 in
theorem w_X6_readTerm_56 {X : zC} {w : zV} {N : Nat} {h : zH} {a : Nat} {d : Nat} {R : Nat → Int32 → Int32 → Int32 → Int32 → Int32 → Int32 → Int32 → (Nat → Int32) → Int32 → Nat → (Nat → Int32) → Int32 → Option (Int32 × Int32 × Int32 × Int32 × Int32 × Int32 × Int32 × (Nat → Int32))} {rd_filled : Int32} {rd_hasThreshold : Int32} {rd_hasRate : Int32} {rd_length : Int32} {rd_text : Nat → Int32} {pr_day : Int32} {pr_pricing : Nat} {pg_threshold : Int32} {pg_clen : Nat} (C : zK X w RX6 cX6_readTerm 4 none (zrd (d + 1))) (n_a0 : a + 0 < N) (h_a1 : zc N h (a + 1) (.inl (w.2.2.1 2, 900, .inl rd_text))) (h_a2 : zc N h (a + 2) (.inr (5, [.int pr_day, .ref (zo w + (a + 3)), .ref (zo w + (a + 4)), .ref (zo w + pr_pricing), .ref (zo w + (a + 15)), .ref (zo w + (a + 21)), .ref (zo w + (a + 25)), .ref (zo w + (a + 31)), .ref (zo w + (a + 36))]))) (n_pr_pricing0 : pr_pricing + 0 < N) (n_pr_pricing2 : pr_pricing + 2 < N) (far_a : a + 37 ≤ pr_pricing) (hR0 : ∀ {h : zH} {a : Nat} {rd_filled : Int32} {rd_hasThreshold : Int32} {rd_hasRate : Int32} {rd_length : Int32} {rd_at : Int32} {rd_kind : Int32} {rd_start : Int32} {rd_value : Int32} {rd_error : Int32} {rd_errorAt : Int32} {rd_text : Nat → Int32} {pr_day : Int32} {pr_pricing : Nat} {pg_threshold : Int32} {pg_length : Int32} {pg_clen : Nat} {pg_code : Nat → Int32} {p1 : Int32} {r : Int32 × Int32 × Int32 × Int32 × Int32 × Int32 × Int32 × (Nat → Int32)}, zc N h (a + 0) (.inr (6, [.ref (zo w + (a + 1)), .int rd_filled, .ref (zo w + (a + 2)), .int rd_length, .int rd_at, .int rd_kind, .int rd_start, .int rd_value, .int rd_error, .int rd_errorAt, .int rd_hasThreshold, .int rd_hasRate])) → zc N h (a + 1) (.inl (w.2.2.1 2, 900, .inl rd_text)) → zc N h (a + 2) (.inr (5, [.int pr_day, .ref (zo w + (a + 3)), .ref (zo w + (a + 4)), .ref (zo w + pr_pricing), .ref (zo w + (a + 15)), .ref (zo w + (a + 21)), .ref (zo w + (a + 25)), .ref (zo w + (a + 31)), .ref (zo w + (a + 36))])) → zc N h (pr_pricing + 0) (.inr (4, [.int pg_threshold, .int pg_length, .ref (zo w + (pr_pricing + 2)), .ref (zo w + (pr_pricing + 1))])) → zc N h (pr_pricing + 2) (.inl (w.2.2.1 0, pg_clen, .inl pg_code)) → a + 37 ≤ pr_pricing → R 0 rd_length rd_at rd_kind rd_start rd_value rd_error rd_errorAt rd_text pg_length pg_clen pg_code p1 = some r → zM w yX6_readSum cX6_readSum 4 none (zrd d) false N N h [.ref (zo w + a), .int p1] (none) (zu (zu h pr_pricing [(0, .inr (4, [.int pg_threshold, .int r.2.2.2.2.2.2.1, .ref (zo w + (pr_pricing + 2)), .ref (zo w + (pr_pricing + 1))])), (2, .inl (w.2.2.1 0, pg_clen, .inl r.2.2.2.2.2.2.2))]) a [(0, .inr (6, [.ref (zo w + (a + 1)), .int rd_filled, .ref (zo w + (a + 2)), .int rd_length, .int r.1, .int r.2.1, .int r.2.2.1, .int r.2.2.2.1, .int r.2.2.2.2.1, .int r.2.2.2.2.2.1, .int rd_hasThreshold, .int rd_hasRate]))])) (hR1 : ∀ {h : zH} {a : Nat} {rd_filled : Int32} {rd_hasThreshold : Int32} {rd_hasRate : Int32} {rd_length : Int32} {rd_at : Int32} {rd_kind : Int32} {rd_start : Int32} {rd_value : Int32} {rd_error : Int32} {rd_errorAt : Int32} {rd_text : Nat → Int32} {pr_day : Int32} {pr_pricing : Nat} {pg_threshold : Int32} {pg_length : Int32} {pg_clen : Nat} {pg_code : Nat → Int32} {p1 : Int32} {r : Int32 × Int32 × Int32 × Int32 × Int32 × Int32 × Int32 × (Nat → Int32)}, zc N h (a + 0) (.inr (6, [.ref (zo w + (a + 1)), .int rd_filled, .ref (zo w + (a + 2)), .int rd_length, .int rd_at, .int rd_kind, .int rd_start, .int rd_value, .int rd_error, .int rd_errorAt, .int rd_hasThreshold, .int rd_hasRate])) → zc N h (a + 1) (.inl (w.2.2.1 2, 900, .inl rd_text)) → zc N h (a + 2) (.inr (5, [.int pr_day, .ref (zo w + (a + 3)), .ref (zo w + (a + 4)), .ref (zo w + pr_pricing), .ref (zo w + (a + 15)), .ref (zo w + (a + 21)), .ref (zo w + (a + 25)), .ref (zo w + (a + 31)), .ref (zo w + (a + 36))])) → zc N h (pr_pricing + 0) (.inr (4, [.int pg_threshold, .int pg_length, .ref (zo w + (pr_pricing + 2)), .ref (zo w + (pr_pricing + 1))])) → zc N h (pr_pricing + 2) (.inl (w.2.2.1 0, pg_clen, .inl pg_code)) → a + 37 ≤ pr_pricing → R 1 rd_length rd_at rd_kind rd_start rd_value rd_error rd_errorAt rd_text pg_length pg_clen pg_code p1 = some r → zM w yX6_readTerm cX6_readTerm 4 none (zrd d) false N N h [.ref (zo w + a), .int p1] (none) (zu (zu h pr_pricing [(0, .inr (4, [.int pg_threshold, .int r.2.2.2.2.2.2.1, .ref (zo w + (pr_pricing + 2)), .ref (zo w + (pr_pricing + 1))])), (2, .inl (w.2.2.1 0, pg_clen, .inl r.2.2.2.2.2.2.2))]) a [(0, .inr (6, [.ref (zo w + (a + 1)), .int rd_filled, .ref (zo w + (a + 2)), .int rd_length, .int r.1, .int r.2.1, .int r.2.2.1, .int r.2.2.2.1, .int r.2.2.2.2.1, .int r.2.2.2.2.2.1, .int rd_hasThreshold, .int rd_hasRate]))])) (hR2 : ∀ {h : zH} {a : Nat} {rd_filled : Int32} {rd_hasThreshold : Int32} {rd_hasRate : Int32} {rd_length : Int32} {rd_at : Int32} {rd_kind : Int32} {rd_start : Int32} {rd_value : Int32} {rd_error : Int32} {rd_errorAt : Int32} {rd_text : Nat → Int32} {pr_day : Int32} {pr_pricing : Nat} {pg_threshold : Int32} {pg_length : Int32} {pg_clen : Nat} {pg_code : Nat → Int32} {p1 : Int32} {r : Int32 × Int32 × Int32 × Int32 × Int32 × Int32 × Int32 × (Nat → Int32)}, zc N h (a + 0) (.inr (6, [.ref (zo w + (a + 1)), .int rd_filled, .ref (zo w + (a + 2)), .int rd_length, .int rd_at, .int rd_kind, .int rd_start, .int rd_value, .int rd_error, .int rd_errorAt, .int rd_hasThreshold, .int rd_hasRate])) → zc N h (a + 1) (.inl (w.2.2.1 2, 900, .inl rd_text)) → zc N h (a + 2) (.inr (5, [.int pr_day, .ref (zo w + (a + 3)), .ref (zo w + (a + 4)), .ref (zo w + pr_pricing), .ref (zo w + (a + 15)), .ref (zo w + (a + 21)), .ref (zo w + (a + 25)), .ref (zo w + (a + 31)), .ref (zo w + (a + 36))])) → zc N h (pr_pricing + 0) (.inr (4, [.int pg_threshold, .int pg_length, .ref (zo w + (pr_pricing + 2)), .ref (zo w + (pr_pricing + 1))])) → zc N h (pr_pricing + 2) (.inl (w.2.2.1 0, pg_clen, .inl pg_code)) → a + 37 ≤ pr_pricing → R 2 rd_length rd_at rd_kind rd_start rd_value rd_error rd_errorAt rd_text pg_length pg_clen pg_code p1 = some r → zM w yX6_readFactor cX6_readFactor 2 none (zrd d) false N N h [.ref (zo w + a), .int p1] (none) (zu (zu h pr_pricing [(0, .inr (4, [.int pg_threshold, .int r.2.2.2.2.2.2.1, .ref (zo w + (pr_pricing + 2)), .ref (zo w + (pr_pricing + 1))])), (2, .inl (w.2.2.1 0, pg_clen, .inl r.2.2.2.2.2.2.2))]) a [(0, .inr (6, [.ref (zo w + (a + 1)), .int rd_filled, .ref (zo w + (a + 2)), .int rd_length, .int r.1, .int r.2.1, .int r.2.2.1, .int r.2.2.2.1, .int r.2.2.2.2.1, .int r.2.2.2.2.2.1, .int rd_hasThreshold, .int rd_hasRate]))])) {r : Int32 × Int32 × Int32 × Int32 × Int32 × Int32 × Int32 × (Nat → Int32)} {k7 : Int32 → Int32 → Int32 → Int32 → Int32 → Int32 → Int32 → (Nat → Int32) → Int32 → Nat → (Nat → Int32) → Int32 → Int32 → Option (Int32 × Int32 × Int32 × Int32 × Int32 × Int32 × Int32 × (Nat → Int32))} (hk7 : ∀ {rd_at : Int32} {rd_kind : Int32} {rd_start : Int32} {rd_value : Int32} {rd_error : Int32} {rd_errorAt : Int32} {pg_length : Int32} {pg_code : Nat → Int32} {x1 : Int32} {x2 : Int32}, k7 rd_length rd_at rd_kind rd_start rd_value rd_error rd_errorAt rd_text pg_length pg_clen pg_code x1 x2 = some r → zZ X w (zQ X w (zrd (d + 1)) (none) false N (zu (zu h pr_pricing [(0, .inr (4, [.int pg_threshold, .int r.2.2.2.2.2.2.1, .ref (zo w + (pr_pricing + 2)), .ref (zo w + (pr_pricing + 1))])), (2, .inl (w.2.2.1 0, pg_clen, .inl r.2.2.2.2.2.2.2))]) a [(0, .inr (6, [.ref (zo w + (a + 1)), .int rd_filled, .ref (zo w + (a + 2)), .int rd_length, .int r.1, .int r.2.1, .int r.2.2.1, .int r.2.2.2.1, .int r.2.2.2.2.1, .int r.2.2.2.2.2.1, .int rd_hasThreshold, .int rd_hasRate]))])) 0 0 false N (zu (zu h pr_pricing [(0, .inr (4, [.int pg_threshold, .int pg_length, .ref (zo w + (pr_pricing + 2)), .ref (zo w + (pr_pricing + 1))])), (2, .inl (w.2.2.1 0, pg_clen, .inl pg_code))]) a [(0, .inr (6, [.ref (zo w + (a + 1)), .int rd_filled, .ref (zo w + (a + 2)), .int rd_length, .int rd_at, .int rd_kind, .int rd_start, .int rd_value, .int rd_error, .int rd_errorAt, .int rd_hasThreshold, .int rd_hasRate]))]) 7 [(0, .ref (zo w + a)), (1, .int x1), (2, .int x2)] []) {rd_at : Int32} {rd_kind : Int32} {rd_start : Int32} {rd_value : Int32} {rd_error : Int32} {rd_errorAt : Int32} {pg_length : Int32} {pg_code : Nat → Int32} {x1 : Int32} {x2 : Int32} {s0 : Int32} (hf : f_X6_readTerm_56 R k7 rd_length rd_at rd_kind rd_start rd_value rd_error rd_errorAt rd_text pg_length pg_clen pg_code x1 x2 s0 = some r) : zZ X w (zQ X w (zrd (d + 1)) (none) false N (zu (zu h pr_pricing [(0, .inr (4, [.int pg_threshold, .int r.2.2.2.2.2.2.1, .ref (zo w + (pr_pricing + 2)), .ref (zo w + (pr_pricing + 1))])), (2, .inl (w.2.2.1 0, pg_clen, .inl r.2.2.2.2.2.2.2))]) a [(0, .inr (6, [.ref (zo w + (a + 1)), .int rd_filled, .ref (zo w + (a + 2)), .int rd_length, .int r.1, .int r.2.1, .int r.2.2.1, .int r.2.2.2.1, .int r.2.2.2.2.1, .int r.2.2.2.2.2.1, .int rd_hasThreshold, .int rd_hasRate]))])) 0 0 false N (zu (zu h pr_pricing [(0, .inr (4, [.int pg_threshold, .int pg_length, .ref (zo w + (pr_pricing + 2)), .ref (zo w + (pr_pricing + 1))])), (2, .inl (w.2.2.1 0, pg_clen, .inl pg_code))]) a [(0, .inr (6, [.ref (zo w + (a + 1)), .int rd_filled, .ref (zo w + (a + 2)), .int rd_length, .int rd_at, .int rd_kind, .int rd_start, .int rd_value, .int rd_error, .int rd_errorAt, .int rd_hasThreshold, .int rd_hasRate]))]) 56 [(0, .ref (zo w + a)), (1, .int x1), (2, .int x2)] [.int s0] := by
  unfold f_X6_readTerm_56 at hf
  refine z_istore_n (pc' := 57) C [(3, .int s0), (0, .ref (zo w + a)), (1, .int x1), (2, .int x2)] dX6_readTerm_56 rfl rfl rfl rfl ?_
  refine z_aload_n (pc' := 58) C 1 dX6_readTerm_57 rfl rfl rfl ?_
  refine z_cV (pc' := 61) C hf (As := []) (fun hq => c_X6_advance (a := a) (zc_i (o := 0) n_a0 rfl) (zc_o (o := 1) (zc_f (m := 3) h_a1 (by omega) rfl) rfl) hq) (fun q_58 => (zu (zu h pr_pricing [(0, .inr (4, [.int pg_threshold, .int pg_length, .ref (zo w + (pr_pricing + 2)), .ref (zo w + (pr_pricing + 1))])), (2, .inl (w.2.2.1 0, pg_clen, .inl pg_code))]) a [(0, .inr (6, [.ref (zo w + (a + 1)), .int rd_filled, .ref (zo w + (a + 2)), .int rd_length, .int q_58.1, .int q_58.2.1, .int q_58.2.2.1, .int q_58.2.2.2, .int rd_error, .int rd_errorAt, .int rd_hasThreshold, .int rd_hasRate]))])) (fun q_58 => []) (fun _ => zu_sh (d := 0) rfl rfl) (fun _ => rfl) zy_X6_advance zw_533 zw_535 zv_2 (ci := 6) rfl (zc_i (o := 0) n_a0 rfl) ⟨rfl, rfl⟩ (zRm_c rfl) rfl rfl rfl rfl dX6_readTerm_58 rfl (fun q_58 hf => ?_)
  refine z_aload_n (pc' := 62) C 1 dX6_readTerm_61 rfl rfl rfl ?_
  refine z_iload_n (pc' := 63) C 2 dX6_readTerm_62 rfl rfl rfl ?_
  refine z_cV (pc' := 66) C hf (As := [.int x1]) (fun hq => hR2 (a := a) (pr_pricing := pr_pricing) (zc_i (o := 0) n_a0 rfl) (zc_o (o := 1) (zc_f (m := 3) h_a1 (by omega) rfl) rfl) (zc_o (o := 2) (zc_f (m := 3) h_a2 (by omega) rfl) rfl) (zc_f (m := 37) (zc_i (o := 0) n_pr_pricing0 rfl) (by omega) rfl) (zc_f (m := 37) (zc_i (o := 2) n_pr_pricing2 rfl) (by omega) rfl) (by omega) hq) (fun q_63 => (zu (zu h pr_pricing [(0, .inr (4, [.int pg_threshold, .int q_63.2.2.2.2.2.2.1, .ref (zo w + (pr_pricing + 2)), .ref (zo w + (pr_pricing + 1))])), (2, .inl (w.2.2.1 0, pg_clen, .inl q_63.2.2.2.2.2.2.2))]) a [(0, .inr (6, [.ref (zo w + (a + 1)), .int rd_filled, .ref (zo w + (a + 2)), .int rd_length, .int q_63.1, .int q_63.2.1, .int q_63.2.2.1, .int q_63.2.2.2.1, .int q_63.2.2.2.2.1, .int q_63.2.2.2.2.2.1, .int rd_hasThreshold, .int rd_hasRate]))])) (fun q_63 => []) (fun _ => zu_shB (d := 0) (m := 37) (n := 3) rfl rfl (by omega) rfl rfl rfl rfl) (fun _ => rfl) zy_X6_readFactor zw_647 zw_649 zv_14 (ci := 6) rfl (zc_i (o := 0) n_a0 rfl) ⟨rfl, rfl⟩ zRm_r rfl rfl rfl rfl dX6_readTerm_63 rfl (fun q_63 hf => ?_)
  refine z_aload_n (pc' := 67) C 1 dX6_readTerm_66 rfl rfl rfl ?_
  refine z_getf (pc' := 70) C zci_6 zw_277 (j := 2) rfl (zc_i (o := 0) n_a0 rfl) rfl rfl dX6_readTerm_67 rfl ?_
  refine z_getf (pc' := 73) C zci_5 zw_243 (j := 3) rfl (zc_o (o := 2) (zc_f (m := 3) h_a2 (by omega) rfl) rfl) rfl rfl dX6_readTerm_70 rfl ?_
  refine z_iload_n (pc' := 74) C 0 dX6_readTerm_73 rfl rfl rfl ?_
  refine z_cV (pc' := 77) C hf (As := [.int s0]) (fun hq => c_X4_add (a := pr_pricing) (zc_f (m := 37) (zc_i (o := 0) n_pr_pricing0 rfl) (by omega) rfl) (zc_f (m := 37) (zc_i (o := 2) n_pr_pricing2 rfl) (by omega) rfl) hq) (fun q_74 => (zu (zu h pr_pricing [(0, .inr (4, [.int pg_threshold, .int q_74.1, .ref (zo w + (pr_pricing + 2)), .ref (zo w + (pr_pricing + 1))])), (2, .inl (w.2.2.1 0, pg_clen, .inl q_74.2))]) a [(0, .inr (6, [.ref (zo w + (a + 1)), .int rd_filled, .ref (zo w + (a + 2)), .int rd_length, .int q_63.1, .int q_63.2.1, .int q_63.2.2.1, .int q_63.2.2.2.1, .int q_63.2.2.2.2.1, .int q_63.2.2.2.2.2.1, .int rd_hasThreshold, .int rd_hasRate]))])) (fun q_74 => []) (fun _ => zu_shG (m := 37) (n := 3) rfl rfl (by omega) rfl rfl) (fun _ => rfl) zy_X4_add zw_656 zw_657 zw_658 (ci := 4) rfl (zc_f (m := 37) (zc_i (o := 0) n_pr_pricing0 rfl) (by omega) rfl) ⟨rfl, rfl⟩ (zRm_c rfl) rfl rfl rfl rfl dX6_readTerm_74 rfl (fun q_74 hf => ?_)
  refine z_iinc (pc' := 80) C 3 [(2, .int (x2 + (1 : Int32))), (3, .int s0), (0, .ref (zo w + a)), (1, .int x1)] dX6_readTerm_77 rfl zk_iconst_1 rfl rfl rfl ?_
  refine z_goto C 7 dX6_readTerm_80 rfl ?_
  refine z_pick (lv' := [(0, .ref (zo w + a)), (1, .int x1), (2, .int (x2 + (1 : Int32)))]) [2, 3, 0] rfl ?_
  exact hk7 hf
set_option maxRecDepth 20000 in
theorem w_X6_readTerm_40 {X : zC} {w : zV} {N : Nat} {h : zH} {a : Nat} {d : Nat} {R : Nat → Int32 → Int32 → Int32 → Int32 → Int32 → Int32 → Int32 → (Nat → Int32) → Int32 → Nat → (Nat → Int32) → Int32 → Option (Int32 × Int32 × Int32 × Int32 × Int32 × Int32 × Int32 × (Nat → Int32))} {rd_filled : Int32} {rd_hasThreshold : Int32} {rd_hasRate : Int32} {rd_length : Int32} {rd_text : Nat → Int32} {pr_day : Int32} {pr_pricing : Nat} {pg_threshold : Int32} {pg_clen : Nat} (C : zK X w RX6 cX6_readTerm 4 none (zrd (d + 1))) (n_a0 : a + 0 < N) (h_a1 : zc N h (a + 1) (.inl (w.2.2.1 2, 900, .inl rd_text))) (h_a2 : zc N h (a + 2) (.inr (5, [.int pr_day, .ref (zo w + (a + 3)), .ref (zo w + (a + 4)), .ref (zo w + pr_pricing), .ref (zo w + (a + 15)), .ref (zo w + (a + 21)), .ref (zo w + (a + 25)), .ref (zo w + (a + 31)), .ref (zo w + (a + 36))]))) (n_pr_pricing0 : pr_pricing + 0 < N) (n_pr_pricing2 : pr_pricing + 2 < N) (far_a : a + 37 ≤ pr_pricing) (hR0 : ∀ {h : zH} {a : Nat} {rd_filled : Int32} {rd_hasThreshold : Int32} {rd_hasRate : Int32} {rd_length : Int32} {rd_at : Int32} {rd_kind : Int32} {rd_start : Int32} {rd_value : Int32} {rd_error : Int32} {rd_errorAt : Int32} {rd_text : Nat → Int32} {pr_day : Int32} {pr_pricing : Nat} {pg_threshold : Int32} {pg_length : Int32} {pg_clen : Nat} {pg_code : Nat → Int32} {p1 : Int32} {r : Int32 × Int32 × Int32 × Int32 × Int32 × Int32 × Int32 × (Nat → Int32)}, zc N h (a + 0) (.inr (6, [.ref (zo w + (a + 1)), .int rd_filled, .ref (zo w + (a + 2)), .int rd_length, .int rd_at, .int rd_kind, .int rd_start, .int rd_value, .int rd_error, .int rd_errorAt, .int rd_hasThreshold, .int rd_hasRate])) → zc N h (a + 1) (.inl (w.2.2.1 2, 900, .inl rd_text)) → zc N h (a + 2) (.inr (5, [.int pr_day, .ref (zo w + (a + 3)), .ref (zo w + (a + 4)), .ref (zo w + pr_pricing), .ref (zo w + (a + 15)), .ref (zo w + (a + 21)), .ref (zo w + (a + 25)), .ref (zo w + (a + 31)), .ref (zo w + (a + 36))])) → zc N h (pr_pricing + 0) (.inr (4, [.int pg_threshold, .int pg_length, .ref (zo w + (pr_pricing + 2)), .ref (zo w + (pr_pricing + 1))])) → zc N h (pr_pricing + 2) (.inl (w.2.2.1 0, pg_clen, .inl pg_code)) → a + 37 ≤ pr_pricing → R 0 rd_length rd_at rd_kind rd_start rd_value rd_error rd_errorAt rd_text pg_length pg_clen pg_code p1 = some r → zM w yX6_readSum cX6_readSum 4 none (zrd d) false N N h [.ref (zo w + a), .int p1] (none) (zu (zu h pr_pricing [(0, .inr (4, [.int pg_threshold, .int r.2.2.2.2.2.2.1, .ref (zo w + (pr_pricing + 2)), .ref (zo w + (pr_pricing + 1))])), (2, .inl (w.2.2.1 0, pg_clen, .inl r.2.2.2.2.2.2.2))]) a [(0, .inr (6, [.ref (zo w + (a + 1)), .int rd_filled, .ref (zo w + (a + 2)), .int rd_length, .int r.1, .int r.2.1, .int r.2.2.1, .int r.2.2.2.1, .int r.2.2.2.2.1, .int r.2.2.2.2.2.1, .int rd_hasThreshold, .int rd_hasRate]))])) (hR1 : ∀ {h : zH} {a : Nat} {rd_filled : Int32} {rd_hasThreshold : Int32} {rd_hasRate : Int32} {rd_length : Int32} {rd_at : Int32} {rd_kind : Int32} {rd_start : Int32} {rd_value : Int32} {rd_error : Int32} {rd_errorAt : Int32} {rd_text : Nat → Int32} {pr_day : Int32} {pr_pricing : Nat} {pg_threshold : Int32} {pg_length : Int32} {pg_clen : Nat} {pg_code : Nat → Int32} {p1 : Int32} {r : Int32 × Int32 × Int32 × Int32 × Int32 × Int32 × Int32 × (Nat → Int32)}, zc N h (a + 0) (.inr (6, [.ref (zo w + (a + 1)), .int rd_filled, .ref (zo w + (a + 2)), .int rd_length, .int rd_at, .int rd_kind, .int rd_start, .int rd_value, .int rd_error, .int rd_errorAt, .int rd_hasThreshold, .int rd_hasRate])) → zc N h (a + 1) (.inl (w.2.2.1 2, 900, .inl rd_text)) → zc N h (a + 2) (.inr (5, [.int pr_day, .ref (zo w + (a + 3)), .ref (zo w + (a + 4)), .ref (zo w + pr_pricing), .ref (zo w + (a + 15)), .ref (zo w + (a + 21)), .ref (zo w + (a + 25)), .ref (zo w + (a + 31)), .ref (zo w + (a + 36))])) → zc N h (pr_pricing + 0) (.inr (4, [.int pg_threshold, .int pg_length, .ref (zo w + (pr_pricing + 2)), .ref (zo w + (pr_pricing + 1))])) → zc N h (pr_pricing + 2) (.inl (w.2.2.1 0, pg_clen, .inl pg_code)) → a + 37 ≤ pr_pricing → R 1 rd_length rd_at rd_kind rd_start rd_value rd_error rd_errorAt rd_text pg_length pg_clen pg_code p1 = some r → zM w yX6_readTerm cX6_readTerm 4 none (zrd d) false N N h [.ref (zo w + a), .int p1] (none) (zu (zu h pr_pricing [(0, .inr (4, [.int pg_threshold, .int r.2.2.2.2.2.2.1, .ref (zo w + (pr_pricing + 2)), .ref (zo w + (pr_pricing + 1))])), (2, .inl (w.2.2.1 0, pg_clen, .inl r.2.2.2.2.2.2.2))]) a [(0, .inr (6, [.ref (zo w + (a + 1)), .int rd_filled, .ref (zo w + (a + 2)), .int rd_length, .int r.1, .int r.2.1, .int r.2.2.1, .int r.2.2.2.1, .int r.2.2.2.2.1, .int r.2.2.2.2.2.1, .int rd_hasThreshold, .int rd_hasRate]))])) (hR2 : ∀ {h : zH} {a : Nat} {rd_filled : Int32} {rd_hasThreshold : Int32} {rd_hasRate : Int32} {rd_length : Int32} {rd_at : Int32} {rd_kind : Int32} {rd_start : Int32} {rd_value : Int32} {rd_error : Int32} {rd_errorAt : Int32} {rd_text : Nat → Int32} {pr_day : Int32} {pr_pricing : Nat} {pg_threshold : Int32} {pg_length : Int32} {pg_clen : Nat} {pg_code : Nat → Int32} {p1 : Int32} {r : Int32 × Int32 × Int32 × Int32 × Int32 × Int32 × Int32 × (Nat → Int32)}, zc N h (a + 0) (.inr (6, [.ref (zo w + (a + 1)), .int rd_filled, .ref (zo w + (a + 2)), .int rd_length, .int rd_at, .int rd_kind, .int rd_start, .int rd_value, .int rd_error, .int rd_errorAt, .int rd_hasThreshold, .int rd_hasRate])) → zc N h (a + 1) (.inl (w.2.2.1 2, 900, .inl rd_text)) → zc N h (a + 2) (.inr (5, [.int pr_day, .ref (zo w + (a + 3)), .ref (zo w + (a + 4)), .ref (zo w + pr_pricing), .ref (zo w + (a + 15)), .ref (zo w + (a + 21)), .ref (zo w + (a + 25)), .ref (zo w + (a + 31)), .ref (zo w + (a + 36))])) → zc N h (pr_pricing + 0) (.inr (4, [.int pg_threshold, .int pg_length, .ref (zo w + (pr_pricing + 2)), .ref (zo w + (pr_pricing + 1))])) → zc N h (pr_pricing + 2) (.inl (w.2.2.1 0, pg_clen, .inl pg_code)) → a + 37 ≤ pr_pricing → R 2 rd_length rd_at rd_kind rd_start rd_value rd_error rd_errorAt rd_text pg_length pg_clen pg_code p1 = some r → zM w yX6_readFactor cX6_readFactor 2 none (zrd d) false N N h [.ref (zo w + a), .int p1] (none) (zu (zu h pr_pricing [(0, .inr (4, [.int pg_threshold, .int r.2.2.2.2.2.2.1, .ref (zo w + (pr_pricing + 2)), .ref (zo w + (pr_pricing + 1))])), (2, .inl (w.2.2.1 0, pg_clen, .inl r.2.2.2.2.2.2.2))]) a [(0, .inr (6, [.ref (zo w + (a + 1)), .int rd_filled, .ref (zo w + (a + 2)), .int rd_length, .int r.1, .int r.2.1, .int r.2.2.1, .int r.2.2.2.1, .int r.2.2.2.2.1, .int r.2.2.2.2.2.1, .int rd_hasThreshold, .int rd_hasRate]))])) {r : Int32 × Int32 × Int32 × Int32 × Int32 × Int32 × Int32 × (Nat → Int32)} {k7 : Int32 → Int32 → Int32 → Int32 → Int32 → Int32 → Int32 → (Nat → Int32) → Int32 → Nat → (Nat → Int32) → Int32 → Int32 → Option (Int32 × Int32 × Int32 × Int32 × Int32 × Int32 × Int32 × (Nat → Int32))} (hk7 : ∀ {rd_at : Int32} {rd_kind : Int32} {rd_start : Int32} {rd_value : Int32} {rd_error : Int32} {rd_errorAt : Int32} {pg_length : Int32} {pg_code : Nat → Int32} {x1 : Int32} {x2 : Int32}, k7 rd_length rd_at rd_kind rd_start rd_value rd_error rd_errorAt rd_text pg_length pg_clen pg_code x1 x2 = some r → zZ X w (zQ X w (zrd (d + 1)) (none) false N (zu (zu h pr_pricing [(0, .inr (4, [.int pg_threshold, .int r.2.2.2.2.2.2.1, .ref (zo w + (pr_pricing + 2)), .ref (zo w + (pr_pricing + 1))])), (2, .inl (w.2.2.1 0, pg_clen, .inl r.2.2.2.2.2.2.2))]) a [(0, .inr (6, [.ref (zo w + (a + 1)), .int rd_filled, .ref (zo w + (a + 2)), .int rd_length, .int r.1, .int r.2.1, .int r.2.2.1, .int r.2.2.2.1, .int r.2.2.2.2.1, .int r.2.2.2.2.2.1, .int rd_hasThreshold, .int rd_hasRate]))])) 0 0 false N (zu (zu h pr_pricing [(0, .inr (4, [.int pg_threshold, .int pg_length, .ref (zo w + (pr_pricing + 2)), .ref (zo w + (pr_pricing + 1))])), (2, .inl (w.2.2.1 0, pg_clen, .inl pg_code))]) a [(0, .inr (6, [.ref (zo w + (a + 1)), .int rd_filled, .ref (zo w + (a + 2)), .int rd_length, .int rd_at, .int rd_kind, .int rd_start, .int rd_value, .int rd_error, .int rd_errorAt, .int rd_hasThreshold, .int rd_hasRate]))]) 7 [(0, .ref (zo w + a)), (1, .int x1), (2, .int x2)] []) {rd_at : Int32} {rd_kind : Int32} {rd_start : Int32} {rd_value : Int32} {rd_error : Int32} {rd_errorAt : Int32} {pg_length : Int32} {pg_code : Nat → Int32} {x1 : Int32} {x2 : Int32} (hf : f_X6_readTerm_40 R k7 rd_length rd_at rd_kind rd_start rd_value rd_error rd_errorAt rd_text pg_length pg_clen pg_code x1 x2 = some r) : zZ X w (zQ X w (zrd (d + 1)) (none) false N (zu (zu h pr_pricing [(0, .inr (4, [.int pg_threshold, .int r.2.2.2.2.2.2.1, .ref (zo w + (pr_pricing + 2)), .ref (zo w + (pr_pricing + 1))])), (2, .inl (w.2.2.1 0, pg_clen, .inl r.2.2.2.2.2.2.2))]) a [(0, .inr (6, [.ref (zo w + (a + 1)), .int rd_filled, .ref (zo w + (a + 2)), .int rd_length, .int r.1, .int r.2.1, .int r.2.2.1, .int r.2.2.2.1, .int r.2.2.2.2.1, .int r.2.2.2.2.2.1, .int rd_hasThreshold, .int rd_hasRate]))])) 0 0 false N (zu (zu h pr_pricing [(0, .inr (4, [.int pg_threshold, .int pg_length, .ref (zo w + (pr_pricing + 2)), .ref (zo w + (pr_pricing + 1))])), (2, .inl (w.2.2.1 0, pg_clen, .inl pg_code))]) a [(0, .inr (6, [.ref (zo w + (a + 1)), .int rd_filled, .ref (zo w + (a + 2)), .int rd_length, .int rd_at, .int rd_kind, .int rd_start, .int rd_value, .int rd_error, .int rd_errorAt, .int rd_hasThreshold, .int rd_hasRate]))]) 40 [(0, .ref (zo w + a)), (1, .int x1), (2, .int x2)] [] := by
  unfold f_X6_readTerm_40 at hf
  refine z_aload_n (pc' := 41) C 0 dX6_readTerm_40 rfl rfl rfl ?_
  refine z_getf (pc' := 44) C zci_6 zw_281 (j := 5) rfl (zc_i (o := 0) n_a0 rfl) rfl rfl dX6_readTerm_41 rfl ?_
  refine z_bipush (pc' := 46) C dX6_readTerm_44 zk_bipush_42 rfl ?_
  refine z_icmp_ne (pc' := 49) C 54 hf dX6_readTerm_46 rfl rfl (fun g_46 hf => ?_) (fun g_46 hf => ?_)
  · refine z_bipush (pc' := 56) C dX6_readTerm_54 zk_bipush_m7 rfl ?_
    exact w_X6_readTerm_56 C n_a0 h_a1 h_a2 n_pr_pricing0 n_pr_pricing2 far_a hR0 hR1 hR2 (fun hf => hk7 hf) hf
  · refine z_bipush (pc' := 51) C dX6_readTerm_49 zk_bipush_m6 rfl ?_
    refine z_goto C 56 dX6_readTerm_51 rfl ?_
    exact w_X6_readTerm_56 C n_a0 h_a1 h_a2 n_pr_pricing0 n_pr_pricing2 far_a hR0 hR1 hR2 (fun hf => hk7 hf) hf
set_option maxRecDepth 20000 in
theorem w_X6_readTerm_7 {X : zC} {w : zV} {N : Nat} {h : zH} {a : Nat} {d : Nat} {R : Nat → Int32 → Int32 → Int32 → Int32 → Int32 → Int32 → Int32 → (Nat → Int32) → Int32 → Nat → (Nat → Int32) → Int32 → Option (Int32 × Int32 × Int32 × Int32 × Int32 × Int32 × Int32 × (Nat → Int32))} {rd_filled : Int32} {rd_hasThreshold : Int32} {rd_hasRate : Int32} {rd_length : Int32} {rd_text : Nat → Int32} {pr_day : Int32} {pr_pricing : Nat} {pg_threshold : Int32} {pg_clen : Nat} (C : zK X w RX6 cX6_readTerm 4 none (zrd (d + 1))) (n_a0 : a + 0 < N) (h_a1 : zc N h (a + 1) (.inl (w.2.2.1 2, 900, .inl rd_text))) (h_a2 : zc N h (a + 2) (.inr (5, [.int pr_day, .ref (zo w + (a + 3)), .ref (zo w + (a + 4)), .ref (zo w + pr_pricing), .ref (zo w + (a + 15)), .ref (zo w + (a + 21)), .ref (zo w + (a + 25)), .ref (zo w + (a + 31)), .ref (zo w + (a + 36))]))) (n_pr_pricing0 : pr_pricing + 0 < N) (n_pr_pricing2 : pr_pricing + 2 < N) (far_a : a + 37 ≤ pr_pricing) (hR0 : ∀ {h : zH} {a : Nat} {rd_filled : Int32} {rd_hasThreshold : Int32} {rd_hasRate : Int32} {rd_length : Int32} {rd_at : Int32} {rd_kind : Int32} {rd_start : Int32} {rd_value : Int32} {rd_error : Int32} {rd_errorAt : Int32} {rd_text : Nat → Int32} {pr_day : Int32} {pr_pricing : Nat} {pg_threshold : Int32} {pg_length : Int32} {pg_clen : Nat} {pg_code : Nat → Int32} {p1 : Int32} {r : Int32 × Int32 × Int32 × Int32 × Int32 × Int32 × Int32 × (Nat → Int32)}, zc N h (a + 0) (.inr (6, [.ref (zo w + (a + 1)), .int rd_filled, .ref (zo w + (a + 2)), .int rd_length, .int rd_at, .int rd_kind, .int rd_start, .int rd_value, .int rd_error, .int rd_errorAt, .int rd_hasThreshold, .int rd_hasRate])) → zc N h (a + 1) (.inl (w.2.2.1 2, 900, .inl rd_text)) → zc N h (a + 2) (.inr (5, [.int pr_day, .ref (zo w + (a + 3)), .ref (zo w + (a + 4)), .ref (zo w + pr_pricing), .ref (zo w + (a + 15)), .ref (zo w + (a + 21)), .ref (zo w + (a + 25)), .ref (zo w + (a + 31)), .ref (zo w + (a + 36))])) → zc N h (pr_pricing + 0) (.inr (4, [.int pg_threshold, .int pg_length, .ref (zo w + (pr_pricing + 2)), .ref (zo w + (pr_pricing + 1))])) → zc N h (pr_pricing + 2) (.inl (w.2.2.1 0, pg_clen, .inl pg_code)) → a + 37 ≤ pr_pricing → R 0 rd_length rd_at rd_kind rd_start rd_value rd_error rd_errorAt rd_text pg_length pg_clen pg_code p1 = some r → zM w yX6_readSum cX6_readSum 4 none (zrd d) false N N h [.ref (zo w + a), .int p1] (none) (zu (zu h pr_pricing [(0, .inr (4, [.int pg_threshold, .int r.2.2.2.2.2.2.1, .ref (zo w + (pr_pricing + 2)), .ref (zo w + (pr_pricing + 1))])), (2, .inl (w.2.2.1 0, pg_clen, .inl r.2.2.2.2.2.2.2))]) a [(0, .inr (6, [.ref (zo w + (a + 1)), .int rd_filled, .ref (zo w + (a + 2)), .int rd_length, .int r.1, .int r.2.1, .int r.2.2.1, .int r.2.2.2.1, .int r.2.2.2.2.1, .int r.2.2.2.2.2.1, .int rd_hasThreshold, .int rd_hasRate]))])) (hR1 : ∀ {h : zH} {a : Nat} {rd_filled : Int32} {rd_hasThreshold : Int32} {rd_hasRate : Int32} {rd_length : Int32} {rd_at : Int32} {rd_kind : Int32} {rd_start : Int32} {rd_value : Int32} {rd_error : Int32} {rd_errorAt : Int32} {rd_text : Nat → Int32} {pr_day : Int32} {pr_pricing : Nat} {pg_threshold : Int32} {pg_length : Int32} {pg_clen : Nat} {pg_code : Nat → Int32} {p1 : Int32} {r : Int32 × Int32 × Int32 × Int32 × Int32 × Int32 × Int32 × (Nat → Int32)}, zc N h (a + 0) (.inr (6, [.ref (zo w + (a + 1)), .int rd_filled, .ref (zo w + (a + 2)), .int rd_length, .int rd_at, .int rd_kind, .int rd_start, .int rd_value, .int rd_error, .int rd_errorAt, .int rd_hasThreshold, .int rd_hasRate])) → zc N h (a + 1) (.inl (w.2.2.1 2, 900, .inl rd_text)) → zc N h (a + 2) (.inr (5, [.int pr_day, .ref (zo w + (a + 3)), .ref (zo w + (a + 4)), .ref (zo w + pr_pricing), .ref (zo w + (a + 15)), .ref (zo w + (a + 21)), .ref (zo w + (a + 25)), .ref (zo w + (a + 31)), .ref (zo w + (a + 36))])) → zc N h (pr_pricing + 0) (.inr (4, [.int pg_threshold, .int pg_length, .ref (zo w + (pr_pricing + 2)), .ref (zo w + (pr_pricing + 1))])) → zc N h (pr_pricing + 2) (.inl (w.2.2.1 0, pg_clen, .inl pg_code)) → a + 37 ≤ pr_pricing → R 1 rd_length rd_at rd_kind rd_start rd_value rd_error rd_errorAt rd_text pg_length pg_clen pg_code p1 = some r → zM w yX6_readTerm cX6_readTerm 4 none (zrd d) false N N h [.ref (zo w + a), .int p1] (none) (zu (zu h pr_pricing [(0, .inr (4, [.int pg_threshold, .int r.2.2.2.2.2.2.1, .ref (zo w + (pr_pricing + 2)), .ref (zo w + (pr_pricing + 1))])), (2, .inl (w.2.2.1 0, pg_clen, .inl r.2.2.2.2.2.2.2))]) a [(0, .inr (6, [.ref (zo w + (a + 1)), .int rd_filled, .ref (zo w + (a + 2)), .int rd_length, .int r.1, .int r.2.1, .int r.2.2.1, .int r.2.2.2.1, .int r.2.2.2.2.1, .int r.2.2.2.2.2.1, .int rd_hasThreshold, .int rd_hasRate]))])) (hR2 : ∀ {h : zH} {a : Nat} {rd_filled : Int32} {rd_hasThreshold : Int32} {rd_hasRate : Int32} {rd_length : Int32} {rd_at : Int32} {rd_kind : Int32} {rd_start : Int32} {rd_value : Int32} {rd_error : Int32} {rd_errorAt : Int32} {rd_text : Nat → Int32} {pr_day : Int32} {pr_pricing : Nat} {pg_threshold : Int32} {pg_length : Int32} {pg_clen : Nat} {pg_code : Nat → Int32} {p1 : Int32} {r : Int32 × Int32 × Int32 × Int32 × Int32 × Int32 × Int32 × (Nat → Int32)}, zc N h (a + 0) (.inr (6, [.ref (zo w + (a + 1)), .int rd_filled, .ref (zo w + (a + 2)), .int rd_length, .int rd_at, .int rd_kind, .int rd_start, .int rd_value, .int rd_error, .int rd_errorAt, .int rd_hasThreshold, .int rd_hasRate])) → zc N h (a + 1) (.inl (w.2.2.1 2, 900, .inl rd_text)) → zc N h (a + 2) (.inr (5, [.int pr_day, .ref (zo w + (a + 3)), .ref (zo w + (a + 4)), .ref (zo w + pr_pricing), .ref (zo w + (a + 15)), .ref (zo w + (a + 21)), .ref (zo w + (a + 25)), .ref (zo w + (a + 31)), .ref (zo w + (a + 36))])) → zc N h (pr_pricing + 0) (.inr (4, [.int pg_threshold, .int pg_length, .ref (zo w + (pr_pricing + 2)), .ref (zo w + (pr_pricing + 1))])) → zc N h (pr_pricing + 2) (.inl (w.2.2.1 0, pg_clen, .inl pg_code)) → a + 37 ≤ pr_pricing → R 2 rd_length rd_at rd_kind rd_start rd_value rd_error rd_errorAt rd_text pg_length pg_clen pg_code p1 = some r → zM w yX6_readFactor cX6_readFactor 2 none (zrd d) false N N h [.ref (zo w + a), .int p1] (none) (zu (zu h pr_pricing [(0, .inr (4, [.int pg_threshold, .int r.2.2.2.2.2.2.1, .ref (zo w + (pr_pricing + 2)), .ref (zo w + (pr_pricing + 1))])), (2, .inl (w.2.2.1 0, pg_clen, .inl r.2.2.2.2.2.2.2))]) a [(0, .inr (6, [.ref (zo w + (a + 1)), .int rd_filled, .ref (zo w + (a + 2)), .int rd_length, .int r.1, .int r.2.1, .int r.2.2.1, .int r.2.2.2.1, .int r.2.2.2.2.1, .int r.2.2.2.2.2.1, .int rd_hasThreshold, .int rd_hasRate]))])) {r : Int32 × Int32 × Int32 × Int32 × Int32 × Int32 × Int32 × (Nat → Int32)} (n : Nat) : ∀ {rd_at : Int32} {rd_kind : Int32} {rd_start : Int32} {rd_value : Int32} {rd_error : Int32} {rd_errorAt : Int32} {pg_length : Int32} {pg_code : Nat → Int32} {x1 : Int32} {x2 : Int32}, f_X6_readTerm_7 R  n rd_length rd_at rd_kind rd_start rd_value rd_error rd_errorAt rd_text pg_length pg_clen pg_code x1 x2 = some r → zZ X w (zQ X w (zrd (d + 1)) (none) false N (zu (zu h pr_pricing [(0, .inr (4, [.int pg_threshold, .int r.2.2.2.2.2.2.1, .ref (zo w + (pr_pricing + 2)), .ref (zo w + (pr_pricing + 1))])), (2, .inl (w.2.2.1 0, pg_clen, .inl r.2.2.2.2.2.2.2))]) a [(0, .inr (6, [.ref (zo w + (a + 1)), .int rd_filled, .ref (zo w + (a + 2)), .int rd_length, .int r.1, .int r.2.1, .int r.2.2.1, .int r.2.2.2.1, .int r.2.2.2.2.1, .int r.2.2.2.2.2.1, .int rd_hasThreshold, .int rd_hasRate]))])) 0 0 false N (zu (zu h pr_pricing [(0, .inr (4, [.int pg_threshold, .int pg_length, .ref (zo w + (pr_pricing + 2)), .ref (zo w + (pr_pricing + 1))])), (2, .inl (w.2.2.1 0, pg_clen, .inl pg_code))]) a [(0, .inr (6, [.ref (zo w + (a + 1)), .int rd_filled, .ref (zo w + (a + 2)), .int rd_length, .int rd_at, .int rd_kind, .int rd_start, .int rd_value, .int rd_error, .int rd_errorAt, .int rd_hasThreshold, .int rd_hasRate]))]) 7 [(0, .ref (zo w + a)), (1, .int x1), (2, .int x2)] [] := by
  induction n with
  | zero =>
    intro rd_at rd_kind rd_start rd_value rd_error rd_errorAt pg_length pg_code x1 x2 hf
    have hf : (none : Option (Int32 × Int32 × Int32 × Int32 × Int32 × Int32 × Int32 × (Nat → Int32))) = some r := hf
    cases hf
  | succ z ih =>
    intro rd_at rd_kind rd_start rd_value rd_error rd_errorAt pg_length pg_code x1 x2 hf
    rw [f_X6_readTerm_7] at hf
    refine z_iload_n (pc' := 8) C 2 dX6_readTerm_7 rfl rfl rfl ?_
    refine z_aload_n (pc' := 9) C 0 dX6_readTerm_8 rfl rfl rfl ?_
    refine z_getf (pc' := 12) C zci_6 zw_279 (j := 3) rfl (zc_i (o := 0) n_a0 rfl) rfl rfl dX6_readTerm_9 rfl ?_
    refine z_icmp_ge (pc' := 15) C 83 hf dX6_readTerm_12 rfl rfl (fun g_12 hf => ?_) (fun g_12 hf => ?_)
    · cases hf
      exact z_vret C rfl rfl dX6_readTerm_83
    · refine z_aload_n (pc' := 16) C 0 dX6_readTerm_15 rfl rfl rfl ?_
      refine z_getf (pc' := 19) C zci_6 zw_284 (j := 8) rfl (zc_i (o := 0) n_a0 rfl) rfl rfl dX6_readTerm_16 rfl ?_
      refine z_if_ne (pc' := 22) C 83 hf dX6_readTerm_19 rfl rfl (fun g_19 hf => ?_) (fun g_19 hf => ?_)
      · cases hf
        exact z_vret C rfl rfl dX6_readTerm_83
      · refine z_aload_n (pc' := 23) C 0 dX6_readTerm_22 rfl rfl rfl ?_
        refine z_getf (pc' := 26) C zci_6 zw_281 (j := 5) rfl (zc_i (o := 0) n_a0 rfl) rfl rfl dX6_readTerm_23 rfl ?_
        refine z_bipush (pc' := 28) C dX6_readTerm_26 zk_bipush_42 rfl ?_
        refine z_icmp_eq (pc' := 31) C 40 hf dX6_readTerm_28 rfl rfl (fun g_28 hf => ?_) (fun g_28 hf => ?_)
        · exact w_X6_readTerm_40 C n_a0 h_a1 h_a2 n_pr_pricing0 n_pr_pricing2 far_a hR0 hR1 hR2 (fun hf => ih hf) hf
        · refine z_aload_n (pc' := 32) C 0 dX6_readTerm_31 rfl rfl rfl ?_
          refine z_getf (pc' := 35) C zci_6 zw_281 (j := 5) rfl (zc_i (o := 0) n_a0 rfl) rfl rfl dX6_readTerm_32 rfl ?_
          refine z_bipush (pc' := 37) C dX6_readTerm_35 zk_bipush_47 rfl ?_
          refine z_icmp_ne (pc' := 40) C 83 hf dX6_readTerm_37 rfl rfl (fun g_37 hf => ?_) (fun g_37 hf => ?_)
          · cases hf
            exact z_vret C rfl rfl dX6_readTerm_83
          · exact w_X6_readTerm_40 C n_a0 h_a1 h_a2 n_pr_pricing0 n_pr_pricing2 far_a hR0 hR1 hR2 (fun hf => ih hf) hf
set_option maxRecDepth 20000 in
theorem cb_X6_readTerm {w : zV} {N : Nat} {h : zH} {a : Nat} {d : Nat} {R : Nat → Int32 → Int32 → Int32 → Int32 → Int32 → Int32 → Int32 → (Nat → Int32) → Int32 → Nat → (Nat → Int32) → Int32 → Option (Int32 × Int32 × Int32 × Int32 × Int32 × Int32 × Int32 × (Nat → Int32))} {rd_filled : Int32} {rd_hasThreshold : Int32} {rd_hasRate : Int32} {rd_length : Int32} {rd_at : Int32} {rd_kind : Int32} {rd_start : Int32} {rd_value : Int32} {rd_error : Int32} {rd_errorAt : Int32} {rd_text : Nat → Int32} {pr_day : Int32} {pr_pricing : Nat} {pg_threshold : Int32} {pg_length : Int32} {pg_clen : Nat} {pg_code : Nat → Int32} {p1 : Int32} (h_a0 : zc N h (a + 0) (.inr (6, [.ref (zo w + (a + 1)), .int rd_filled, .ref (zo w + (a + 2)), .int rd_length, .int rd_at, .int rd_kind, .int rd_start, .int rd_value, .int rd_error, .int rd_errorAt, .int rd_hasThreshold, .int rd_hasRate]))) (h_a1 : zc N h (a + 1) (.inl (w.2.2.1 2, 900, .inl rd_text))) (h_a2 : zc N h (a + 2) (.inr (5, [.int pr_day, .ref (zo w + (a + 3)), .ref (zo w + (a + 4)), .ref (zo w + pr_pricing), .ref (zo w + (a + 15)), .ref (zo w + (a + 21)), .ref (zo w + (a + 25)), .ref (zo w + (a + 31)), .ref (zo w + (a + 36))]))) (h_pr_pricing0 : zc N h (pr_pricing + 0) (.inr (4, [.int pg_threshold, .int pg_length, .ref (zo w + (pr_pricing + 2)), .ref (zo w + (pr_pricing + 1))]))) (h_pr_pricing2 : zc N h (pr_pricing + 2) (.inl (w.2.2.1 0, pg_clen, .inl pg_code))) (far_a : a + 37 ≤ pr_pricing) (hR0 : ∀ {h : zH} {a : Nat} {rd_filled : Int32} {rd_hasThreshold : Int32} {rd_hasRate : Int32} {rd_length : Int32} {rd_at : Int32} {rd_kind : Int32} {rd_start : Int32} {rd_value : Int32} {rd_error : Int32} {rd_errorAt : Int32} {rd_text : Nat → Int32} {pr_day : Int32} {pr_pricing : Nat} {pg_threshold : Int32} {pg_length : Int32} {pg_clen : Nat} {pg_code : Nat → Int32} {p1 : Int32} {r : Int32 × Int32 × Int32 × Int32 × Int32 × Int32 × Int32 × (Nat → Int32)}, zc N h (a + 0) (.inr (6, [.ref (zo w + (a + 1)), .int rd_filled, .ref (zo w + (a + 2)), .int rd_length, .int rd_at, .int rd_kind, .int rd_start, .int rd_value, .int rd_error, .int rd_errorAt, .int rd_hasThreshold, .int rd_hasRate])) → zc N h (a + 1) (.inl (w.2.2.1 2, 900, .inl rd_text)) → zc N h (a + 2) (.inr (5, [.int pr_day, .ref (zo w + (a + 3)), .ref (zo w + (a + 4)), .ref (zo w + pr_pricing), .ref (zo w + (a + 15)), .ref (zo w + (a + 21)), .ref (zo w + (a + 25)), .ref (zo w + (a + 31)), .ref (zo w + (a + 36))])) → zc N h (pr_pricing + 0) (.inr (4, [.int pg_threshold, .int pg_length, .ref (zo w + (pr_pricing + 2)), .ref (zo w + (pr_pricing + 1))])) → zc N h (pr_pricing + 2) (.inl (w.2.2.1 0, pg_clen, .inl pg_code)) → a + 37 ≤ pr_pricing → R 0 rd_length rd_at rd_kind rd_start rd_value rd_error rd_errorAt rd_text pg_length pg_clen pg_code p1 = some r → zM w yX6_readSum cX6_readSum 4 none (zrd d) false N N h [.ref (zo w + a), .int p1] (none) (zu (zu h pr_pricing [(0, .inr (4, [.int pg_threshold, .int r.2.2.2.2.2.2.1, .ref (zo w + (pr_pricing + 2)), .ref (zo w + (pr_pricing + 1))])), (2, .inl (w.2.2.1 0, pg_clen, .inl r.2.2.2.2.2.2.2))]) a [(0, .inr (6, [.ref (zo w + (a + 1)), .int rd_filled, .ref (zo w + (a + 2)), .int rd_length, .int r.1, .int r.2.1, .int r.2.2.1, .int r.2.2.2.1, .int r.2.2.2.2.1, .int r.2.2.2.2.2.1, .int rd_hasThreshold, .int rd_hasRate]))])) (hR1 : ∀ {h : zH} {a : Nat} {rd_filled : Int32} {rd_hasThreshold : Int32} {rd_hasRate : Int32} {rd_length : Int32} {rd_at : Int32} {rd_kind : Int32} {rd_start : Int32} {rd_value : Int32} {rd_error : Int32} {rd_errorAt : Int32} {rd_text : Nat → Int32} {pr_day : Int32} {pr_pricing : Nat} {pg_threshold : Int32} {pg_length : Int32} {pg_clen : Nat} {pg_code : Nat → Int32} {p1 : Int32} {r : Int32 × Int32 × Int32 × Int32 × Int32 × Int32 × Int32 × (Nat → Int32)}, zc N h (a + 0) (.inr (6, [.ref (zo w + (a + 1)), .int rd_filled, .ref (zo w + (a + 2)), .int rd_length, .int rd_at, .int rd_kind, .int rd_start, .int rd_value, .int rd_error, .int rd_errorAt, .int rd_hasThreshold, .int rd_hasRate])) → zc N h (a + 1) (.inl (w.2.2.1 2, 900, .inl rd_text)) → zc N h (a + 2) (.inr (5, [.int pr_day, .ref (zo w + (a + 3)), .ref (zo w + (a + 4)), .ref (zo w + pr_pricing), .ref (zo w + (a + 15)), .ref (zo w + (a + 21)), .ref (zo w + (a + 25)), .ref (zo w + (a + 31)), .ref (zo w + (a + 36))])) → zc N h (pr_pricing + 0) (.inr (4, [.int pg_threshold, .int pg_length, .ref (zo w + (pr_pricing + 2)), .ref (zo w + (pr_pricing + 1))])) → zc N h (pr_pricing + 2) (.inl (w.2.2.1 0, pg_clen, .inl pg_code)) → a + 37 ≤ pr_pricing → R 1 rd_length rd_at rd_kind rd_start rd_value rd_error rd_errorAt rd_text pg_length pg_clen pg_code p1 = some r → zM w yX6_readTerm cX6_readTerm 4 none (zrd d) false N N h [.ref (zo w + a), .int p1] (none) (zu (zu h pr_pricing [(0, .inr (4, [.int pg_threshold, .int r.2.2.2.2.2.2.1, .ref (zo w + (pr_pricing + 2)), .ref (zo w + (pr_pricing + 1))])), (2, .inl (w.2.2.1 0, pg_clen, .inl r.2.2.2.2.2.2.2))]) a [(0, .inr (6, [.ref (zo w + (a + 1)), .int rd_filled, .ref (zo w + (a + 2)), .int rd_length, .int r.1, .int r.2.1, .int r.2.2.1, .int r.2.2.2.1, .int r.2.2.2.2.1, .int r.2.2.2.2.2.1, .int rd_hasThreshold, .int rd_hasRate]))])) (hR2 : ∀ {h : zH} {a : Nat} {rd_filled : Int32} {rd_hasThreshold : Int32} {rd_hasRate : Int32} {rd_length : Int32} {rd_at : Int32} {rd_kind : Int32} {rd_start : Int32} {rd_value : Int32} {rd_error : Int32} {rd_errorAt : Int32} {rd_text : Nat → Int32} {pr_day : Int32} {pr_pricing : Nat} {pg_threshold : Int32} {pg_length : Int32} {pg_clen : Nat} {pg_code : Nat → Int32} {p1 : Int32} {r : Int32 × Int32 × Int32 × Int32 × Int32 × Int32 × Int32 × (Nat → Int32)}, zc N h (a + 0) (.inr (6, [.ref (zo w + (a + 1)), .int rd_filled, .ref (zo w + (a + 2)), .int rd_length, .int rd_at, .int rd_kind, .int rd_start, .int rd_value, .int rd_error, .int rd_errorAt, .int rd_hasThreshold, .int rd_hasRate])) → zc N h (a + 1) (.inl (w.2.2.1 2, 900, .inl rd_text)) → zc N h (a + 2) (.inr (5, [.int pr_day, .ref (zo w + (a + 3)), .ref (zo w + (a + 4)), .ref (zo w + pr_pricing), .ref (zo w + (a + 15)), .ref (zo w + (a + 21)), .ref (zo w + (a + 25)), .ref (zo w + (a + 31)), .ref (zo w + (a + 36))])) → zc N h (pr_pricing + 0) (.inr (4, [.int pg_threshold, .int pg_length, .ref (zo w + (pr_pricing + 2)), .ref (zo w + (pr_pricing + 1))])) → zc N h (pr_pricing + 2) (.inl (w.2.2.1 0, pg_clen, .inl pg_code)) → a + 37 ≤ pr_pricing → R 2 rd_length rd_at rd_kind rd_start rd_value rd_error rd_errorAt rd_text pg_length pg_clen pg_code p1 = some r → zM w yX6_readFactor cX6_readFactor 2 none (zrd d) false N N h [.ref (zo w + a), .int p1] (none) (zu (zu h pr_pricing [(0, .inr (4, [.int pg_threshold, .int r.2.2.2.2.2.2.1, .ref (zo w + (pr_pricing + 2)), .ref (zo w + (pr_pricing + 1))])), (2, .inl (w.2.2.1 0, pg_clen, .inl r.2.2.2.2.2.2.2))]) a [(0, .inr (6, [.ref (zo w + (a + 1)), .int rd_filled, .ref (zo w + (a + 2)), .int rd_length, .int r.1, .int r.2.1, .int r.2.2.1, .int r.2.2.2.1, .int r.2.2.2.2.1, .int r.2.2.2.2.2.1, .int rd_hasThreshold, .int rd_hasRate]))])) {r : Int32 × Int32 × Int32 × Int32 × Int32 × Int32 × Int32 × (Nat → Int32)} (hf : f_X6_readTerm R rd_length rd_at rd_kind rd_start rd_value rd_error rd_errorAt rd_text pg_length pg_clen pg_code p1 = some r) : zM w yX6_readTerm cX6_readTerm 4 none (zrd (d + 1)) false N N h [.ref (zo w + a), .int p1] (none) (zu (zu h pr_pricing [(0, .inr (4, [.int pg_threshold, .int r.2.2.2.2.2.2.1, .ref (zo w + (pr_pricing + 2)), .ref (zo w + (pr_pricing + 1))])), (2, .inl (w.2.2.1 0, pg_clen, .inl r.2.2.2.2.2.2.2))]) a [(0, .inr (6, [.ref (zo w + (a + 1)), .int rd_filled, .ref (zo w + (a + 2)), .int rd_length, .int r.1, .int r.2.1, .int r.2.2.1, .int r.2.2.2.1, .int r.2.2.2.2.1, .int r.2.2.2.2.2.1, .int rd_hasThreshold, .int rd_hasRate]))]) := by
  unfold f_X6_readTerm at hf
  refine zM_of (by decide) rfl (fun X C _ => ?_)
  refine z_eq (h' := (zu (zu h pr_pricing [(0, .inr (4, [.int pg_threshold, .int pg_length, .ref (zo w + (pr_pricing + 2)), .ref (zo w + (pr_pricing + 1))])), (2, .inl (w.2.2.1 0, pg_clen, .inl pg_code))]) a [(0, .inr (6, [.ref (zo w + (a + 1)), .int rd_filled, .ref (zo w + (a + 2)), .int rd_length, .int rd_at, .int rd_kind, .int rd_start, .int rd_value, .int rd_error, .int rd_errorAt, .int rd_hasThreshold, .int rd_hasRate]))])) ((congrArg (fun x => zu x a [(0, .inr (6, [.ref (zo w + (a + 1)), .int rd_filled, .ref (zo w + (a + 2)), .int rd_length, .int rd_at, .int rd_kind, .int rd_start, .int rd_value, .int rd_error, .int rd_errorAt, .int rd_hasThreshold, .int rd_hasRate]))]) (zu_s h_pr_pricing0 (zu_s h_pr_pricing2 zu_0))).trans (zu_s h_a0 zu_0)).symm ?_
  have n_a0 := h_a0.1
  have n_pr_pricing0 := h_pr_pricing0.1
  have n_pr_pricing2 := h_pr_pricing2.1
  refine z_pick (lv' := [(0, .ref (zo w + a)), (1, .int p1)]) [0, 1] rfl ?_
  refine z_aload_n (pc' := 1) C 0 dX6_readTerm_0 rfl rfl rfl ?_
  refine z_iload_n (pc' := 2) C 1 dX6_readTerm_1 rfl rfl rfl ?_
  refine z_cV (pc' := 5) C hf (As := [.int p1]) (fun hq => hR2 (a := a) (pr_pricing := pr_pricing) (zc_i (o := 0) n_a0 rfl) (zc_o (o := 1) (zc_f (m := 3) h_a1 (by omega) rfl) rfl) (zc_o (o := 2) (zc_f (m := 3) h_a2 (by omega) rfl) rfl) (zc_f (m := 37) (zc_i (o := 0) n_pr_pricing0 rfl) (by omega) rfl) (zc_f (m := 37) (zc_i (o := 2) n_pr_pricing2 rfl) (by omega) rfl) (by omega) hq) (fun q_2 => (zu (zu h pr_pricing [(0, .inr (4, [.int pg_threshold, .int q_2.2.2.2.2.2.2.1, .ref (zo w + (pr_pricing + 2)), .ref (zo w + (pr_pricing + 1))])), (2, .inl (w.2.2.1 0, pg_clen, .inl q_2.2.2.2.2.2.2.2))]) a [(0, .inr (6, [.ref (zo w + (a + 1)), .int rd_filled, .ref (zo w + (a + 2)), .int rd_length, .int q_2.1, .int q_2.2.1, .int q_2.2.2.1, .int q_2.2.2.2.1, .int q_2.2.2.2.2.1, .int q_2.2.2.2.2.2.1, .int rd_hasThreshold, .int rd_hasRate]))])) (fun q_2 => []) (fun _ => zu_shB (d := 0) (m := 37) (n := 3) rfl rfl (by omega) rfl rfl rfl rfl) (fun _ => rfl) zy_X6_readFactor zw_647 zw_649 zv_14 (ci := 6) rfl (zc_i (o := 0) n_a0 rfl) ⟨rfl, rfl⟩ zRm_r rfl rfl rfl rfl dX6_readTerm_2 rfl (fun q_2 hf => ?_)
  refine z_iconst (pc' := 6) C dX6_readTerm_5 zk_iconst_0 rfl ?_
  refine z_istore_n (pc' := 7) C [(2, .int (0 : Int32)), (0, .ref (zo w + a)), (1, .int p1)] dX6_readTerm_6 rfl rfl rfl rfl ?_
  refine z_pick (lv' := [(0, .ref (zo w + a)), (1, .int p1), (2, .int (0 : Int32))]) [1, 2, 0] rfl ?_
  exact w_X6_readTerm_7 C n_a0 h_a1 h_a2 n_pr_pricing0 n_pr_pricing2 far_a hR0 hR1 hR2  FU hf
set_option maxRecDepth 20000 in
theorem cb_X6_readFactor {w : zV} {N : Nat} {h : zH} {a : Nat} {d : Nat} {R : Nat → Int32 → Int32 → Int32 → Int32 → Int32 → Int32 → Int32 → (Nat → Int32) → Int32 → Nat → (Nat → Int32) → Int32 → Option (Int32 × Int32 × Int32 × Int32 × Int32 × Int32 × Int32 × (Nat → Int32))} {rd_filled : Int32} {rd_hasThreshold : Int32} {rd_hasRate : Int32} {rd_length : Int32} {rd_at : Int32} {rd_kind : Int32} {rd_start : Int32} {rd_value : Int32} {rd_error : Int32} {rd_errorAt : Int32} {rd_text : Nat → Int32} {pr_day : Int32} {pr_pricing : Nat} {pg_threshold : Int32} {pg_length : Int32} {pg_clen : Nat} {pg_code : Nat → Int32} {p1 : Int32} (h_a0 : zc N h (a + 0) (.inr (6, [.ref (zo w + (a + 1)), .int rd_filled, .ref (zo w + (a + 2)), .int rd_length, .int rd_at, .int rd_kind, .int rd_start, .int rd_value, .int rd_error, .int rd_errorAt, .int rd_hasThreshold, .int rd_hasRate]))) (h_a1 : zc N h (a + 1) (.inl (w.2.2.1 2, 900, .inl rd_text))) (h_a2 : zc N h (a + 2) (.inr (5, [.int pr_day, .ref (zo w + (a + 3)), .ref (zo w + (a + 4)), .ref (zo w + pr_pricing), .ref (zo w + (a + 15)), .ref (zo w + (a + 21)), .ref (zo w + (a + 25)), .ref (zo w + (a + 31)), .ref (zo w + (a + 36))]))) (h_pr_pricing0 : zc N h (pr_pricing + 0) (.inr (4, [.int pg_threshold, .int pg_length, .ref (zo w + (pr_pricing + 2)), .ref (zo w + (pr_pricing + 1))]))) (h_pr_pricing2 : zc N h (pr_pricing + 2) (.inl (w.2.2.1 0, pg_clen, .inl pg_code))) (far_a : a + 37 ≤ pr_pricing) (hR0 : ∀ {h : zH} {a : Nat} {rd_filled : Int32} {rd_hasThreshold : Int32} {rd_hasRate : Int32} {rd_length : Int32} {rd_at : Int32} {rd_kind : Int32} {rd_start : Int32} {rd_value : Int32} {rd_error : Int32} {rd_errorAt : Int32} {rd_text : Nat → Int32} {pr_day : Int32} {pr_pricing : Nat} {pg_threshold : Int32} {pg_length : Int32} {pg_clen : Nat} {pg_code : Nat → Int32} {p1 : Int32} {r : Int32 × Int32 × Int32 × Int32 × Int32 × Int32 × Int32 × (Nat → Int32)}, zc N h (a + 0) (.inr (6, [.ref (zo w + (a + 1)), .int rd_filled, .ref (zo w + (a + 2)), .int rd_length, .int rd_at, .int rd_kind, .int rd_start, .int rd_value, .int rd_error, .int rd_errorAt, .int rd_hasThreshold, .int rd_hasRate])) → zc N h (a + 1) (.inl (w.2.2.1 2, 900, .inl rd_text)) → zc N h (a + 2) (.inr (5, [.int pr_day, .ref (zo w + (a + 3)), .ref (zo w + (a + 4)), .ref (zo w + pr_pricing), .ref (zo w + (a + 15)), .ref (zo w + (a + 21)), .ref (zo w + (a + 25)), .ref (zo w + (a + 31)), .ref (zo w + (a + 36))])) → zc N h (pr_pricing + 0) (.inr (4, [.int pg_threshold, .int pg_length, .ref (zo w + (pr_pricing + 2)), .ref (zo w + (pr_pricing + 1))])) → zc N h (pr_pricing + 2) (.inl (w.2.2.1 0, pg_clen, .inl pg_code)) → a + 37 ≤ pr_pricing → R 0 rd_length rd_at rd_kind rd_start rd_value rd_error rd_errorAt rd_text pg_length pg_clen pg_code p1 = some r → zM w yX6_readSum cX6_readSum 4 none (zrd d) false N N h [.ref (zo w + a), .int p1] (none) (zu (zu h pr_pricing [(0, .inr (4, [.int pg_threshold, .int r.2.2.2.2.2.2.1, .ref (zo w + (pr_pricing + 2)), .ref (zo w + (pr_pricing + 1))])), (2, .inl (w.2.2.1 0, pg_clen, .inl r.2.2.2.2.2.2.2))]) a [(0, .inr (6, [.ref (zo w + (a + 1)), .int rd_filled, .ref (zo w + (a + 2)), .int rd_length, .int r.1, .int r.2.1, .int r.2.2.1, .int r.2.2.2.1, .int r.2.2.2.2.1, .int r.2.2.2.2.2.1, .int rd_hasThreshold, .int rd_hasRate]))])) (hR1 : ∀ {h : zH} {a : Nat} {rd_filled : Int32} {rd_hasThreshold : Int32} {rd_hasRate : Int32} {rd_length : Int32} {rd_at : Int32} {rd_kind : Int32} {rd_start : Int32} {rd_value : Int32} {rd_error : Int32} {rd_errorAt : Int32} {rd_text : Nat → Int32} {pr_day : Int32} {pr_pricing : Nat} {pg_threshold : Int32} {pg_length : Int32} {pg_clen : Nat} {pg_code : Nat → Int32} {p1 : Int32} {r : Int32 × Int32 × Int32 × Int32 × Int32 × Int32 × Int32 × (Nat → Int32)}, zc N h (a + 0) (.inr (6, [.ref (zo w + (a + 1)), .int rd_filled, .ref (zo w + (a + 2)), .int rd_length, .int rd_at, .int rd_kind, .int rd_start, .int rd_value, .int rd_error, .int rd_errorAt, .int rd_hasThreshold, .int rd_hasRate])) → zc N h (a + 1) (.inl (w.2.2.1 2, 900, .inl rd_text)) → zc N h (a + 2) (.inr (5, [.int pr_day, .ref (zo w + (a + 3)), .ref (zo w + (a + 4)), .ref (zo w + pr_pricing), .ref (zo w + (a + 15)), .ref (zo w + (a + 21)), .ref (zo w + (a + 25)), .ref (zo w + (a + 31)), .ref (zo w + (a + 36))])) → zc N h (pr_pricing + 0) (.inr (4, [.int pg_threshold, .int pg_length, .ref (zo w + (pr_pricing + 2)), .ref (zo w + (pr_pricing + 1))])) → zc N h (pr_pricing + 2) (.inl (w.2.2.1 0, pg_clen, .inl pg_code)) → a + 37 ≤ pr_pricing → R 1 rd_length rd_at rd_kind rd_start rd_value rd_error rd_errorAt rd_text pg_length pg_clen pg_code p1 = some r → zM w yX6_readTerm cX6_readTerm 4 none (zrd d) false N N h [.ref (zo w + a), .int p1] (none) (zu (zu h pr_pricing [(0, .inr (4, [.int pg_threshold, .int r.2.2.2.2.2.2.1, .ref (zo w + (pr_pricing + 2)), .ref (zo w + (pr_pricing + 1))])), (2, .inl (w.2.2.1 0, pg_clen, .inl r.2.2.2.2.2.2.2))]) a [(0, .inr (6, [.ref (zo w + (a + 1)), .int rd_filled, .ref (zo w + (a + 2)), .int rd_length, .int r.1, .int r.2.1, .int r.2.2.1, .int r.2.2.2.1, .int r.2.2.2.2.1, .int r.2.2.2.2.2.1, .int rd_hasThreshold, .int rd_hasRate]))])) (hR2 : ∀ {h : zH} {a : Nat} {rd_filled : Int32} {rd_hasThreshold : Int32} {rd_hasRate : Int32} {rd_length : Int32} {rd_at : Int32} {rd_kind : Int32} {rd_start : Int32} {rd_value : Int32} {rd_error : Int32} {rd_errorAt : Int32} {rd_text : Nat → Int32} {pr_day : Int32} {pr_pricing : Nat} {pg_threshold : Int32} {pg_length : Int32} {pg_clen : Nat} {pg_code : Nat → Int32} {p1 : Int32} {r : Int32 × Int32 × Int32 × Int32 × Int32 × Int32 × Int32 × (Nat → Int32)}, zc N h (a + 0) (.inr (6, [.ref (zo w + (a + 1)), .int rd_filled, .ref (zo w + (a + 2)), .int rd_length, .int rd_at, .int rd_kind, .int rd_start, .int rd_value, .int rd_error, .int rd_errorAt, .int rd_hasThreshold, .int rd_hasRate])) → zc N h (a + 1) (.inl (w.2.2.1 2, 900, .inl rd_text)) → zc N h (a + 2) (.inr (5, [.int pr_day, .ref (zo w + (a + 3)), .ref (zo w + (a + 4)), .ref (zo w + pr_pricing), .ref (zo w + (a + 15)), .ref (zo w + (a + 21)), .ref (zo w + (a + 25)), .ref (zo w + (a + 31)), .ref (zo w + (a + 36))])) → zc N h (pr_pricing + 0) (.inr (4, [.int pg_threshold, .int pg_length, .ref (zo w + (pr_pricing + 2)), .ref (zo w + (pr_pricing + 1))])) → zc N h (pr_pricing + 2) (.inl (w.2.2.1 0, pg_clen, .inl pg_code)) → a + 37 ≤ pr_pricing → R 2 rd_length rd_at rd_kind rd_start rd_value rd_error rd_errorAt rd_text pg_length pg_clen pg_code p1 = some r → zM w yX6_readFactor cX6_readFactor 2 none (zrd d) false N N h [.ref (zo w + a), .int p1] (none) (zu (zu h pr_pricing [(0, .inr (4, [.int pg_threshold, .int r.2.2.2.2.2.2.1, .ref (zo w + (pr_pricing + 2)), .ref (zo w + (pr_pricing + 1))])), (2, .inl (w.2.2.1 0, pg_clen, .inl r.2.2.2.2.2.2.2))]) a [(0, .inr (6, [.ref (zo w + (a + 1)), .int rd_filled, .ref (zo w + (a + 2)), .int rd_length, .int r.1, .int r.2.1, .int r.2.2.1, .int r.2.2.2.1, .int r.2.2.2.2.1, .int r.2.2.2.2.2.1, .int rd_hasThreshold, .int rd_hasRate]))])) {r : Int32 × Int32 × Int32 × Int32 × Int32 × Int32 × Int32 × (Nat → Int32)} (hf : f_X6_readFactor R rd_length rd_at rd_kind rd_start rd_value rd_error rd_errorAt rd_text pg_length pg_clen pg_code p1 = some r) : zM w yX6_readFactor cX6_readFactor 2 none (zrd (d + 1)) false N N h [.ref (zo w + a), .int p1] (none) (zu (zu h pr_pricing [(0, .inr (4, [.int pg_threshold, .int r.2.2.2.2.2.2.1, .ref (zo w + (pr_pricing + 2)), .ref (zo w + (pr_pricing + 1))])), (2, .inl (w.2.2.1 0, pg_clen, .inl r.2.2.2.2.2.2.2))]) a [(0, .inr (6, [.ref (zo w + (a + 1)), .int rd_filled, .ref (zo w + (a + 2)), .int rd_length, .int r.1, .int r.2.1, .int r.2.2.1, .int r.2.2.2.1, .int r.2.2.2.2.1, .int r.2.2.2.2.2.1, .int rd_hasThreshold, .int rd_hasRate]))]) := by
  unfold f_X6_readFactor at hf
  refine zM_of (by decide) rfl (fun X C _ => ?_)
  refine z_eq (h' := (zu (zu h pr_pricing [(0, .inr (4, [.int pg_threshold, .int pg_length, .ref (zo w + (pr_pricing + 2)), .ref (zo w + (pr_pricing + 1))])), (2, .inl (w.2.2.1 0, pg_clen, .inl pg_code))]) a [(0, .inr (6, [.ref (zo w + (a + 1)), .int rd_filled, .ref (zo w + (a + 2)), .int rd_length, .int rd_at, .int rd_kind, .int rd_start, .int rd_value, .int rd_error, .int rd_errorAt, .int rd_hasThreshold, .int rd_hasRate]))])) ((congrArg (fun x => zu x a [(0, .inr (6, [.ref (zo w + (a + 1)), .int rd_filled, .ref (zo w + (a + 2)), .int rd_length, .int rd_at, .int rd_kind, .int rd_start, .int rd_value, .int rd_error, .int rd_errorAt, .int rd_hasThreshold, .int rd_hasRate]))]) (zu_s h_pr_pricing0 (zu_s h_pr_pricing2 zu_0))).trans (zu_s h_a0 zu_0)).symm ?_
  have n_a0 := h_a0.1
  have n_pr_pricing0 := h_pr_pricing0.1
  have n_pr_pricing2 := h_pr_pricing2.1
  refine z_pick (lv' := [(0, .ref (zo w + a)), (1, .int p1)]) [0, 1] rfl ?_
  refine z_aload_n (pc' := 1) C 0 dX6_readFactor_0 rfl rfl rfl ?_
  refine z_ldcS (pc' := 3) C 8 rfl dX6_readFactor_1 rfl ?_
  refine z_cV (pc' := 6) C hf (As := [.ref (zsa w 8)]) (fun hq => c_X6_isWord (a := a) (zc_i (o := 0) n_a0 rfl) (zc_o (o := 1) (zc_f (m := 3) h_a1 (by omega) rfl) rfl) (by decide) hq) (fun _ => (zu (zu h pr_pricing [(0, .inr (4, [.int pg_threshold, .int pg_length, .ref (zo w + (pr_pricing + 2)), .ref (zo w + (pr_pricing + 1))])), (2, .inl (w.2.2.1 0, pg_clen, .inl pg_code))]) a [(0, .inr (6, [.ref (zo w + (a + 1)), .int rd_filled, .ref (zo w + (a + 2)), .int rd_length, .int rd_at, .int rd_kind, .int rd_start, .int rd_value, .int rd_error, .int rd_errorAt, .int rd_hasThreshold, .int rd_hasRate]))])) (fun q_3 => [.int q_3]) (fun _ => rfl) (fun _ => rfl) zy_X6_isWord zw_547 zw_549 zv_5 (ci := 6) rfl (zc_i (o := 0) n_a0 rfl) ⟨rfl, rfl⟩ (zRm_c rfl) rfl rfl rfl rfl dX6_readFactor_3 rfl (fun q_3 hf => ?_)
  refine z_if_eq (pc' := 9) C 17 hf dX6_readFactor_6 rfl rfl (fun g_6 hf => ?_) (fun g_6 hf => ?_)
  · refine z_aload_n (pc' := 18) C 0 dX6_readFactor_17 rfl rfl rfl ?_
    refine z_ldcS (pc' := 20) C 9 rfl dX6_readFactor_18 rfl ?_
    refine z_cV (pc' := 23) C hf (As := [.ref (zsa w 9)]) (fun hq => c_X6_isWord (a := a) (zc_i (o := 0) n_a0 rfl) (zc_o (o := 1) (zc_f (m := 3) h_a1 (by omega) rfl) rfl) (by decide) hq) (fun _ => (zu (zu h pr_pricing [(0, .inr (4, [.int pg_threshold, .int pg_length, .ref (zo w + (pr_pricing + 2)), .ref (zo w + (pr_pricing + 1))])), (2, .inl (w.2.2.1 0, pg_clen, .inl pg_code))]) a [(0, .inr (6, [.ref (zo w + (a + 1)), .int rd_filled, .ref (zo w + (a + 2)), .int rd_length, .int rd_at, .int rd_kind, .int rd_start, .int rd_value, .int rd_error, .int rd_errorAt, .int rd_hasThreshold, .int rd_hasRate]))])) (fun q_20 => [.int q_20]) (fun _ => rfl) (fun _ => rfl) zy_X6_isWord zw_547 zw_549 zv_5 (ci := 6) rfl (zc_i (o := 0) n_a0 rfl) ⟨rfl, rfl⟩ (zRm_c rfl) rfl rfl rfl rfl dX6_readFactor_20 rfl (fun q_20 hf => ?_)
    refine z_if_eq (pc' := 26) C 35 hf dX6_readFactor_23 rfl rfl (fun g_23 hf => ?_) (fun g_23 hf => ?_)
    · refine z_aload_n (pc' := 36) C 0 dX6_readFactor_35 rfl rfl rfl ?_
      refine z_ldcS (pc' := 38) C 10 rfl dX6_readFactor_36 rfl ?_
      refine z_cV (pc' := 41) C hf (As := [.ref (zsa w 10)]) (fun hq => c_X6_isWord (a := a) (zc_i (o := 0) n_a0 rfl) (zc_o (o := 1) (zc_f (m := 3) h_a1 (by omega) rfl) rfl) (by decide) hq) (fun _ => (zu (zu h pr_pricing [(0, .inr (4, [.int pg_threshold, .int pg_length, .ref (zo w + (pr_pricing + 2)), .ref (zo w + (pr_pricing + 1))])), (2, .inl (w.2.2.1 0, pg_clen, .inl pg_code))]) a [(0, .inr (6, [.ref (zo w + (a + 1)), .int rd_filled, .ref (zo w + (a + 2)), .int rd_length, .int rd_at, .int rd_kind, .int rd_start, .int rd_value, .int rd_error, .int rd_errorAt, .int rd_hasThreshold, .int rd_hasRate]))])) (fun q_38 => [.int q_38]) (fun _ => rfl) (fun _ => rfl) zy_X6_isWord zw_547 zw_549 zv_5 (ci := 6) rfl (zc_i (o := 0) n_a0 rfl) ⟨rfl, rfl⟩ (zRm_c rfl) rfl rfl rfl rfl dX6_readFactor_38 rfl (fun q_38 hf => ?_)
      refine z_if_eq (pc' := 44) C 53 hf dX6_readFactor_41 rfl rfl (fun g_41 hf => ?_) (fun g_41 hf => ?_)
      · refine z_aload_n (pc' := 54) C 0 dX6_readFactor_53 rfl rfl rfl ?_
        refine z_getf (pc' := 57) C zci_6 zw_281 (j := 5) rfl (zc_i (o := 0) n_a0 rfl) rfl rfl dX6_readFactor_54 rfl ?_
        refine z_bipush (pc' := 59) C dX6_readFactor_57 zk_bipush_40 rfl ?_
        refine z_icmp_eq (pc' := 62) C 83 hf dX6_readFactor_59 rfl rfl (fun g_59 hf => ?_) (fun g_59 hf => ?_)
        · refine z_iload_n (pc' := 84) C 1 dX6_readFactor_83 rfl rfl rfl ?_
          refine z_iconst (pc' := 85) C dX6_readFactor_84 zk_iconst_4 rfl ?_
          refine z_icmp_lt (pc' := 88) C 101 hf dX6_readFactor_85 rfl rfl (fun g_85 hf => ?_) (fun g_85 hf => ?_)
          · refine z_aload_n (pc' := 102) C 0 dX6_readFactor_101 rfl rfl rfl ?_
            refine z_cV (pc' := 105) C hf (As := []) (fun hq => c_X6_advance (a := a) (zc_i (o := 0) n_a0 rfl) (zc_o (o := 1) (zc_f (m := 3) h_a1 (by omega) rfl) rfl) hq) (fun q_102 => (zu (zu h pr_pricing [(0, .inr (4, [.int pg_threshold, .int pg_length, .ref (zo w + (pr_pricing + 2)), .ref (zo w + (pr_pricing + 1))])), (2, .inl (w.2.2.1 0, pg_clen, .inl pg_code))]) a [(0, .inr (6, [.ref (zo w + (a + 1)), .int rd_filled, .ref (zo w + (a + 2)), .int rd_length, .int q_102.1, .int q_102.2.1, .int q_102.2.2.1, .int q_102.2.2.2, .int rd_error, .int rd_errorAt, .int rd_hasThreshold, .int rd_hasRate]))])) (fun q_102 => []) (fun _ => zu_sh (d := 0) rfl rfl) (fun _ => rfl) zy_X6_advance zw_533 zw_535 zv_2 (ci := 6) rfl (zc_i (o := 0) n_a0 rfl) ⟨rfl, rfl⟩ (zRm_c rfl) rfl rfl rfl rfl dX6_readFactor_102 rfl (fun q_102 hf => ?_)
            refine z_aload_n (pc' := 106) C 0 dX6_readFactor_105 rfl rfl rfl ?_
            refine z_iload_n (pc' := 107) C 1 dX6_readFactor_106 rfl rfl rfl ?_
            refine z_iconst (pc' := 108) C dX6_readFactor_107 zk_iconst_1 rfl ?_
            refine z_iadd (pc' := 109) C dX6_readFactor_108 rfl ?_
            refine z_cV (pc' := 112) C hf (As := [.int (p1 + (1 : Int32))]) (fun hq => hR0 (a := a) (pr_pricing := pr_pricing) (zc_i (o := 0) n_a0 rfl) (zc_o (o := 1) (zc_f (m := 3) h_a1 (by omega) rfl) rfl) (zc_o (o := 2) (zc_f (m := 3) h_a2 (by omega) rfl) rfl) (zc_f (m := 37) (zc_i (o := 0) n_pr_pricing0 rfl) (by omega) rfl) (zc_f (m := 37) (zc_i (o := 2) n_pr_pricing2 rfl) (by omega) rfl) (by omega) hq) (fun q_109 => (zu (zu h pr_pricing [(0, .inr (4, [.int pg_threshold, .int q_109.2.2.2.2.2.2.1, .ref (zo w + (pr_pricing + 2)), .ref (zo w + (pr_pricing + 1))])), (2, .inl (w.2.2.1 0, pg_clen, .inl q_109.2.2.2.2.2.2.2))]) a [(0, .inr (6, [.ref (zo w + (a + 1)), .int rd_filled, .ref (zo w + (a + 2)), .int rd_length, .int q_109.1, .int q_109.2.1, .int q_109.2.2.1, .int q_109.2.2.2.1, .int q_109.2.2.2.2.1, .int q_109.2.2.2.2.2.1, .int rd_hasThreshold, .int rd_hasRate]))])) (fun q_109 => []) (fun _ => zu_shB (d := 0) (m := 37) (n := 3) rfl rfl (by omega) rfl rfl rfl rfl) (fun _ => rfl) zy_X6_readSum zw_639 zw_641 zv_12 (ci := 6) rfl (zc_i (o := 0) n_a0 rfl) ⟨rfl, rfl⟩ zRm_r rfl rfl rfl rfl dX6_readFactor_109 rfl (fun q_109 hf => ?_)
            refine z_aload_n (pc' := 113) C 0 dX6_readFactor_112 rfl rfl rfl ?_
            refine z_bipush (pc' := 115) C dX6_readFactor_113 zk_bipush_41 rfl ?_
            refine z_cV (pc' := 118) C hf (As := [.int (41 : Int32)]) (fun hq => c_X6_take (a := a) (zc_i (o := 0) n_a0 rfl) (zc_o (o := 1) (zc_f (m := 3) h_a1 (by omega) rfl) rfl) hq) (fun q_115 => (zu (zu h pr_pricing [(0, .inr (4, [.int pg_threshold, .int q_109.2.2.2.2.2.2.1, .ref (zo w + (pr_pricing + 2)), .ref (zo w + (pr_pricing + 1))])), (2, .inl (w.2.2.1 0, pg_clen, .inl q_109.2.2.2.2.2.2.2))]) a [(0, .inr (6, [.ref (zo w + (a + 1)), .int rd_filled, .ref (zo w + (a + 2)), .int rd_length, .int q_115.1, .int q_115.2.1, .int q_115.2.2.1, .int q_115.2.2.2.1, .int q_115.2.2.2.2.1, .int q_115.2.2.2.2.2, .int rd_hasThreshold, .int rd_hasRate]))])) (fun q_115 => []) (fun _ => zu_sh (d := 0) rfl rfl) (fun _ => rfl) zy_X6_take zw_608 zw_610 zv_8 (ci := 6) rfl (zc_i (o := 0) n_a0 rfl) ⟨rfl, rfl⟩ (zRm_c rfl) rfl rfl rfl rfl dX6_readFactor_115 rfl (fun q_115 hf => ?_)
            cases hf
            exact z_vret C rfl rfl dX6_readFactor_118
          · refine z_aload_n (pc' := 89) C 0 dX6_readFactor_88 rfl rfl rfl ?_
            refine z_aload_n (pc' := 90) C 0 dX6_readFactor_89 rfl rfl rfl ?_
            refine z_getf (pc' := 93) C zci_6 zw_282 (j := 6) rfl (zc_i (o := 0) n_a0 rfl) rfl rfl dX6_readFactor_90 rfl ?_
            refine z_bipush (pc' := 95) C dX6_readFactor_93 zk_bipush_m5 rfl ?_
            refine z_cV (pc' := 98) C hf (As := [.int rd_start, .int (-5 : Int32)]) (fun hq => c_X6_failAt (a := a) (zc_i (o := 0) n_a0 rfl) hq) (fun q_95 => (zu (zu h pr_pricing [(0, .inr (4, [.int pg_threshold, .int pg_length, .ref (zo w + (pr_pricing + 2)), .ref (zo w + (pr_pricing + 1))])), (2, .inl (w.2.2.1 0, pg_clen, .inl pg_code))]) a [(0, .inr (6, [.ref (zo w + (a + 1)), .int rd_filled, .ref (zo w + (a + 2)), .int rd_length, .int rd_at, .int rd_kind, .int rd_start, .int rd_value, .int q_95.1, .int q_95.2, .int rd_hasThreshold, .int rd_hasRate]))])) (fun q_95 => []) (fun _ => zu_sh (d := 0) rfl rfl) (fun _ => rfl) zy_X6_failAt zw_599 zw_601 zv_6 (ci := 6) rfl (zc_i (o := 0) n_a0 rfl) ⟨rfl, rfl⟩ (zRm_c rfl) rfl rfl rfl rfl dX6_readFactor_95 rfl (fun q_95 hf => ?_)
            refine z_goto C 118 dX6_readFactor_98 rfl ?_
            cases hf
            exact z_vret C rfl rfl dX6_readFactor_118
        · refine z_aload_n (pc' := 63) C 0 dX6_readFactor_62 rfl rfl rfl ?_
          refine z_getf (pc' := 66) C zci_6 zw_277 (j := 2) rfl (zc_i (o := 0) n_a0 rfl) rfl rfl dX6_readFactor_63 rfl ?_
          refine z_getf (pc' := 69) C zci_5 zw_243 (j := 3) rfl (zc_o (o := 2) (zc_f (m := 3) h_a2 (by omega) rfl) rfl) rfl rfl dX6_readFactor_66 rfl ?_
          refine z_aload_n (pc' := 70) C 0 dX6_readFactor_69 rfl rfl rfl ?_
          refine z_iconst (pc' := 71) C dX6_readFactor_70 zk_iconst_0 rfl ?_
          refine z_sipush (pc' := 74) C dX6_readFactor_71 zk_sipush_9999 rfl ?_
          refine z_cV (pc' := 77) C hf (As := [.int (0 : Int32), .int (9999 : Int32)]) (fun hq => c_X6_takeNumber (a := a) (zc_i (o := 0) n_a0 rfl) (zc_o (o := 1) (zc_f (m := 3) h_a1 (by omega) rfl) rfl) hq) (fun q_74 => (zu (zu h pr_pricing [(0, .inr (4, [.int pg_threshold, .int pg_length, .ref (zo w + (pr_pricing + 2)), .ref (zo w + (pr_pricing + 1))])), (2, .inl (w.2.2.1 0, pg_clen, .inl pg_code))]) a [(0, .inr (6, [.ref (zo w + (a + 1)), .int rd_filled, .ref (zo w + (a + 2)), .int rd_length, .int q_74.2.1, .int q_74.2.2.1, .int q_74.2.2.2.1, .int q_74.2.2.2.2.1, .int q_74.2.2.2.2.2.1, .int q_74.2.2.2.2.2.2, .int rd_hasThreshold, .int rd_hasRate]))])) (fun q_74 => [.int q_74.1, .ref (zo w + pr_pricing)]) (fun _ => zu_sh (d := 0) rfl rfl) (fun _ => rfl) zy_X6_takeNumber zw_604 zw_606 zv_7 (ci := 6) rfl (zc_i (o := 0) n_a0 rfl) ⟨rfl, rfl⟩ (zRm_c rfl) rfl rfl rfl rfl dX6_readFactor_74 rfl (fun q_74 hf => ?_)
          refine z_cV (pc' := 80) C hf (As := [.int q_74.1]) (fun hq => c_X4_add (a := pr_pricing) (zc_f (m := 37) (zc_i (o := 0) n_pr_pricing0 rfl) (by omega) rfl) (zc_f (m := 37) (zc_i (o := 2) n_pr_pricing2 rfl) (by omega) rfl) hq) (fun q_77 => (zu (zu h pr_pricing [(0, .inr (4, [.int pg_threshold, .int q_77.1, .ref (zo w + (pr_pricing + 2)), .ref (zo w + (pr_pricing + 1))])), (2, .inl (w.2.2.1 0, pg_clen, .inl q_77.2))]) a [(0, .inr (6, [.ref (zo w + (a + 1)), .int rd_filled, .ref (zo w + (a + 2)), .int rd_length, .int q_74.2.1, .int q_74.2.2.1, .int q_74.2.2.2.1, .int q_74.2.2.2.2.1, .int q_74.2.2.2.2.2.1, .int q_74.2.2.2.2.2.2, .int rd_hasThreshold, .int rd_hasRate]))])) (fun q_77 => []) (fun _ => zu_shG (m := 37) (n := 3) rfl rfl (by omega) rfl rfl) (fun _ => rfl) zy_X4_add zw_656 zw_657 zw_658 (ci := 4) rfl (zc_f (m := 37) (zc_i (o := 0) n_pr_pricing0 rfl) (by omega) rfl) ⟨rfl, rfl⟩ (zRm_c rfl) rfl rfl rfl rfl dX6_readFactor_77 rfl (fun q_77 hf => ?_)
          refine z_goto C 118 dX6_readFactor_80 rfl ?_
          cases hf
          exact z_vret C rfl rfl dX6_readFactor_118
      · refine z_aload_n (pc' := 45) C 0 dX6_readFactor_44 rfl rfl rfl ?_
        refine z_bipush (pc' := 47) C dX6_readFactor_45 zk_bipush_m3 rfl ?_
        refine z_cV (pc' := 50) C hf (As := [.int (-3 : Int32)]) (fun hq => c_X6_addOperand (a := a) (pr_pricing := pr_pricing) (zc_i (o := 0) n_a0 rfl) (zc_o (o := 1) (zc_f (m := 3) h_a1 (by omega) rfl) rfl) (zc_o (o := 2) (zc_f (m := 3) h_a2 (by omega) rfl) rfl) (zc_f (m := 37) (zc_i (o := 0) n_pr_pricing0 rfl) (by omega) rfl) (zc_f (m := 37) (zc_i (o := 2) n_pr_pricing2 rfl) (by omega) rfl) (by omega) hq) (fun q_47 => (zu (zu h pr_pricing [(0, .inr (4, [.int pg_threshold, .int q_47.2.2.2.2.1, .ref (zo w + (pr_pricing + 2)), .ref (zo w + (pr_pricing + 1))])), (2, .inl (w.2.2.1 0, pg_clen, .inl q_47.2.2.2.2.2))]) a [(0, .inr (6, [.ref (zo w + (a + 1)), .int rd_filled, .ref (zo w + (a + 2)), .int rd_length, .int q_47.1, .int q_47.2.1, .int q_47.2.2.1, .int q_47.2.2.2.1, .int rd_error, .int rd_errorAt, .int rd_hasThreshold, .int rd_hasRate]))])) (fun q_47 => []) (fun _ => zu_shB (d := 0) (m := 37) (n := 3) rfl rfl (by omega) rfl rfl rfl rfl) (fun _ => rfl) zy_X6_addOperand zw_652 zw_654 zv_15 (ci := 6) rfl (zc_i (o := 0) n_a0 rfl) ⟨rfl, rfl⟩ (zRm_c rfl) rfl rfl rfl rfl dX6_readFactor_47 rfl (fun q_47 hf => ?_)
        refine z_goto C 118 dX6_readFactor_50 rfl ?_
        cases hf
        exact z_vret C rfl rfl dX6_readFactor_118
    · refine z_aload_n (pc' := 27) C 0 dX6_readFactor_26 rfl rfl rfl ?_
      refine z_bipush (pc' := 29) C dX6_readFactor_27 zk_bipush_m2 rfl ?_
      refine z_cV (pc' := 32) C hf (As := [.int (-2 : Int32)]) (fun hq => c_X6_addOperand (a := a) (pr_pricing := pr_pricing) (zc_i (o := 0) n_a0 rfl) (zc_o (o := 1) (zc_f (m := 3) h_a1 (by omega) rfl) rfl) (zc_o (o := 2) (zc_f (m := 3) h_a2 (by omega) rfl) rfl) (zc_f (m := 37) (zc_i (o := 0) n_pr_pricing0 rfl) (by omega) rfl) (zc_f (m := 37) (zc_i (o := 2) n_pr_pricing2 rfl) (by omega) rfl) (by omega) hq) (fun q_29 => (zu (zu h pr_pricing [(0, .inr (4, [.int pg_threshold, .int q_29.2.2.2.2.1, .ref (zo w + (pr_pricing + 2)), .ref (zo w + (pr_pricing + 1))])), (2, .inl (w.2.2.1 0, pg_clen, .inl q_29.2.2.2.2.2))]) a [(0, .inr (6, [.ref (zo w + (a + 1)), .int rd_filled, .ref (zo w + (a + 2)), .int rd_length, .int q_29.1, .int q_29.2.1, .int q_29.2.2.1, .int q_29.2.2.2.1, .int rd_error, .int rd_errorAt, .int rd_hasThreshold, .int rd_hasRate]))])) (fun q_29 => []) (fun _ => zu_shB (d := 0) (m := 37) (n := 3) rfl rfl (by omega) rfl rfl rfl rfl) (fun _ => rfl) zy_X6_addOperand zw_652 zw_654 zv_15 (ci := 6) rfl (zc_i (o := 0) n_a0 rfl) ⟨rfl, rfl⟩ (zRm_c rfl) rfl rfl rfl rfl dX6_readFactor_29 rfl (fun q_29 hf => ?_)
      refine z_goto C 118 dX6_readFactor_32 rfl ?_
      cases hf
      exact z_vret C rfl rfl dX6_readFactor_118
  · refine z_aload_n (pc' := 10) C 0 dX6_readFactor_9 rfl rfl rfl ?_
    refine z_iconst (pc' := 11) C dX6_readFactor_10 zk_iconst_m1 rfl ?_
    refine z_cV (pc' := 14) C hf (As := [.int (-1 : Int32)]) (fun hq => c_X6_addOperand (a := a) (pr_pricing := pr_pricing) (zc_i (o := 0) n_a0 rfl) (zc_o (o := 1) (zc_f (m := 3) h_a1 (by omega) rfl) rfl) (zc_o (o := 2) (zc_f (m := 3) h_a2 (by omega) rfl) rfl) (zc_f (m := 37) (zc_i (o := 0) n_pr_pricing0 rfl) (by omega) rfl) (zc_f (m := 37) (zc_i (o := 2) n_pr_pricing2 rfl) (by omega) rfl) (by omega) hq) (fun q_11 => (zu (zu h pr_pricing [(0, .inr (4, [.int pg_threshold, .int q_11.2.2.2.2.1, .ref (zo w + (pr_pricing + 2)), .ref (zo w + (pr_pricing + 1))])), (2, .inl (w.2.2.1 0, pg_clen, .inl q_11.2.2.2.2.2))]) a [(0, .inr (6, [.ref (zo w + (a + 1)), .int rd_filled, .ref (zo w + (a + 2)), .int rd_length, .int q_11.1, .int q_11.2.1, .int q_11.2.2.1, .int q_11.2.2.2.1, .int rd_error, .int rd_errorAt, .int rd_hasThreshold, .int rd_hasRate]))])) (fun q_11 => []) (fun _ => zu_shB (d := 0) (m := 37) (n := 3) rfl rfl (by omega) rfl rfl rfl rfl) (fun _ => rfl) zy_X6_addOperand zw_652 zw_654 zv_15 (ci := 6) rfl (zc_i (o := 0) n_a0 rfl) ⟨rfl, rfl⟩ (zRm_c rfl) rfl rfl rfl rfl dX6_readFactor_11 rfl (fun q_11 hf => ?_)
    refine z_goto C 118 dX6_readFactor_14 rfl ?_
    cases hf
    exact z_vret C rfl rfl dX6_readFactor_118
theorem c_X6_rec {w : zV} {N : Nat} : ∀ d : Nat, (∀ {h : zH} {a : Nat} {rd_filled : Int32} {rd_hasThreshold : Int32} {rd_hasRate : Int32} {rd_length : Int32} {rd_at : Int32} {rd_kind : Int32} {rd_start : Int32} {rd_value : Int32} {rd_error : Int32} {rd_errorAt : Int32} {rd_text : Nat → Int32} {pr_day : Int32} {pr_pricing : Nat} {pg_threshold : Int32} {pg_length : Int32} {pg_clen : Nat} {pg_code : Nat → Int32} {p1 : Int32} {r : Int32 × Int32 × Int32 × Int32 × Int32 × Int32 × Int32 × (Nat → Int32)}, zc N h (a + 0) (.inr (6, [.ref (zo w + (a + 1)), .int rd_filled, .ref (zo w + (a + 2)), .int rd_length, .int rd_at, .int rd_kind, .int rd_start, .int rd_value, .int rd_error, .int rd_errorAt, .int rd_hasThreshold, .int rd_hasRate])) → zc N h (a + 1) (.inl (w.2.2.1 2, 900, .inl rd_text)) → zc N h (a + 2) (.inr (5, [.int pr_day, .ref (zo w + (a + 3)), .ref (zo w + (a + 4)), .ref (zo w + pr_pricing), .ref (zo w + (a + 15)), .ref (zo w + (a + 21)), .ref (zo w + (a + 25)), .ref (zo w + (a + 31)), .ref (zo w + (a + 36))])) → zc N h (pr_pricing + 0) (.inr (4, [.int pg_threshold, .int pg_length, .ref (zo w + (pr_pricing + 2)), .ref (zo w + (pr_pricing + 1))])) → zc N h (pr_pricing + 2) (.inl (w.2.2.1 0, pg_clen, .inl pg_code)) → a + 37 ≤ pr_pricing → f_X6_rec d 0 rd_length rd_at rd_kind rd_start rd_value rd_error rd_errorAt rd_text pg_length pg_clen pg_code p1 = some r → zM w yX6_readSum cX6_readSum 4 none (zrd d) false N N h [.ref (zo w + a), .int p1] (none) (zu (zu h pr_pricing [(0, .inr (4, [.int pg_threshold, .int r.2.2.2.2.2.2.1, .ref (zo w + (pr_pricing + 2)), .ref (zo w + (pr_pricing + 1))])), (2, .inl (w.2.2.1 0, pg_clen, .inl r.2.2.2.2.2.2.2))]) a [(0, .inr (6, [.ref (zo w + (a + 1)), .int rd_filled, .ref (zo w + (a + 2)), .int rd_length, .int r.1, .int r.2.1, .int r.2.2.1, .int r.2.2.2.1, .int r.2.2.2.2.1, .int r.2.2.2.2.2.1, .int rd_hasThreshold, .int rd_hasRate]))])) ∧ (∀ {h : zH} {a : Nat} {rd_filled : Int32} {rd_hasThreshold : Int32} {rd_hasRate : Int32} {rd_length : Int32} {rd_at : Int32} {rd_kind : Int32} {rd_start : Int32} {rd_value : Int32} {rd_error : Int32} {rd_errorAt : Int32} {rd_text : Nat → Int32} {pr_day : Int32} {pr_pricing : Nat} {pg_threshold : Int32} {pg_length : Int32} {pg_clen : Nat} {pg_code : Nat → Int32} {p1 : Int32} {r : Int32 × Int32 × Int32 × Int32 × Int32 × Int32 × Int32 × (Nat → Int32)}, zc N h (a + 0) (.inr (6, [.ref (zo w + (a + 1)), .int rd_filled, .ref (zo w + (a + 2)), .int rd_length, .int rd_at, .int rd_kind, .int rd_start, .int rd_value, .int rd_error, .int rd_errorAt, .int rd_hasThreshold, .int rd_hasRate])) → zc N h (a + 1) (.inl (w.2.2.1 2, 900, .inl rd_text)) → zc N h (a + 2) (.inr (5, [.int pr_day, .ref (zo w + (a + 3)), .ref (zo w + (a + 4)), .ref (zo w + pr_pricing), .ref (zo w + (a + 15)), .ref (zo w + (a + 21)), .ref (zo w + (a + 25)), .ref (zo w + (a + 31)), .ref (zo w + (a + 36))])) → zc N h (pr_pricing + 0) (.inr (4, [.int pg_threshold, .int pg_length, .ref (zo w + (pr_pricing + 2)), .ref (zo w + (pr_pricing + 1))])) → zc N h (pr_pricing + 2) (.inl (w.2.2.1 0, pg_clen, .inl pg_code)) → a + 37 ≤ pr_pricing → f_X6_rec d 1 rd_length rd_at rd_kind rd_start rd_value rd_error rd_errorAt rd_text pg_length pg_clen pg_code p1 = some r → zM w yX6_readTerm cX6_readTerm 4 none (zrd d) false N N h [.ref (zo w + a), .int p1] (none) (zu (zu h pr_pricing [(0, .inr (4, [.int pg_threshold, .int r.2.2.2.2.2.2.1, .ref (zo w + (pr_pricing + 2)), .ref (zo w + (pr_pricing + 1))])), (2, .inl (w.2.2.1 0, pg_clen, .inl r.2.2.2.2.2.2.2))]) a [(0, .inr (6, [.ref (zo w + (a + 1)), .int rd_filled, .ref (zo w + (a + 2)), .int rd_length, .int r.1, .int r.2.1, .int r.2.2.1, .int r.2.2.2.1, .int r.2.2.2.2.1, .int r.2.2.2.2.2.1, .int rd_hasThreshold, .int rd_hasRate]))])) ∧ (∀ {h : zH} {a : Nat} {rd_filled : Int32} {rd_hasThreshold : Int32} {rd_hasRate : Int32} {rd_length : Int32} {rd_at : Int32} {rd_kind : Int32} {rd_start : Int32} {rd_value : Int32} {rd_error : Int32} {rd_errorAt : Int32} {rd_text : Nat → Int32} {pr_day : Int32} {pr_pricing : Nat} {pg_threshold : Int32} {pg_length : Int32} {pg_clen : Nat} {pg_code : Nat → Int32} {p1 : Int32} {r : Int32 × Int32 × Int32 × Int32 × Int32 × Int32 × Int32 × (Nat → Int32)}, zc N h (a + 0) (.inr (6, [.ref (zo w + (a + 1)), .int rd_filled, .ref (zo w + (a + 2)), .int rd_length, .int rd_at, .int rd_kind, .int rd_start, .int rd_value, .int rd_error, .int rd_errorAt, .int rd_hasThreshold, .int rd_hasRate])) → zc N h (a + 1) (.inl (w.2.2.1 2, 900, .inl rd_text)) → zc N h (a + 2) (.inr (5, [.int pr_day, .ref (zo w + (a + 3)), .ref (zo w + (a + 4)), .ref (zo w + pr_pricing), .ref (zo w + (a + 15)), .ref (zo w + (a + 21)), .ref (zo w + (a + 25)), .ref (zo w + (a + 31)), .ref (zo w + (a + 36))])) → zc N h (pr_pricing + 0) (.inr (4, [.int pg_threshold, .int pg_length, .ref (zo w + (pr_pricing + 2)), .ref (zo w + (pr_pricing + 1))])) → zc N h (pr_pricing + 2) (.inl (w.2.2.1 0, pg_clen, .inl pg_code)) → a + 37 ≤ pr_pricing → f_X6_rec d 2 rd_length rd_at rd_kind rd_start rd_value rd_error rd_errorAt rd_text pg_length pg_clen pg_code p1 = some r → zM w yX6_readFactor cX6_readFactor 2 none (zrd d) false N N h [.ref (zo w + a), .int p1] (none) (zu (zu h pr_pricing [(0, .inr (4, [.int pg_threshold, .int r.2.2.2.2.2.2.1, .ref (zo w + (pr_pricing + 2)), .ref (zo w + (pr_pricing + 1))])), (2, .inl (w.2.2.1 0, pg_clen, .inl r.2.2.2.2.2.2.2))]) a [(0, .inr (6, [.ref (zo w + (a + 1)), .int rd_filled, .ref (zo w + (a + 2)), .int rd_length, .int r.1, .int r.2.1, .int r.2.2.1, .int r.2.2.2.1, .int r.2.2.2.2.1, .int r.2.2.2.2.2.1, .int rd_hasThreshold, .int rd_hasRate]))])) := by
  intro d
  induction d with
  | zero => exact ⟨(fun g0 g1 g2 g3 g4 g5 hf => absurd (show (none : Option (Int32 × Int32 × Int32 × Int32 × Int32 × Int32 × Int32 × (Nat → Int32))) = some _ from hf) (fun q => by cases q)), (fun g0 g1 g2 g3 g4 g5 hf => absurd (show (none : Option (Int32 × Int32 × Int32 × Int32 × Int32 × Int32 × Int32 × (Nat → Int32))) = some _ from hf) (fun q => by cases q)), (fun g0 g1 g2 g3 g4 g5 hf => absurd (show (none : Option (Int32 × Int32 × Int32 × Int32 × Int32 × Int32 × Int32 × (Nat → Int32))) = some _ from hf) (fun q => by cases q))⟩
  | succ d ih => exact ⟨(fun g0 g1 g2 g3 g4 g5 hf => cb_X6_readSum g0 g1 g2 g3 g4 g5 ih.1 ih.2.1 ih.2.2 hf), (fun g0 g1 g2 g3 g4 g5 hf => cb_X6_readTerm g0 g1 g2 g3 g4 g5 ih.1 ih.2.1 ih.2.2 hf), (fun g0 g1 g2 g3 g4 g5 hf => cb_X6_readFactor g0 g1 g2 g3 g4 g5 ih.1 ih.2.1 ih.2.2 hf)⟩
theorem c_X6_readSum {w : zV} {N : Nat} : ∀ {h : zH} {a : Nat} {rd_filled : Int32} {rd_hasThreshold : Int32} {rd_hasRate : Int32} {rd_length : Int32} {rd_at : Int32} {rd_kind : Int32} {rd_start : Int32} {rd_value : Int32} {rd_error : Int32} {rd_errorAt : Int32} {rd_text : Nat → Int32} {pr_day : Int32} {pr_pricing : Nat} {pg_threshold : Int32} {pg_length : Int32} {pg_clen : Nat} {pg_code : Nat → Int32} {p1 : Int32} {r : Int32 × Int32 × Int32 × Int32 × Int32 × Int32 × Int32 × (Nat → Int32)}, zc N h (a + 0) (.inr (6, [.ref (zo w + (a + 1)), .int rd_filled, .ref (zo w + (a + 2)), .int rd_length, .int rd_at, .int rd_kind, .int rd_start, .int rd_value, .int rd_error, .int rd_errorAt, .int rd_hasThreshold, .int rd_hasRate])) → zc N h (a + 1) (.inl (w.2.2.1 2, 900, .inl rd_text)) → zc N h (a + 2) (.inr (5, [.int pr_day, .ref (zo w + (a + 3)), .ref (zo w + (a + 4)), .ref (zo w + pr_pricing), .ref (zo w + (a + 15)), .ref (zo w + (a + 21)), .ref (zo w + (a + 25)), .ref (zo w + (a + 31)), .ref (zo w + (a + 36))])) → zc N h (pr_pricing + 0) (.inr (4, [.int pg_threshold, .int pg_length, .ref (zo w + (pr_pricing + 2)), .ref (zo w + (pr_pricing + 1))])) → zc N h (pr_pricing + 2) (.inl (w.2.2.1 0, pg_clen, .inl pg_code)) → a + 37 ≤ pr_pricing → f_X6_rec DR 0 rd_length rd_at rd_kind rd_start rd_value rd_error rd_errorAt rd_text pg_length pg_clen pg_code p1 = some r → zM w yX6_readSum cX6_readSum 4 none (zr 32 1700) false N N h [.ref (zo w + a), .int p1] (none) (zu (zu h pr_pricing [(0, .inr (4, [.int pg_threshold, .int r.2.2.2.2.2.2.1, .ref (zo w + (pr_pricing + 2)), .ref (zo w + (pr_pricing + 1))])), (2, .inl (w.2.2.1 0, pg_clen, .inl r.2.2.2.2.2.2.2))]) a [(0, .inr (6, [.ref (zo w + (a + 1)), .int rd_filled, .ref (zo w + (a + 2)), .int rd_length, .int r.1, .int r.2.1, .int r.2.2.1, .int r.2.2.2.1, .int r.2.2.2.2.1, .int r.2.2.2.2.2.1, .int rd_hasThreshold, .int rd_hasRate]))]) := (c_X6_rec DR).1
theorem c_X6_readTerm {w : zV} {N : Nat} : ∀ {h : zH} {a : Nat} {rd_filled : Int32} {rd_hasThreshold : Int32} {rd_hasRate : Int32} {rd_length : Int32} {rd_at : Int32} {rd_kind : Int32} {rd_start : Int32} {rd_value : Int32} {rd_error : Int32} {rd_errorAt : Int32} {rd_text : Nat → Int32} {pr_day : Int32} {pr_pricing : Nat} {pg_threshold : Int32} {pg_length : Int32} {pg_clen : Nat} {pg_code : Nat → Int32} {p1 : Int32} {r : Int32 × Int32 × Int32 × Int32 × Int32 × Int32 × Int32 × (Nat → Int32)}, zc N h (a + 0) (.inr (6, [.ref (zo w + (a + 1)), .int rd_filled, .ref (zo w + (a + 2)), .int rd_length, .int rd_at, .int rd_kind, .int rd_start, .int rd_value, .int rd_error, .int rd_errorAt, .int rd_hasThreshold, .int rd_hasRate])) → zc N h (a + 1) (.inl (w.2.2.1 2, 900, .inl rd_text)) → zc N h (a + 2) (.inr (5, [.int pr_day, .ref (zo w + (a + 3)), .ref (zo w + (a + 4)), .ref (zo w + pr_pricing), .ref (zo w + (a + 15)), .ref (zo w + (a + 21)), .ref (zo w + (a + 25)), .ref (zo w + (a + 31)), .ref (zo w + (a + 36))])) → zc N h (pr_pricing + 0) (.inr (4, [.int pg_threshold, .int pg_length, .ref (zo w + (pr_pricing + 2)), .ref (zo w + (pr_pricing + 1))])) → zc N h (pr_pricing + 2) (.inl (w.2.2.1 0, pg_clen, .inl pg_code)) → a + 37 ≤ pr_pricing → f_X6_rec DR 1 rd_length rd_at rd_kind rd_start rd_value rd_error rd_errorAt rd_text pg_length pg_clen pg_code p1 = some r → zM w yX6_readTerm cX6_readTerm 4 none (zr 32 1700) false N N h [.ref (zo w + a), .int p1] (none) (zu (zu h pr_pricing [(0, .inr (4, [.int pg_threshold, .int r.2.2.2.2.2.2.1, .ref (zo w + (pr_pricing + 2)), .ref (zo w + (pr_pricing + 1))])), (2, .inl (w.2.2.1 0, pg_clen, .inl r.2.2.2.2.2.2.2))]) a [(0, .inr (6, [.ref (zo w + (a + 1)), .int rd_filled, .ref (zo w + (a + 2)), .int rd_length, .int r.1, .int r.2.1, .int r.2.2.1, .int r.2.2.2.1, .int r.2.2.2.2.1, .int r.2.2.2.2.2.1, .int rd_hasThreshold, .int rd_hasRate]))]) := (c_X6_rec DR).2.1
theorem c_X6_readFactor {w : zV} {N : Nat} : ∀ {h : zH} {a : Nat} {rd_filled : Int32} {rd_hasThreshold : Int32} {rd_hasRate : Int32} {rd_length : Int32} {rd_at : Int32} {rd_kind : Int32} {rd_start : Int32} {rd_value : Int32} {rd_error : Int32} {rd_errorAt : Int32} {rd_text : Nat → Int32} {pr_day : Int32} {pr_pricing : Nat} {pg_threshold : Int32} {pg_length : Int32} {pg_clen : Nat} {pg_code : Nat → Int32} {p1 : Int32} {r : Int32 × Int32 × Int32 × Int32 × Int32 × Int32 × Int32 × (Nat → Int32)}, zc N h (a + 0) (.inr (6, [.ref (zo w + (a + 1)), .int rd_filled, .ref (zo w + (a + 2)), .int rd_length, .int rd_at, .int rd_kind, .int rd_start, .int rd_value, .int rd_error, .int rd_errorAt, .int rd_hasThreshold, .int rd_hasRate])) → zc N h (a + 1) (.inl (w.2.2.1 2, 900, .inl rd_text)) → zc N h (a + 2) (.inr (5, [.int pr_day, .ref (zo w + (a + 3)), .ref (zo w + (a + 4)), .ref (zo w + pr_pricing), .ref (zo w + (a + 15)), .ref (zo w + (a + 21)), .ref (zo w + (a + 25)), .ref (zo w + (a + 31)), .ref (zo w + (a + 36))])) → zc N h (pr_pricing + 0) (.inr (4, [.int pg_threshold, .int pg_length, .ref (zo w + (pr_pricing + 2)), .ref (zo w + (pr_pricing + 1))])) → zc N h (pr_pricing + 2) (.inl (w.2.2.1 0, pg_clen, .inl pg_code)) → a + 37 ≤ pr_pricing → f_X6_rec DR 2 rd_length rd_at rd_kind rd_start rd_value rd_error rd_errorAt rd_text pg_length pg_clen pg_code p1 = some r → zM w yX6_readFactor cX6_readFactor 2 none (zr 32 1700) false N N h [.ref (zo w + a), .int p1] (none) (zu (zu h pr_pricing [(0, .inr (4, [.int pg_threshold, .int r.2.2.2.2.2.2.1, .ref (zo w + (pr_pricing + 2)), .ref (zo w + (pr_pricing + 1))])), (2, .inl (w.2.2.1 0, pg_clen, .inl r.2.2.2.2.2.2.2))]) a [(0, .inr (6, [.ref (zo w + (a + 1)), .int rd_filled, .ref (zo w + (a + 2)), .int rd_length, .int r.1, .int r.2.1, .int r.2.2.1, .int r.2.2.2.1, .int r.2.2.2.2.1, .int r.2.2.2.2.2.1, .int rd_hasThreshold, .int rd_hasRate]))]) := (c_X6_rec DR).2.2
set_option maxRecDepth 20000 in
theorem w_X6_readStatement_77 {X : zC} {w : zV} {N : Nat} {h : zH} {a : Nat} {rd_filled : Int32} {rd_length : Int32} {rd_text : Nat → Int32} {pr_day : Int32} {pr_pricing : Nat} {pg_clen : Nat} (C : zK X w RX6 cX6_readStatement 1 none (zr 33 1731)) (n_a0 : a + 0 < N) (h_a1 : zc N h (a + 1) (.inl (w.2.2.1 2, 900, .inl rd_text))) (h_a2 : zc N h (a + 2) (.inr (5, [.int pr_day, .ref (zo w + (a + 3)), .ref (zo w + (a + 4)), .ref (zo w + pr_pricing), .ref (zo w + (a + 15)), .ref (zo w + (a + 21)), .ref (zo w + (a + 25)), .ref (zo w + (a + 31)), .ref (zo w + (a + 36))]))) (n_a4 : a + 4 < N) (n_a5 : a + 5 < N) (n_a6 : a + 6 < N) (n_a7 : a + 7 < N) (n_a8 : a + 8 < N) (n_a9 : a + 9 < N) (n_a10 : a + 10 < N) (n_a11 : a + 11 < N) (h_a15 : zc N h (a + 15) (.inr (2, [.ref (zo w + (a + 16)), .ref (zo w + (a + 17)), .ref (zo w + (a + 18)), .ref (zo w + (a + 19)), .ref (zo w + (a + 20))]))) (n_a16 : a + 16 < N) (n_a17 : a + 17 < N) (n_a18 : a + 18 < N) (n_a19 : a + 19 < N) (n_a20 : a + 20 < N) (n_pr_pricing0 : pr_pricing + 0 < N) (n_pr_pricing2 : pr_pricing + 2 < N) (far_a : a + 37 ≤ pr_pricing) {r : Int32 × Int32 × Int32 × Int32 × Int32 × Int32 × Int32 × Int32 × Int32 × (Nat → Int32) × (Nat → Int32) × (Nat → Int32) × (Nat → Int32) × (Nat → Int32) × (Nat → Int32) × (Nat → Int32) × Int32 × Int32 × (Nat → Int32) × (Nat → Int32) × (Nat → Int32) × (Nat → Int32) × (Nat → Int32) × (Nat → Int32)} {rd_at : Int32} {rd_kind : Int32} {rd_start : Int32} {rd_value : Int32} {rd_error : Int32} {rd_errorAt : Int32} {rd_hasThreshold : Int32} {rd_hasRate : Int32} {co_count : Int32} {co_parent : Nat → Int32} {co_retentionPercent : Nat → Int32} {co_limitPercent : Nat → Int32} {co_paymentDays : Nat → Int32} {co_rank : Nat → Int32} {co_linked : Nat → Int32} {co_stage : Nat → Int32} {pg_threshold : Int32} {pg_length : Int32} {pg_code : Nat → Int32} {it_count : Nat → Int32} {it_first : Nat → Int32} {it_price : Nat → Int32} {it_quantity : Nat → Int32} {it_progress : Nat → Int32} (hf : f_X6_readStatement_77  rd_length rd_at rd_kind rd_start rd_value rd_error rd_errorAt rd_hasThreshold rd_hasRate rd_text co_count co_parent co_retentionPercent co_limitPercent co_paymentDays co_rank co_linked co_stage pg_threshold pg_length pg_clen pg_code it_count it_first it_price it_quantity it_progress = some r) : zZ X w (zQ X w (zr 33 1731) (none) false N (zu (zu h pr_pricing [(0, .inr (4, [.int r.2.2.2.2.2.2.2.2.2.2.2.2.2.2.2.2.1, .int r.2.2.2.2.2.2.2.2.2.2.2.2.2.2.2.2.2.1, .ref (zo w + (pr_pricing + 2)), .ref (zo w + (pr_pricing + 1))])), (2, .inl (w.2.2.1 0, pg_clen, .inl r.2.2.2.2.2.2.2.2.2.2.2.2.2.2.2.2.2.2.1))]) a [(0, .inr (6, [.ref (zo w + (a + 1)), .int rd_filled, .ref (zo w + (a + 2)), .int rd_length, .int r.1, .int r.2.1, .int r.2.2.1, .int r.2.2.2.1, .int r.2.2.2.2.1, .int r.2.2.2.2.2.1, .int r.2.2.2.2.2.2.1, .int r.2.2.2.2.2.2.2.1])), (4, .inr (1, [.int r.2.2.2.2.2.2.2.2.1, .ref (zo w + (a + 5)), .ref (zo w + (a + 6)), .ref (zo w + (a + 7)), .ref (zo w + (a + 8)), .ref (zo w + (a + 9)), .ref (zo w + (a + 10)), .ref (zo w + (a + 11))])), (5, .inl (w.2.2.1 0, 8, .inl r.2.2.2.2.2.2.2.2.2.1)), (6, .inl (w.2.2.1 0, 8, .inl r.2.2.2.2.2.2.2.2.2.2.1)), (7, .inl (w.2.2.1 0, 8, .inl r.2.2.2.2.2.2.2.2.2.2.2.1)), (8, .inl (w.2.2.1 0, 8, .inl r.2.2.2.2.2.2.2.2.2.2.2.2.1)), (9, .inl (w.2.2.1 0, 8, .inl r.2.2.2.2.2.2.2.2.2.2.2.2.2.1)), (10, .inl (w.2.2.1 3, 8, .inl r.2.2.2.2.2.2.2.2.2.2.2.2.2.2.1)), (11, .inl (w.2.2.1 0, 8, .inl r.2.2.2.2.2.2.2.2.2.2.2.2.2.2.2.1)), (16, .inl (w.2.2.1 0, 8, .inl r.2.2.2.2.2.2.2.2.2.2.2.2.2.2.2.2.2.2.2.1)), (17, .inl (w.2.2.1 0, 48, .inl r.2.2.2.2.2.2.2.2.2.2.2.2.2.2.2.2.2.2.2.2.1)), (18, .inl (w.2.2.1 0, 48, .inl r.2.2.2.2.2.2.2.2.2.2.2.2.2.2.2.2.2.2.2.2.2.1)), (19, .inl (w.2.2.1 0, 48, .inl r.2.2.2.2.2.2.2.2.2.2.2.2.2.2.2.2.2.2.2.2.2.2.1)), (20, .inl (w.2.2.1 0, 48, .inl r.2.2.2.2.2.2.2.2.2.2.2.2.2.2.2.2.2.2.2.2.2.2.2))])) 0 0 false N (zu (zu h pr_pricing [(0, .inr (4, [.int pg_threshold, .int pg_length, .ref (zo w + (pr_pricing + 2)), .ref (zo w + (pr_pricing + 1))])), (2, .inl (w.2.2.1 0, pg_clen, .inl pg_code))]) a [(0, .inr (6, [.ref (zo w + (a + 1)), .int rd_filled, .ref (zo w + (a + 2)), .int rd_length, .int rd_at, .int rd_kind, .int rd_start, .int rd_value, .int rd_error, .int rd_errorAt, .int rd_hasThreshold, .int rd_hasRate])), (4, .inr (1, [.int co_count, .ref (zo w + (a + 5)), .ref (zo w + (a + 6)), .ref (zo w + (a + 7)), .ref (zo w + (a + 8)), .ref (zo w + (a + 9)), .ref (zo w + (a + 10)), .ref (zo w + (a + 11))])), (5, .inl (w.2.2.1 0, 8, .inl co_parent)), (6, .inl (w.2.2.1 0, 8, .inl co_retentionPercent)), (7, .inl (w.2.2.1 0, 8, .inl co_limitPercent)), (8, .inl (w.2.2.1 0, 8, .inl co_paymentDays)), (9, .inl (w.2.2.1 0, 8, .inl co_rank)), (10, .inl (w.2.2.1 3, 8, .inl co_linked)), (11, .inl (w.2.2.1 0, 8, .inl co_stage)), (16, .inl (w.2.2.1 0, 8, .inl it_count)), (17, .inl (w.2.2.1 0, 48, .inl it_first)), (18, .inl (w.2.2.1 0, 48, .inl it_price)), (19, .inl (w.2.2.1 0, 48, .inl it_quantity)), (20, .inl (w.2.2.1 0, 48, .inl it_progress))]) 77 [(0, .ref (zo w + a))] [] := by
  unfold f_X6_readStatement_77 at hf
  refine z_aload_n (pc' := 78) C 0 dX6_readStatement_77 rfl rfl rfl ?_
  refine z_ldcS (pc' := 80) C 7 rfl dX6_readStatement_78 rfl ?_
  refine z_cV (pc' := 83) C hf (As := [.ref (zsa w 7)]) (fun hq => c_X6_isWord (a := a) (zc_i (o := 0) n_a0 rfl) (zc_o (o := 1) (zc_f (m := 3) h_a1 (by omega) rfl) rfl) (by decide) hq) (fun _ => (zu (zu h pr_pricing [(0, .inr (4, [.int pg_threshold, .int pg_length, .ref (zo w + (pr_pricing + 2)), .ref (zo w + (pr_pricing + 1))])), (2, .inl (w.2.2.1 0, pg_clen, .inl pg_code))]) a [(0, .inr (6, [.ref (zo w + (a + 1)), .int rd_filled, .ref (zo w + (a + 2)), .int rd_length, .int rd_at, .int rd_kind, .int rd_start, .int rd_value, .int rd_error, .int rd_errorAt, .int rd_hasThreshold, .int rd_hasRate])), (4, .inr (1, [.int co_count, .ref (zo w + (a + 5)), .ref (zo w + (a + 6)), .ref (zo w + (a + 7)), .ref (zo w + (a + 8)), .ref (zo w + (a + 9)), .ref (zo w + (a + 10)), .ref (zo w + (a + 11))])), (5, .inl (w.2.2.1 0, 8, .inl co_parent)), (6, .inl (w.2.2.1 0, 8, .inl co_retentionPercent)), (7, .inl (w.2.2.1 0, 8, .inl co_limitPercent)), (8, .inl (w.2.2.1 0, 8, .inl co_paymentDays)), (9, .inl (w.2.2.1 0, 8, .inl co_rank)), (10, .inl (w.2.2.1 3, 8, .inl co_linked)), (11, .inl (w.2.2.1 0, 8, .inl co_stage)), (16, .inl (w.2.2.1 0, 8, .inl it_count)), (17, .inl (w.2.2.1 0, 48, .inl it_first)), (18, .inl (w.2.2.1 0, 48, .inl it_price)), (19, .inl (w.2.2.1 0, 48, .inl it_quantity)), (20, .inl (w.2.2.1 0, 48, .inl it_progress))])) (fun q_80 => [.int q_80]) (fun _ => rfl) (fun _ => rfl) zy_X6_isWord zw_547 zw_549 zv_5 (ci := 6) rfl (zc_i (o := 0) n_a0 rfl) ⟨rfl, rfl⟩ rfl rfl rfl rfl rfl dX6_readStatement_80 rfl (fun q_80 hf => ?_)
  refine z_if_eq (pc' := 86) C 110 hf dX6_readStatement_83 rfl rfl (fun g_83 hf => ?_) (fun g_83 hf => ?_)
  · refine z_aload_n (pc' := 111) C 0 dX6_readStatement_110 rfl rfl rfl ?_
    refine z_aload_n (pc' := 112) C 0 dX6_readStatement_111 rfl rfl rfl ?_
    refine z_getf (pc' := 115) C zci_6 zw_282 (j := 6) rfl (zc_i (o := 0) n_a0 rfl) rfl rfl dX6_readStatement_112 rfl ?_
    refine z_bipush (pc' := 117) C dX6_readStatement_115 zk_bipush_m2 rfl ?_
    refine z_cV (pc' := 120) C hf (As := [.int rd_start, .int (-2 : Int32)]) (fun hq => c_X6_failAt (a := a) (zc_i (o := 0) n_a0 rfl) hq) (fun q_117 => (zu (zu h pr_pricing [(0, .inr (4, [.int pg_threshold, .int pg_length, .ref (zo w + (pr_pricing + 2)), .ref (zo w + (pr_pricing + 1))])), (2, .inl (w.2.2.1 0, pg_clen, .inl pg_code))]) a [(0, .inr (6, [.ref (zo w + (a + 1)), .int rd_filled, .ref (zo w + (a + 2)), .int rd_length, .int rd_at, .int rd_kind, .int rd_start, .int rd_value, .int q_117.1, .int q_117.2, .int rd_hasThreshold, .int rd_hasRate])), (4, .inr (1, [.int co_count, .ref (zo w + (a + 5)), .ref (zo w + (a + 6)), .ref (zo w + (a + 7)), .ref (zo w + (a + 8)), .ref (zo w + (a + 9)), .ref (zo w + (a + 10)), .ref (zo w + (a + 11))])), (5, .inl (w.2.2.1 0, 8, .inl co_parent)), (6, .inl (w.2.2.1 0, 8, .inl co_retentionPercent)), (7, .inl (w.2.2.1 0, 8, .inl co_limitPercent)), (8, .inl (w.2.2.1 0, 8, .inl co_paymentDays)), (9, .inl (w.2.2.1 0, 8, .inl co_rank)), (10, .inl (w.2.2.1 3, 8, .inl co_linked)), (11, .inl (w.2.2.1 0, 8, .inl co_stage)), (16, .inl (w.2.2.1 0, 8, .inl it_count)), (17, .inl (w.2.2.1 0, 48, .inl it_first)), (18, .inl (w.2.2.1 0, 48, .inl it_price)), (19, .inl (w.2.2.1 0, 48, .inl it_quantity)), (20, .inl (w.2.2.1 0, 48, .inl it_progress))])) (fun q_117 => []) (fun _ => zu_sh (d := 0) rfl rfl) (fun _ => rfl) zy_X6_failAt zw_599 zw_601 zv_6 (ci := 6) rfl (zc_i (o := 0) n_a0 rfl) ⟨rfl, rfl⟩ rfl rfl rfl rfl rfl dX6_readStatement_117 rfl (fun q_117 hf => ?_)
    cases hf
    exact z_vret C rfl rfl dX6_readStatement_120
  · refine z_aload_n (pc' := 87) C 0 dX6_readStatement_86 rfl rfl rfl ?_
    refine z_getf (pc' := 90) C zci_6 zw_288 (j := 11) rfl (zc_i (o := 0) n_a0 rfl) rfl rfl dX6_readStatement_87 rfl ?_
    refine z_if_ne (pc' := 93) C 110 hf dX6_readStatement_90 rfl rfl (fun g_90 hf => ?_) (fun g_90 hf => ?_)
    · refine z_aload_n (pc' := 111) C 0 dX6_readStatement_110 rfl rfl rfl ?_
      refine z_aload_n (pc' := 112) C 0 dX6_readStatement_111 rfl rfl rfl ?_
      refine z_getf (pc' := 115) C zci_6 zw_282 (j := 6) rfl (zc_i (o := 0) n_a0 rfl) rfl rfl dX6_readStatement_112 rfl ?_
      refine z_bipush (pc' := 117) C dX6_readStatement_115 zk_bipush_m2 rfl ?_
      refine z_cV (pc' := 120) C hf (As := [.int rd_start, .int (-2 : Int32)]) (fun hq => c_X6_failAt (a := a) (zc_i (o := 0) n_a0 rfl) hq) (fun q_117 => (zu (zu h pr_pricing [(0, .inr (4, [.int pg_threshold, .int pg_length, .ref (zo w + (pr_pricing + 2)), .ref (zo w + (pr_pricing + 1))])), (2, .inl (w.2.2.1 0, pg_clen, .inl pg_code))]) a [(0, .inr (6, [.ref (zo w + (a + 1)), .int rd_filled, .ref (zo w + (a + 2)), .int rd_length, .int rd_at, .int rd_kind, .int rd_start, .int rd_value, .int q_117.1, .int q_117.2, .int rd_hasThreshold, .int rd_hasRate])), (4, .inr (1, [.int co_count, .ref (zo w + (a + 5)), .ref (zo w + (a + 6)), .ref (zo w + (a + 7)), .ref (zo w + (a + 8)), .ref (zo w + (a + 9)), .ref (zo w + (a + 10)), .ref (zo w + (a + 11))])), (5, .inl (w.2.2.1 0, 8, .inl co_parent)), (6, .inl (w.2.2.1 0, 8, .inl co_retentionPercent)), (7, .inl (w.2.2.1 0, 8, .inl co_limitPercent)), (8, .inl (w.2.2.1 0, 8, .inl co_paymentDays)), (9, .inl (w.2.2.1 0, 8, .inl co_rank)), (10, .inl (w.2.2.1 3, 8, .inl co_linked)), (11, .inl (w.2.2.1 0, 8, .inl co_stage)), (16, .inl (w.2.2.1 0, 8, .inl it_count)), (17, .inl (w.2.2.1 0, 48, .inl it_first)), (18, .inl (w.2.2.1 0, 48, .inl it_price)), (19, .inl (w.2.2.1 0, 48, .inl it_quantity)), (20, .inl (w.2.2.1 0, 48, .inl it_progress))])) (fun q_117 => []) (fun _ => zu_sh (d := 0) rfl rfl) (fun _ => rfl) zy_X6_failAt zw_599 zw_601 zv_6 (ci := 6) rfl (zc_i (o := 0) n_a0 rfl) ⟨rfl, rfl⟩ rfl rfl rfl rfl rfl dX6_readStatement_117 rfl (fun q_117 hf => ?_)
      cases hf
      exact z_vret C rfl rfl dX6_readStatement_120
    · refine z_aload_n (pc' := 94) C 0 dX6_readStatement_93 rfl rfl rfl ?_
      refine z_iconst (pc' := 95) C dX6_readStatement_94 zk_iconst_1 rfl ?_
      refine z_putf (pc' := 98) C zci_6 zw_288 (j := 11) rfl (zc_i (o := 0) n_a0 rfl) (fs' := [.ref (zo w + (a + 1)), .int rd_filled, .ref (zo w + (a + 2)), .int rd_length, .int rd_at, .int rd_kind, .int rd_start, .int rd_value, .int rd_error, .int rd_errorAt, .int rd_hasThreshold, .int (1 : Int32)]) rfl rfl rfl (by decide) rfl (zu_put (o := 0) (L' := [(0, .inr (6, [.ref (zo w + (a + 1)), .int rd_filled, .ref (zo w + (a + 2)), .int rd_length, .int rd_at, .int rd_kind, .int rd_start, .int rd_value, .int rd_error, .int rd_errorAt, .int rd_hasThreshold, .int (1 : Int32)])), (4, .inr (1, [.int co_count, .ref (zo w + (a + 5)), .ref (zo w + (a + 6)), .ref (zo w + (a + 7)), .ref (zo w + (a + 8)), .ref (zo w + (a + 9)), .ref (zo w + (a + 10)), .ref (zo w + (a + 11))])), (5, .inl (w.2.2.1 0, 8, .inl co_parent)), (6, .inl (w.2.2.1 0, 8, .inl co_retentionPercent)), (7, .inl (w.2.2.1 0, 8, .inl co_limitPercent)), (8, .inl (w.2.2.1 0, 8, .inl co_paymentDays)), (9, .inl (w.2.2.1 0, 8, .inl co_rank)), (10, .inl (w.2.2.1 3, 8, .inl co_linked)), (11, .inl (w.2.2.1 0, 8, .inl co_stage)), (16, .inl (w.2.2.1 0, 8, .inl it_count)), (17, .inl (w.2.2.1 0, 48, .inl it_first)), (18, .inl (w.2.2.1 0, 48, .inl it_price)), (19, .inl (w.2.2.1 0, 48, .inl it_quantity)), (20, .inl (w.2.2.1 0, 48, .inl it_progress))]) rfl) dX6_readStatement_95 rfl ?_
      refine z_aload_n (pc' := 99) C 0 dX6_readStatement_98 rfl rfl rfl ?_
      refine z_cV (pc' := 102) C hf (As := []) (fun hq => c_X6_advance (a := a) (zc_i (o := 0) n_a0 rfl) (zc_o (o := 1) (zc_f (m := 3) h_a1 (by omega) rfl) rfl) hq) (fun q_99 => (zu (zu h pr_pricing [(0, .inr (4, [.int pg_threshold, .int pg_length, .ref (zo w + (pr_pricing + 2)), .ref (zo w + (pr_pricing + 1))])), (2, .inl (w.2.2.1 0, pg_clen, .inl pg_code))]) a [(0, .inr (6, [.ref (zo w + (a + 1)), .int rd_filled, .ref (zo w + (a + 2)), .int rd_length, .int q_99.1, .int q_99.2.1, .int q_99.2.2.1, .int q_99.2.2.2, .int rd_error, .int rd_errorAt, .int rd_hasThreshold, .int (1 : Int32)])), (4, .inr (1, [.int co_count, .ref (zo w + (a + 5)), .ref (zo w + (a + 6)), .ref (zo w + (a + 7)), .ref (zo w + (a + 8)), .ref (zo w + (a + 9)), .ref (zo w + (a + 10)), .ref (zo w + (a + 11))])), (5, .inl (w.2.2.1 0, 8, .inl co_parent)), (6, .inl (w.2.2.1 0, 8, .inl co_retentionPercent)), (7, .inl (w.2.2.1 0, 8, .inl co_limitPercent)), (8, .inl (w.2.2.1 0, 8, .inl co_paymentDays)), (9, .inl (w.2.2.1 0, 8, .inl co_rank)), (10, .inl (w.2.2.1 3, 8, .inl co_linked)), (11, .inl (w.2.2.1 0, 8, .inl co_stage)), (16, .inl (w.2.2.1 0, 8, .inl it_count)), (17, .inl (w.2.2.1 0, 48, .inl it_first)), (18, .inl (w.2.2.1 0, 48, .inl it_price)), (19, .inl (w.2.2.1 0, 48, .inl it_quantity)), (20, .inl (w.2.2.1 0, 48, .inl it_progress))])) (fun q_99 => []) (fun _ => zu_sh (d := 0) rfl rfl) (fun _ => rfl) zy_X6_advance zw_533 zw_535 zv_2 (ci := 6) rfl (zc_i (o := 0) n_a0 rfl) ⟨rfl, rfl⟩ rfl rfl rfl rfl rfl dX6_readStatement_99 rfl (fun q_99 hf => ?_)
      refine z_aload_n (pc' := 103) C 0 dX6_readStatement_102 rfl rfl rfl ?_
      refine z_iconst (pc' := 104) C dX6_readStatement_103 zk_iconst_0 rfl ?_
      refine z_cV (pc' := 107) C hf (As := [.int (0 : Int32)]) (fun hq => c_X6_readSum (a := a) (pr_pricing := pr_pricing) (zc_i (o := 0) n_a0 rfl) (zc_o (o := 1) (zc_f (m := 3) h_a1 (by omega) rfl) rfl) (zc_o (o := 2) (zc_f (m := 3) h_a2 (by omega) rfl) rfl) (zc_f (m := 37) (zc_i (o := 0) n_pr_pricing0 rfl) (by omega) rfl) (zc_f (m := 37) (zc_i (o := 2) n_pr_pricing2 rfl) (by omega) rfl) (by omega) hq) (fun q_104 => (zu (zu h pr_pricing [(0, .inr (4, [.int pg_threshold, .int q_104.2.2.2.2.2.2.1, .ref (zo w + (pr_pricing + 2)), .ref (zo w + (pr_pricing + 1))])), (2, .inl (w.2.2.1 0, pg_clen, .inl q_104.2.2.2.2.2.2.2))]) a [(0, .inr (6, [.ref (zo w + (a + 1)), .int rd_filled, .ref (zo w + (a + 2)), .int rd_length, .int q_104.1, .int q_104.2.1, .int q_104.2.2.1, .int q_104.2.2.2.1, .int q_104.2.2.2.2.1, .int q_104.2.2.2.2.2.1, .int rd_hasThreshold, .int (1 : Int32)])), (4, .inr (1, [.int co_count, .ref (zo w + (a + 5)), .ref (zo w + (a + 6)), .ref (zo w + (a + 7)), .ref (zo w + (a + 8)), .ref (zo w + (a + 9)), .ref (zo w + (a + 10)), .ref (zo w + (a + 11))])), (5, .inl (w.2.2.1 0, 8, .inl co_parent)), (6, .inl (w.2.2.1 0, 8, .inl co_retentionPercent)), (7, .inl (w.2.2.1 0, 8, .inl co_limitPercent)), (8, .inl (w.2.2.1 0, 8, .inl co_paymentDays)), (9, .inl (w.2.2.1 0, 8, .inl co_rank)), (10, .inl (w.2.2.1 3, 8, .inl co_linked)), (11, .inl (w.2.2.1 0, 8, .inl co_stage)), (16, .inl (w.2.2.1 0, 8, .inl it_count)), (17, .inl (w.2.2.1 0, 48, .inl it_first)), (18, .inl (w.2.2.1 0, 48, .inl it_price)), (19, .inl (w.2.2.1 0, 48, .inl it_quantity)), (20, .inl (w.2.2.1 0, 48, .inl it_progress))])) (fun q_104 => []) (fun _ => zu_shB (d := 0) (m := 37) (n := 3) rfl rfl (by omega) rfl rfl rfl rfl) (fun _ => rfl) zy_X6_readSum zw_639 zw_641 zv_12 (ci := 6) rfl (zc_i (o := 0) n_a0 rfl) ⟨rfl, rfl⟩ rfl rfl rfl rfl rfl dX6_readStatement_104 rfl (fun q_104 hf => ?_)
      refine z_goto C 120 dX6_readStatement_107 rfl ?_
      cases hf
      exact z_vret C rfl rfl dX6_readStatement_120
set_option maxRecDepth 20000 in
theorem c_X6_readStatement {w : zV} {N : Nat} {h : zH} {a : Nat} {rd_filled : Int32} {rd_hasThreshold : Int32} {rd_hasRate : Int32} {rd_length : Int32} {rd_at : Int32} {rd_kind : Int32} {rd_start : Int32} {rd_value : Int32} {rd_error : Int32} {rd_errorAt : Int32} {rd_text : Nat → Int32} {co_linked : Nat → Int32} {co_stage : Nat → Int32} {it_count : Nat → Int32} {it_first : Nat → Int32} {it_price : Nat → Int32} {it_quantity : Nat → Int32} {pr_day : Int32} {pr_pricing : Nat} {it_progress : Nat → Int32} {co_count : Int32} {co_parent : Nat → Int32} {co_retentionPercent : Nat → Int32} {co_limitPercent : Nat → Int32} {co_paymentDays : Nat → Int32} {co_rank : Nat → Int32} {pg_threshold : Int32} {pg_length : Int32} {pg_clen : Nat} {pg_code : Nat → Int32} (h_a0 : zc N h (a + 0) (.inr (6, [.ref (zo w + (a + 1)), .int rd_filled, .ref (zo w + (a + 2)), .int rd_length, .int rd_at, .int rd_kind, .int rd_start, .int rd_value, .int rd_error, .int rd_errorAt, .int rd_hasThreshold, .int rd_hasRate]))) (h_a1 : zc N h (a + 1) (.inl (w.2.2.1 2, 900, .inl rd_text))) (h_a2 : zc N h (a + 2) (.inr (5, [.int pr_day, .ref (zo w + (a + 3)), .ref (zo w + (a + 4)), .ref (zo w + pr_pricing), .ref (zo w + (a + 15)), .ref (zo w + (a + 21)), .ref (zo w + (a + 25)), .ref (zo w + (a + 31)), .ref (zo w + (a + 36))]))) (h_a4 : zc N h (a + 4) (.inr (1, [.int co_count, .ref (zo w + (a + 5)), .ref (zo w + (a + 6)), .ref (zo w + (a + 7)), .ref (zo w + (a + 8)), .ref (zo w + (a + 9)), .ref (zo w + (a + 10)), .ref (zo w + (a + 11))]))) (h_a5 : zc N h (a + 5) (.inl (w.2.2.1 0, 8, .inl co_parent))) (h_a6 : zc N h (a + 6) (.inl (w.2.2.1 0, 8, .inl co_retentionPercent))) (h_a7 : zc N h (a + 7) (.inl (w.2.2.1 0, 8, .inl co_limitPercent))) (h_a8 : zc N h (a + 8) (.inl (w.2.2.1 0, 8, .inl co_paymentDays))) (h_a9 : zc N h (a + 9) (.inl (w.2.2.1 0, 8, .inl co_rank))) (h_a10 : zc N h (a + 10) (.inl (w.2.2.1 3, 8, .inl co_linked))) (h_a11 : zc N h (a + 11) (.inl (w.2.2.1 0, 8, .inl co_stage))) (h_a15 : zc N h (a + 15) (.inr (2, [.ref (zo w + (a + 16)), .ref (zo w + (a + 17)), .ref (zo w + (a + 18)), .ref (zo w + (a + 19)), .ref (zo w + (a + 20))]))) (h_a16 : zc N h (a + 16) (.inl (w.2.2.1 0, 8, .inl it_count))) (h_a17 : zc N h (a + 17) (.inl (w.2.2.1 0, 48, .inl it_first))) (h_a18 : zc N h (a + 18) (.inl (w.2.2.1 0, 48, .inl it_price))) (h_a19 : zc N h (a + 19) (.inl (w.2.2.1 0, 48, .inl it_quantity))) (h_a20 : zc N h (a + 20) (.inl (w.2.2.1 0, 48, .inl it_progress))) (h_pr_pricing0 : zc N h (pr_pricing + 0) (.inr (4, [.int pg_threshold, .int pg_length, .ref (zo w + (pr_pricing + 2)), .ref (zo w + (pr_pricing + 1))]))) (h_pr_pricing2 : zc N h (pr_pricing + 2) (.inl (w.2.2.1 0, pg_clen, .inl pg_code))) (far_a : a + 37 ≤ pr_pricing) {r : Int32 × Int32 × Int32 × Int32 × Int32 × Int32 × Int32 × Int32 × Int32 × (Nat → Int32) × (Nat → Int32) × (Nat → Int32) × (Nat → Int32) × (Nat → Int32) × (Nat → Int32) × (Nat → Int32) × Int32 × Int32 × (Nat → Int32) × (Nat → Int32) × (Nat → Int32) × (Nat → Int32) × (Nat → Int32) × (Nat → Int32)} (hf : f_X6_readStatement rd_length rd_at rd_kind rd_start rd_value rd_error rd_errorAt rd_hasThreshold rd_hasRate rd_text co_count co_parent co_retentionPercent co_limitPercent co_paymentDays co_rank co_linked co_stage pg_threshold pg_length pg_clen pg_code it_count it_first it_price it_quantity it_progress = some r) : zM w yX6_readStatement cX6_readStatement 1 none (zr 33 1731) false N N h [.ref (zo w + a)] (none) (zu (zu h pr_pricing [(0, .inr (4, [.int r.2.2.2.2.2.2.2.2.2.2.2.2.2.2.2.2.1, .int r.2.2.2.2.2.2.2.2.2.2.2.2.2.2.2.2.2.1, .ref (zo w + (pr_pricing + 2)), .ref (zo w + (pr_pricing + 1))])), (2, .inl (w.2.2.1 0, pg_clen, .inl r.2.2.2.2.2.2.2.2.2.2.2.2.2.2.2.2.2.2.1))]) a [(0, .inr (6, [.ref (zo w + (a + 1)), .int rd_filled, .ref (zo w + (a + 2)), .int rd_length, .int r.1, .int r.2.1, .int r.2.2.1, .int r.2.2.2.1, .int r.2.2.2.2.1, .int r.2.2.2.2.2.1, .int r.2.2.2.2.2.2.1, .int r.2.2.2.2.2.2.2.1])), (4, .inr (1, [.int r.2.2.2.2.2.2.2.2.1, .ref (zo w + (a + 5)), .ref (zo w + (a + 6)), .ref (zo w + (a + 7)), .ref (zo w + (a + 8)), .ref (zo w + (a + 9)), .ref (zo w + (a + 10)), .ref (zo w + (a + 11))])), (5, .inl (w.2.2.1 0, 8, .inl r.2.2.2.2.2.2.2.2.2.1)), (6, .inl (w.2.2.1 0, 8, .inl r.2.2.2.2.2.2.2.2.2.2.1)), (7, .inl (w.2.2.1 0, 8, .inl r.2.2.2.2.2.2.2.2.2.2.2.1)), (8, .inl (w.2.2.1 0, 8, .inl r.2.2.2.2.2.2.2.2.2.2.2.2.1)), (9, .inl (w.2.2.1 0, 8, .inl r.2.2.2.2.2.2.2.2.2.2.2.2.2.1)), (10, .inl (w.2.2.1 3, 8, .inl r.2.2.2.2.2.2.2.2.2.2.2.2.2.2.1)), (11, .inl (w.2.2.1 0, 8, .inl r.2.2.2.2.2.2.2.2.2.2.2.2.2.2.2.1)), (16, .inl (w.2.2.1 0, 8, .inl r.2.2.2.2.2.2.2.2.2.2.2.2.2.2.2.2.2.2.2.1)), (17, .inl (w.2.2.1 0, 48, .inl r.2.2.2.2.2.2.2.2.2.2.2.2.2.2.2.2.2.2.2.2.1)), (18, .inl (w.2.2.1 0, 48, .inl r.2.2.2.2.2.2.2.2.2.2.2.2.2.2.2.2.2.2.2.2.2.1)), (19, .inl (w.2.2.1 0, 48, .inl r.2.2.2.2.2.2.2.2.2.2.2.2.2.2.2.2.2.2.2.2.2.2.1)), (20, .inl (w.2.2.1 0, 48, .inl r.2.2.2.2.2.2.2.2.2.2.2.2.2.2.2.2.2.2.2.2.2.2.2))]) := by
  unfold f_X6_readStatement at hf
  refine zM_of (by decide) rfl (fun X C _ => ?_)
  refine z_eq (h' := (zu (zu h pr_pricing [(0, .inr (4, [.int pg_threshold, .int pg_length, .ref (zo w + (pr_pricing + 2)), .ref (zo w + (pr_pricing + 1))])), (2, .inl (w.2.2.1 0, pg_clen, .inl pg_code))]) a [(0, .inr (6, [.ref (zo w + (a + 1)), .int rd_filled, .ref (zo w + (a + 2)), .int rd_length, .int rd_at, .int rd_kind, .int rd_start, .int rd_value, .int rd_error, .int rd_errorAt, .int rd_hasThreshold, .int rd_hasRate])), (4, .inr (1, [.int co_count, .ref (zo w + (a + 5)), .ref (zo w + (a + 6)), .ref (zo w + (a + 7)), .ref (zo w + (a + 8)), .ref (zo w + (a + 9)), .ref (zo w + (a + 10)), .ref (zo w + (a + 11))])), (5, .inl (w.2.2.1 0, 8, .inl co_parent)), (6, .inl (w.2.2.1 0, 8, .inl co_retentionPercent)), (7, .inl (w.2.2.1 0, 8, .inl co_limitPercent)), (8, .inl (w.2.2.1 0, 8, .inl co_paymentDays)), (9, .inl (w.2.2.1 0, 8, .inl co_rank)), (10, .inl (w.2.2.1 3, 8, .inl co_linked)), (11, .inl (w.2.2.1 0, 8, .inl co_stage)), (16, .inl (w.2.2.1 0, 8, .inl it_count)), (17, .inl (w.2.2.1 0, 48, .inl it_first)), (18, .inl (w.2.2.1 0, 48, .inl it_price)), (19, .inl (w.2.2.1 0, 48, .inl it_quantity)), (20, .inl (w.2.2.1 0, 48, .inl it_progress))])) ((congrArg (fun x => zu x a [(0, .inr (6, [.ref (zo w + (a + 1)), .int rd_filled, .ref (zo w + (a + 2)), .int rd_length, .int rd_at, .int rd_kind, .int rd_start, .int rd_value, .int rd_error, .int rd_errorAt, .int rd_hasThreshold, .int rd_hasRate])), (4, .inr (1, [.int co_count, .ref (zo w + (a + 5)), .ref (zo w + (a + 6)), .ref (zo w + (a + 7)), .ref (zo w + (a + 8)), .ref (zo w + (a + 9)), .ref (zo w + (a + 10)), .ref (zo w + (a + 11))])), (5, .inl (w.2.2.1 0, 8, .inl co_parent)), (6, .inl (w.2.2.1 0, 8, .inl co_retentionPercent)), (7, .inl (w.2.2.1 0, 8, .inl co_limitPercent)), (8, .inl (w.2.2.1 0, 8, .inl co_paymentDays)), (9, .inl (w.2.2.1 0, 8, .inl co_rank)), (10, .inl (w.2.2.1 3, 8, .inl co_linked)), (11, .inl (w.2.2.1 0, 8, .inl co_stage)), (16, .inl (w.2.2.1 0, 8, .inl it_count)), (17, .inl (w.2.2.1 0, 48, .inl it_first)), (18, .inl (w.2.2.1 0, 48, .inl it_price)), (19, .inl (w.2.2.1 0, 48, .inl it_quantity)), (20, .inl (w.2.2.1 0, 48, .inl it_progress))]) (zu_s h_pr_pricing0 (zu_s h_pr_pricing2 zu_0))).trans (zu_s h_a0 (zu_s h_a4 (zu_s h_a5 (zu_s h_a6 (zu_s h_a7 (zu_s h_a8 (zu_s h_a9 (zu_s h_a10 (zu_s h_a11 (zu_s h_a16 (zu_s h_a17 (zu_s h_a18 (zu_s h_a19 (zu_s h_a20 zu_0))))))))))))))).symm ?_
  have n_a0 := h_a0.1
  have n_a4 := h_a4.1
  have n_a5 := h_a5.1
  have n_a6 := h_a6.1
  have n_a7 := h_a7.1
  have n_a8 := h_a8.1
  have n_a9 := h_a9.1
  have n_a10 := h_a10.1
  have n_a11 := h_a11.1
  have n_a16 := h_a16.1
  have n_a17 := h_a17.1
  have n_a18 := h_a18.1
  have n_a19 := h_a19.1
  have n_a20 := h_a20.1
  have n_pr_pricing0 := h_pr_pricing0.1
  have n_pr_pricing2 := h_pr_pricing2.1
  refine z_pick (lv' := [(0, .ref (zo w + a))]) [0] rfl ?_
  refine z_aload_n (pc' := 1) C 0 dX6_readStatement_0 rfl rfl rfl ?_
  refine z_ldcS (pc' := 3) C 3 rfl dX6_readStatement_1 rfl ?_
  refine z_cV (pc' := 6) C hf (As := [.ref (zsa w 3)]) (fun hq => c_X6_isWord (a := a) (zc_i (o := 0) n_a0 rfl) (zc_o (o := 1) (zc_f (m := 3) h_a1 (by omega) rfl) rfl) (by decide) hq) (fun _ => (zu (zu h pr_pricing [(0, .inr (4, [.int pg_threshold, .int pg_length, .ref (zo w + (pr_pricing + 2)), .ref (zo w + (pr_pricing + 1))])), (2, .inl (w.2.2.1 0, pg_clen, .inl pg_code))]) a [(0, .inr (6, [.ref (zo w + (a + 1)), .int rd_filled, .ref (zo w + (a + 2)), .int rd_length, .int rd_at, .int rd_kind, .int rd_start, .int rd_value, .int rd_error, .int rd_errorAt, .int rd_hasThreshold, .int rd_hasRate])), (4, .inr (1, [.int co_count, .ref (zo w + (a + 5)), .ref (zo w + (a + 6)), .ref (zo w + (a + 7)), .ref (zo w + (a + 8)), .ref (zo w + (a + 9)), .ref (zo w + (a + 10)), .ref (zo w + (a + 11))])), (5, .inl (w.2.2.1 0, 8, .inl co_parent)), (6, .inl (w.2.2.1 0, 8, .inl co_retentionPercent)), (7, .inl (w.2.2.1 0, 8, .inl co_limitPercent)), (8, .inl (w.2.2.1 0, 8, .inl co_paymentDays)), (9, .inl (w.2.2.1 0, 8, .inl co_rank)), (10, .inl (w.2.2.1 3, 8, .inl co_linked)), (11, .inl (w.2.2.1 0, 8, .inl co_stage)), (16, .inl (w.2.2.1 0, 8, .inl it_count)), (17, .inl (w.2.2.1 0, 48, .inl it_first)), (18, .inl (w.2.2.1 0, 48, .inl it_price)), (19, .inl (w.2.2.1 0, 48, .inl it_quantity)), (20, .inl (w.2.2.1 0, 48, .inl it_progress))])) (fun q_3 => [.int q_3]) (fun _ => rfl) (fun _ => rfl) zy_X6_isWord zw_547 zw_549 zv_5 (ci := 6) rfl (zc_i (o := 0) n_a0 rfl) ⟨rfl, rfl⟩ rfl rfl rfl rfl rfl dX6_readStatement_3 rfl (fun q_3 hf => ?_)
  refine z_if_eq (pc' := 9) C 16 hf dX6_readStatement_6 rfl rfl (fun g_6 hf => ?_) (fun g_6 hf => ?_)
  · refine z_aload_n (pc' := 17) C 0 dX6_readStatement_16 rfl rfl rfl ?_
    refine z_ldcS (pc' := 19) C 5 rfl dX6_readStatement_17 rfl ?_
    refine z_cV (pc' := 22) C hf (As := [.ref (zsa w 5)]) (fun hq => c_X6_isWord (a := a) (zc_i (o := 0) n_a0 rfl) (zc_o (o := 1) (zc_f (m := 3) h_a1 (by omega) rfl) rfl) (by decide) hq) (fun _ => (zu (zu h pr_pricing [(0, .inr (4, [.int pg_threshold, .int pg_length, .ref (zo w + (pr_pricing + 2)), .ref (zo w + (pr_pricing + 1))])), (2, .inl (w.2.2.1 0, pg_clen, .inl pg_code))]) a [(0, .inr (6, [.ref (zo w + (a + 1)), .int rd_filled, .ref (zo w + (a + 2)), .int rd_length, .int rd_at, .int rd_kind, .int rd_start, .int rd_value, .int rd_error, .int rd_errorAt, .int rd_hasThreshold, .int rd_hasRate])), (4, .inr (1, [.int co_count, .ref (zo w + (a + 5)), .ref (zo w + (a + 6)), .ref (zo w + (a + 7)), .ref (zo w + (a + 8)), .ref (zo w + (a + 9)), .ref (zo w + (a + 10)), .ref (zo w + (a + 11))])), (5, .inl (w.2.2.1 0, 8, .inl co_parent)), (6, .inl (w.2.2.1 0, 8, .inl co_retentionPercent)), (7, .inl (w.2.2.1 0, 8, .inl co_limitPercent)), (8, .inl (w.2.2.1 0, 8, .inl co_paymentDays)), (9, .inl (w.2.2.1 0, 8, .inl co_rank)), (10, .inl (w.2.2.1 3, 8, .inl co_linked)), (11, .inl (w.2.2.1 0, 8, .inl co_stage)), (16, .inl (w.2.2.1 0, 8, .inl it_count)), (17, .inl (w.2.2.1 0, 48, .inl it_first)), (18, .inl (w.2.2.1 0, 48, .inl it_price)), (19, .inl (w.2.2.1 0, 48, .inl it_quantity)), (20, .inl (w.2.2.1 0, 48, .inl it_progress))])) (fun q_19 => [.int q_19]) (fun _ => rfl) (fun _ => rfl) zy_X6_isWord zw_547 zw_549 zv_5 (ci := 6) rfl (zc_i (o := 0) n_a0 rfl) ⟨rfl, rfl⟩ rfl rfl rfl rfl rfl dX6_readStatement_19 rfl (fun q_19 hf => ?_)
    refine z_if_eq (pc' := 25) C 32 hf dX6_readStatement_22 rfl rfl (fun g_22 hf => ?_) (fun g_22 hf => ?_)
    · refine z_aload_n (pc' := 33) C 0 dX6_readStatement_32 rfl rfl rfl ?_
      refine z_ldcS (pc' := 35) C 6 rfl dX6_readStatement_33 rfl ?_
      refine z_cV (pc' := 38) C hf (As := [.ref (zsa w 6)]) (fun hq => c_X6_isWord (a := a) (zc_i (o := 0) n_a0 rfl) (zc_o (o := 1) (zc_f (m := 3) h_a1 (by omega) rfl) rfl) (by decide) hq) (fun _ => (zu (zu h pr_pricing [(0, .inr (4, [.int pg_threshold, .int pg_length, .ref (zo w + (pr_pricing + 2)), .ref (zo w + (pr_pricing + 1))])), (2, .inl (w.2.2.1 0, pg_clen, .inl pg_code))]) a [(0, .inr (6, [.ref (zo w + (a + 1)), .int rd_filled, .ref (zo w + (a + 2)), .int rd_length, .int rd_at, .int rd_kind, .int rd_start, .int rd_value, .int rd_error, .int rd_errorAt, .int rd_hasThreshold, .int rd_hasRate])), (4, .inr (1, [.int co_count, .ref (zo w + (a + 5)), .ref (zo w + (a + 6)), .ref (zo w + (a + 7)), .ref (zo w + (a + 8)), .ref (zo w + (a + 9)), .ref (zo w + (a + 10)), .ref (zo w + (a + 11))])), (5, .inl (w.2.2.1 0, 8, .inl co_parent)), (6, .inl (w.2.2.1 0, 8, .inl co_retentionPercent)), (7, .inl (w.2.2.1 0, 8, .inl co_limitPercent)), (8, .inl (w.2.2.1 0, 8, .inl co_paymentDays)), (9, .inl (w.2.2.1 0, 8, .inl co_rank)), (10, .inl (w.2.2.1 3, 8, .inl co_linked)), (11, .inl (w.2.2.1 0, 8, .inl co_stage)), (16, .inl (w.2.2.1 0, 8, .inl it_count)), (17, .inl (w.2.2.1 0, 48, .inl it_first)), (18, .inl (w.2.2.1 0, 48, .inl it_price)), (19, .inl (w.2.2.1 0, 48, .inl it_quantity)), (20, .inl (w.2.2.1 0, 48, .inl it_progress))])) (fun q_35 => [.int q_35]) (fun _ => rfl) (fun _ => rfl) zy_X6_isWord zw_547 zw_549 zv_5 (ci := 6) rfl (zc_i (o := 0) n_a0 rfl) ⟨rfl, rfl⟩ rfl rfl rfl rfl rfl dX6_readStatement_35 rfl (fun q_35 hf => ?_)
      refine z_if_eq (pc' := 41) C 77 hf dX6_readStatement_38 rfl rfl (fun g_38 hf => ?_) (fun g_38 hf => ?_)
      · exact w_X6_readStatement_77 C n_a0 h_a1 h_a2 n_a4 n_a5 n_a6 n_a7 n_a8 n_a9 n_a10 n_a11 h_a15 n_a16 n_a17 n_a18 n_a19 n_a20 n_pr_pricing0 n_pr_pricing2 far_a  hf
      · refine z_aload_n (pc' := 42) C 0 dX6_readStatement_41 rfl rfl rfl ?_
        refine z_getf (pc' := 45) C zci_6 zw_287 (j := 10) rfl (zc_i (o := 0) n_a0 rfl) rfl rfl dX6_readStatement_42 rfl ?_
        refine z_if_ne (pc' := 48) C 77 hf dX6_readStatement_45 rfl rfl (fun g_45 hf => ?_) (fun g_45 hf => ?_)
        · exact w_X6_readStatement_77 C n_a0 h_a1 h_a2 n_a4 n_a5 n_a6 n_a7 n_a8 n_a9 n_a10 n_a11 h_a15 n_a16 n_a17 n_a18 n_a19 n_a20 n_pr_pricing0 n_pr_pricing2 far_a  hf
        · refine z_aload_n (pc' := 49) C 0 dX6_readStatement_48 rfl rfl rfl ?_
          refine z_iconst (pc' := 50) C dX6_readStatement_49 zk_iconst_1 rfl ?_
          refine z_putf (pc' := 53) C zci_6 zw_287 (j := 10) rfl (zc_i (o := 0) n_a0 rfl) (fs' := [.ref (zo w + (a + 1)), .int rd_filled, .ref (zo w + (a + 2)), .int rd_length, .int rd_at, .int rd_kind, .int rd_start, .int rd_value, .int rd_error, .int rd_errorAt, .int (1 : Int32), .int rd_hasRate]) rfl rfl rfl (by decide) rfl (zu_put (o := 0) (L' := [(0, .inr (6, [.ref (zo w + (a + 1)), .int rd_filled, .ref (zo w + (a + 2)), .int rd_length, .int rd_at, .int rd_kind, .int rd_start, .int rd_value, .int rd_error, .int rd_errorAt, .int (1 : Int32), .int rd_hasRate])), (4, .inr (1, [.int co_count, .ref (zo w + (a + 5)), .ref (zo w + (a + 6)), .ref (zo w + (a + 7)), .ref (zo w + (a + 8)), .ref (zo w + (a + 9)), .ref (zo w + (a + 10)), .ref (zo w + (a + 11))])), (5, .inl (w.2.2.1 0, 8, .inl co_parent)), (6, .inl (w.2.2.1 0, 8, .inl co_retentionPercent)), (7, .inl (w.2.2.1 0, 8, .inl co_limitPercent)), (8, .inl (w.2.2.1 0, 8, .inl co_paymentDays)), (9, .inl (w.2.2.1 0, 8, .inl co_rank)), (10, .inl (w.2.2.1 3, 8, .inl co_linked)), (11, .inl (w.2.2.1 0, 8, .inl co_stage)), (16, .inl (w.2.2.1 0, 8, .inl it_count)), (17, .inl (w.2.2.1 0, 48, .inl it_first)), (18, .inl (w.2.2.1 0, 48, .inl it_price)), (19, .inl (w.2.2.1 0, 48, .inl it_quantity)), (20, .inl (w.2.2.1 0, 48, .inl it_progress))]) rfl) dX6_readStatement_50 rfl ?_
          refine z_aload_n (pc' := 54) C 0 dX6_readStatement_53 rfl rfl rfl ?_
          refine z_cV (pc' := 57) C hf (As := []) (fun hq => c_X6_advance (a := a) (zc_i (o := 0) n_a0 rfl) (zc_o (o := 1) (zc_f (m := 3) h_a1 (by omega) rfl) rfl) hq) (fun q_54 => (zu (zu h pr_pricing [(0, .inr (4, [.int pg_threshold, .int pg_length, .ref (zo w + (pr_pricing + 2)), .ref (zo w + (pr_pricing + 1))])), (2, .inl (w.2.2.1 0, pg_clen, .inl pg_code))]) a [(0, .inr (6, [.ref (zo w + (a + 1)), .int rd_filled, .ref (zo w + (a + 2)), .int rd_length, .int q_54.1, .int q_54.2.1, .int q_54.2.2.1, .int q_54.2.2.2, .int rd_error, .int rd_errorAt, .int (1 : Int32), .int rd_hasRate])), (4, .inr (1, [.int co_count, .ref (zo w + (a + 5)), .ref (zo w + (a + 6)), .ref (zo w + (a + 7)), .ref (zo w + (a + 8)), .ref (zo w + (a + 9)), .ref (zo w + (a + 10)), .ref (zo w + (a + 11))])), (5, .inl (w.2.2.1 0, 8, .inl co_parent)), (6, .inl (w.2.2.1 0, 8, .inl co_retentionPercent)), (7, .inl (w.2.2.1 0, 8, .inl co_limitPercent)), (8, .inl (w.2.2.1 0, 8, .inl co_paymentDays)), (9, .inl (w.2.2.1 0, 8, .inl co_rank)), (10, .inl (w.2.2.1 3, 8, .inl co_linked)), (11, .inl (w.2.2.1 0, 8, .inl co_stage)), (16, .inl (w.2.2.1 0, 8, .inl it_count)), (17, .inl (w.2.2.1 0, 48, .inl it_first)), (18, .inl (w.2.2.1 0, 48, .inl it_price)), (19, .inl (w.2.2.1 0, 48, .inl it_quantity)), (20, .inl (w.2.2.1 0, 48, .inl it_progress))])) (fun q_54 => []) (fun _ => zu_sh (d := 0) rfl rfl) (fun _ => rfl) zy_X6_advance zw_533 zw_535 zv_2 (ci := 6) rfl (zc_i (o := 0) n_a0 rfl) ⟨rfl, rfl⟩ rfl rfl rfl rfl rfl dX6_readStatement_54 rfl (fun q_54 hf => ?_)
          refine z_aload_n (pc' := 58) C 0 dX6_readStatement_57 rfl rfl rfl ?_
          refine z_getf (pc' := 61) C zci_6 zw_277 (j := 2) rfl (zc_i (o := 0) n_a0 rfl) rfl rfl dX6_readStatement_58 rfl ?_
          refine z_getf (pc' := 64) C zci_5 zw_243 (j := 3) rfl (zc_o (o := 2) (zc_f (m := 3) h_a2 (by omega) rfl) rfl) rfl rfl dX6_readStatement_61 rfl ?_
          refine z_aload_n (pc' := 65) C 0 dX6_readStatement_64 rfl rfl rfl ?_
          refine z_iconst (pc' := 66) C dX6_readStatement_65 zk_iconst_0 rfl ?_
          refine z_bipush (pc' := 68) C dX6_readStatement_66 zk_bipush_100 rfl ?_
          refine z_cV (pc' := 71) C hf (As := [.int (0 : Int32), .int (100 : Int32)]) (fun hq => c_X6_takeNumber (a := a) (zc_i (o := 0) n_a0 rfl) (zc_o (o := 1) (zc_f (m := 3) h_a1 (by omega) rfl) rfl) hq) (fun q_68 => (zu (zu h pr_pricing [(0, .inr (4, [.int pg_threshold, .int pg_length, .ref (zo w + (pr_pricing + 2)), .ref (zo w + (pr_pricing + 1))])), (2, .inl (w.2.2.1 0, pg_clen, .inl pg_code))]) a [(0, .inr (6, [.ref (zo w + (a + 1)), .int rd_filled, .ref (zo w + (a + 2)), .int rd_length, .int q_68.2.1, .int q_68.2.2.1, .int q_68.2.2.2.1, .int q_68.2.2.2.2.1, .int q_68.2.2.2.2.2.1, .int q_68.2.2.2.2.2.2, .int (1 : Int32), .int rd_hasRate])), (4, .inr (1, [.int co_count, .ref (zo w + (a + 5)), .ref (zo w + (a + 6)), .ref (zo w + (a + 7)), .ref (zo w + (a + 8)), .ref (zo w + (a + 9)), .ref (zo w + (a + 10)), .ref (zo w + (a + 11))])), (5, .inl (w.2.2.1 0, 8, .inl co_parent)), (6, .inl (w.2.2.1 0, 8, .inl co_retentionPercent)), (7, .inl (w.2.2.1 0, 8, .inl co_limitPercent)), (8, .inl (w.2.2.1 0, 8, .inl co_paymentDays)), (9, .inl (w.2.2.1 0, 8, .inl co_rank)), (10, .inl (w.2.2.1 3, 8, .inl co_linked)), (11, .inl (w.2.2.1 0, 8, .inl co_stage)), (16, .inl (w.2.2.1 0, 8, .inl it_count)), (17, .inl (w.2.2.1 0, 48, .inl it_first)), (18, .inl (w.2.2.1 0, 48, .inl it_price)), (19, .inl (w.2.2.1 0, 48, .inl it_quantity)), (20, .inl (w.2.2.1 0, 48, .inl it_progress))])) (fun q_68 => [.int q_68.1, .ref (zo w + pr_pricing)]) (fun _ => zu_sh (d := 0) rfl rfl) (fun _ => rfl) zy_X6_takeNumber zw_604 zw_606 zv_7 (ci := 6) rfl (zc_i (o := 0) n_a0 rfl) ⟨rfl, rfl⟩ rfl rfl rfl rfl rfl dX6_readStatement_68 rfl (fun q_68 hf => ?_)
          refine z_putf (pc' := 74) C zci_4 zw_103 (j := 0) rfl (zc_f (m := 37) (zc_i (o := 0) n_pr_pricing0 rfl) (by omega) rfl) (fs' := [.int q_68.1, .int pg_length, .ref (zo w + (pr_pricing + 2)), .ref (zo w + (pr_pricing + 1))]) rfl rfl rfl rfl rfl (zu_put2 (o := 0) (Lg' := [(0, .inr (4, [.int q_68.1, .int pg_length, .ref (zo w + (pr_pricing + 2)), .ref (zo w + (pr_pricing + 1))])), (2, .inl (w.2.2.1 0, pg_clen, .inl pg_code))]) (m := 37) rfl (by omega) rfl) dX6_readStatement_71 rfl ?_
          refine z_goto C 120 dX6_readStatement_74 rfl ?_
          cases hf
          exact z_vret C rfl rfl dX6_readStatement_120
    · refine z_aload_n (pc' := 26) C 0 dX6_readStatement_25 rfl rfl rfl ?_
      refine z_cV (pc' := 29) C hf (As := []) (fun hq => c_X6_readItem (a := a) (zc_i (o := 0) n_a0 rfl) (zc_o (o := 1) (zc_f (m := 3) h_a1 (by omega) rfl) rfl) (zc_o (o := 2) (zc_f (m := 3) h_a2 (by omega) rfl) rfl) (zc_i (o := 4) n_a4 rfl) (zc_o (o := 15) (zc_f (m := 3) h_a15 (by omega) rfl) rfl) (zc_i (o := 16) n_a16 rfl) (zc_i (o := 17) n_a17 rfl) (zc_i (o := 18) n_a18 rfl) (zc_i (o := 19) n_a19 rfl) (zc_i (o := 20) n_a20 rfl) hq) (fun q_26 => (zu (zu h pr_pricing [(0, .inr (4, [.int pg_threshold, .int pg_length, .ref (zo w + (pr_pricing + 2)), .ref (zo w + (pr_pricing + 1))])), (2, .inl (w.2.2.1 0, pg_clen, .inl pg_code))]) a [(0, .inr (6, [.ref (zo w + (a + 1)), .int rd_filled, .ref (zo w + (a + 2)), .int rd_length, .int q_26.1, .int q_26.2.1, .int q_26.2.2.1, .int q_26.2.2.2.1, .int q_26.2.2.2.2.1, .int q_26.2.2.2.2.2.1, .int rd_hasThreshold, .int rd_hasRate])), (4, .inr (1, [.int co_count, .ref (zo w + (a + 5)), .ref (zo w + (a + 6)), .ref (zo w + (a + 7)), .ref (zo w + (a + 8)), .ref (zo w + (a + 9)), .ref (zo w + (a + 10)), .ref (zo w + (a + 11))])), (5, .inl (w.2.2.1 0, 8, .inl co_parent)), (6, .inl (w.2.2.1 0, 8, .inl co_retentionPercent)), (7, .inl (w.2.2.1 0, 8, .inl co_limitPercent)), (8, .inl (w.2.2.1 0, 8, .inl co_paymentDays)), (9, .inl (w.2.2.1 0, 8, .inl co_rank)), (10, .inl (w.2.2.1 3, 8, .inl co_linked)), (11, .inl (w.2.2.1 0, 8, .inl co_stage)), (16, .inl (w.2.2.1 0, 8, .inl q_26.2.2.2.2.2.2.1)), (17, .inl (w.2.2.1 0, 48, .inl q_26.2.2.2.2.2.2.2.1)), (18, .inl (w.2.2.1 0, 48, .inl q_26.2.2.2.2.2.2.2.2.1)), (19, .inl (w.2.2.1 0, 48, .inl q_26.2.2.2.2.2.2.2.2.2.1)), (20, .inl (w.2.2.1 0, 48, .inl q_26.2.2.2.2.2.2.2.2.2.2))])) (fun q_26 => []) (fun _ => zu_sh (d := 0) rfl rfl) (fun _ => rfl) zy_X6_readItem zw_628 zw_630 zv_11 (ci := 6) rfl (zc_i (o := 0) n_a0 rfl) ⟨rfl, rfl⟩ rfl rfl rfl rfl rfl dX6_readStatement_26 rfl (fun q_26 hf => ?_)
      refine z_goto C 120 dX6_readStatement_29 rfl ?_
      cases hf
      exact z_vret C rfl rfl dX6_readStatement_120
  · refine z_aload_n (pc' := 10) C 0 dX6_readStatement_9 rfl rfl rfl ?_
    refine z_cV (pc' := 13) C hf (As := []) (fun hq => c_X6_readSub (a := a) (zc_i (o := 0) n_a0 rfl) (zc_o (o := 1) (zc_f (m := 3) h_a1 (by omega) rfl) rfl) (zc_o (o := 2) (zc_f (m := 3) h_a2 (by omega) rfl) rfl) (zc_i (o := 4) n_a4 rfl) (zc_i (o := 5) n_a5 rfl) (zc_i (o := 6) n_a6 rfl) (zc_i (o := 7) n_a7 rfl) (zc_i (o := 8) n_a8 rfl) (zc_i (o := 9) n_a9 rfl) (zc_i (o := 10) n_a10 rfl) (zc_i (o := 11) n_a11 rfl) hq) (fun q_10 => (zu (zu h pr_pricing [(0, .inr (4, [.int pg_threshold, .int pg_length, .ref (zo w + (pr_pricing + 2)), .ref (zo w + (pr_pricing + 1))])), (2, .inl (w.2.2.1 0, pg_clen, .inl pg_code))]) a [(0, .inr (6, [.ref (zo w + (a + 1)), .int rd_filled, .ref (zo w + (a + 2)), .int rd_length, .int q_10.1, .int q_10.2.1, .int q_10.2.2.1, .int q_10.2.2.2.1, .int q_10.2.2.2.2.1, .int q_10.2.2.2.2.2.1, .int rd_hasThreshold, .int rd_hasRate])), (4, .inr (1, [.int q_10.2.2.2.2.2.2.1, .ref (zo w + (a + 5)), .ref (zo w + (a + 6)), .ref (zo w + (a + 7)), .ref (zo w + (a + 8)), .ref (zo w + (a + 9)), .ref (zo w + (a + 10)), .ref (zo w + (a + 11))])), (5, .inl (w.2.2.1 0, 8, .inl q_10.2.2.2.2.2.2.2.1)), (6, .inl (w.2.2.1 0, 8, .inl q_10.2.2.2.2.2.2.2.2.1)), (7, .inl (w.2.2.1 0, 8, .inl q_10.2.2.2.2.2.2.2.2.2.1)), (8, .inl (w.2.2.1 0, 8, .inl q_10.2.2.2.2.2.2.2.2.2.2.1)), (9, .inl (w.2.2.1 0, 8, .inl q_10.2.2.2.2.2.2.2.2.2.2.2.1)), (10, .inl (w.2.2.1 3, 8, .inl q_10.2.2.2.2.2.2.2.2.2.2.2.2.1)), (11, .inl (w.2.2.1 0, 8, .inl q_10.2.2.2.2.2.2.2.2.2.2.2.2.2)), (16, .inl (w.2.2.1 0, 8, .inl it_count)), (17, .inl (w.2.2.1 0, 48, .inl it_first)), (18, .inl (w.2.2.1 0, 48, .inl it_price)), (19, .inl (w.2.2.1 0, 48, .inl it_quantity)), (20, .inl (w.2.2.1 0, 48, .inl it_progress))])) (fun q_10 => []) (fun _ => zu_sh (d := 0) rfl rfl) (fun _ => rfl) zy_X6_readSub zw_622 zw_624 zv_10 (ci := 6) rfl (zc_i (o := 0) n_a0 rfl) ⟨rfl, rfl⟩ rfl rfl rfl rfl rfl dX6_readStatement_10 rfl (fun q_10 hf => ?_)
    refine z_goto C 120 dX6_readStatement_13 rfl ?_
    cases hf
    exact z_vret C rfl rfl dX6_readStatement_120
set_option maxRecDepth 20000 in
theorem w_X6_read_63 {X : zC} {w : zV} {N : Nat} {h : zH} {a : Nat} {rd_text : Nat → Int32} {pr_pricing : Nat} {pg_clen : Nat} (C : zK X w RX6 cX6_read 3 (some .int) (zrx 34 1759 3 920)) (n_a0 : a + 0 < N) (h_a1 : zc N h (a + 1) (.inl (w.2.2.1 2, 900, .inl rd_text))) (n_a2 : a + 2 < N) (n_a3 : a + 3 < N) (n_a4 : a + 4 < N) (n_a5 : a + 5 < N) (n_a6 : a + 6 < N) (n_a7 : a + 7 < N) (n_a8 : a + 8 < N) (n_a9 : a + 9 < N) (n_a10 : a + 10 < N) (n_a11 : a + 11 < N) (h_a15 : zc N h (a + 15) (.inr (2, [.ref (zo w + (a + 16)), .ref (zo w + (a + 17)), .ref (zo w + (a + 18)), .ref (zo w + (a + 19)), .ref (zo w + (a + 20))]))) (n_a16 : a + 16 < N) (n_a17 : a + 17 < N) (n_a18 : a + 18 < N) (n_a19 : a + 19 < N) (n_a20 : a + 20 < N) (n_a21 : a + 21 < N) (n_a25 : a + 25 < N) (n_a31 : a + 31 < N) (n_pr_pricing0 : pr_pricing + 0 < N) (n_pr_pricing2 : pr_pricing + 2 < N) (far_a : a + 37 ≤ pr_pricing) {r : Int32 × Int32 × Int32 × Int32 × Int32 × Int32 × Int32 × Int32 × Int32 × Int32 × Int32 × Int32 × (Nat → Int64) × Int32 × (Nat → Int32) × (Nat → Int32) × (Nat → Int32) × (Nat → Int32) × (Nat → Int32) × (Nat → Int32) × (Nat → Int32) × Int32 × Int32 × (Nat → Int32) × (Nat → Int32) × (Nat → Int32) × (Nat → Int32) × (Nat → Int32) × (Nat → Int32) × Int32 × Int32 × Int32} (n : Nat) : ∀ {rd_filled : Int32} {rd_length : Int32} {rd_at : Int32} {rd_kind : Int32} {rd_start : Int32} {rd_value : Int32} {rd_error : Int32} {rd_errorAt : Int32} {rd_hasThreshold : Int32} {rd_hasRate : Int32} {pr_day : Int32} {pr_accounts : Nat → Int64} {co_count : Int32} {co_parent : Nat → Int32} {co_retentionPercent : Nat → Int32} {co_limitPercent : Nat → Int32} {co_paymentDays : Nat → Int32} {co_rank : Nat → Int32} {co_linked : Nat → Int32} {co_stage : Nat → Int32} {pg_threshold : Int32} {pg_length : Int32} {pg_code : Nat → Int32} {it_count : Nat → Int32} {it_first : Nat → Int32} {it_price : Nat → Int32} {it_quantity : Nat → Int32} {it_progress : Nat → Int32} {va_count : Int32} {ce_count : Int32} {li_count : Int32} {x2 : Int32}, f_X6_read_63  n rd_filled rd_length rd_at rd_kind rd_start rd_value rd_error rd_errorAt rd_hasThreshold rd_hasRate rd_text pr_day pr_accounts co_count co_parent co_retentionPercent co_limitPercent co_paymentDays co_rank co_linked co_stage pg_threshold pg_length pg_clen pg_code it_count it_first it_price it_quantity it_progress va_count ce_count li_count x2 = some r → zZ X w (zQ X w (zrx 34 1759 3 920) (some (.int r.1)) false N (zu (zu h pr_pricing [(0, .inr (4, [.int r.2.2.2.2.2.2.2.2.2.2.2.2.2.2.2.2.2.2.2.2.2.1, .int r.2.2.2.2.2.2.2.2.2.2.2.2.2.2.2.2.2.2.2.2.2.2.1, .ref (zo w + (pr_pricing + 2)), .ref (zo w + (pr_pricing + 1))])), (2, .inl (w.2.2.1 0, pg_clen, .inl r.2.2.2.2.2.2.2.2.2.2.2.2.2.2.2.2.2.2.2.2.2.2.2.1))]) a [(0, .inr (6, [.ref (zo w + (a + 1)), .int r.2.1, .ref (zo w + (a + 2)), .int r.2.2.1, .int r.2.2.2.1, .int r.2.2.2.2.1, .int r.2.2.2.2.2.1, .int r.2.2.2.2.2.2.1, .int r.2.2.2.2.2.2.2.1, .int r.2.2.2.2.2.2.2.2.1, .int r.2.2.2.2.2.2.2.2.2.1, .int r.2.2.2.2.2.2.2.2.2.2.1])), (2, .inr (5, [.int r.2.2.2.2.2.2.2.2.2.2.2.1, .ref (zo w + (a + 3)), .ref (zo w + (a + 4)), .ref (zo w + pr_pricing), .ref (zo w + (a + 15)), .ref (zo w + (a + 21)), .ref (zo w + (a + 25)), .ref (zo w + (a + 31)), .ref (zo w + (a + 36))])), (3, .inl (w.2.2.1 1, 9, .inr (.inl r.2.2.2.2.2.2.2.2.2.2.2.2.1))), (4, .inr (1, [.int r.2.2.2.2.2.2.2.2.2.2.2.2.2.1, .ref (zo w + (a + 5)), .ref (zo w + (a + 6)), .ref (zo w + (a + 7)), .ref (zo w + (a + 8)), .ref (zo w + (a + 9)), .ref (zo w + (a + 10)), .ref (zo w + (a + 11))])), (5, .inl (w.2.2.1 0, 8, .inl r.2.2.2.2.2.2.2.2.2.2.2.2.2.2.1)), (6, .inl (w.2.2.1 0, 8, .inl r.2.2.2.2.2.2.2.2.2.2.2.2.2.2.2.1)), (7, .inl (w.2.2.1 0, 8, .inl r.2.2.2.2.2.2.2.2.2.2.2.2.2.2.2.2.1)), (8, .inl (w.2.2.1 0, 8, .inl r.2.2.2.2.2.2.2.2.2.2.2.2.2.2.2.2.2.1)), (9, .inl (w.2.2.1 0, 8, .inl r.2.2.2.2.2.2.2.2.2.2.2.2.2.2.2.2.2.2.1)), (10, .inl (w.2.2.1 3, 8, .inl r.2.2.2.2.2.2.2.2.2.2.2.2.2.2.2.2.2.2.2.1)), (11, .inl (w.2.2.1 0, 8, .inl r.2.2.2.2.2.2.2.2.2.2.2.2.2.2.2.2.2.2.2.2.1)), (16, .inl (w.2.2.1 0, 8, .inl r.2.2.2.2.2.2.2.2.2.2.2.2.2.2.2.2.2.2.2.2.2.2.2.2.1)), (17, .inl (w.2.2.1 0, 48, .inl r.2.2.2.2.2.2.2.2.2.2.2.2.2.2.2.2.2.2.2.2.2.2.2.2.2.1)), (18, .inl (w.2.2.1 0, 48, .inl r.2.2.2.2.2.2.2.2.2.2.2.2.2.2.2.2.2.2.2.2.2.2.2.2.2.2.1)), (19, .inl (w.2.2.1 0, 48, .inl r.2.2.2.2.2.2.2.2.2.2.2.2.2.2.2.2.2.2.2.2.2.2.2.2.2.2.2.1)), (20, .inl (w.2.2.1 0, 48, .inl r.2.2.2.2.2.2.2.2.2.2.2.2.2.2.2.2.2.2.2.2.2.2.2.2.2.2.2.2.1)), (21, .inr (7, [.int r.2.2.2.2.2.2.2.2.2.2.2.2.2.2.2.2.2.2.2.2.2.2.2.2.2.2.2.2.2.1, .ref (zo w + (a + 22)), .ref (zo w + (a + 23)), .ref (zo w + (a + 24))])), (25, .inr (0, [.int r.2.2.2.2.2.2.2.2.2.2.2.2.2.2.2.2.2.2.2.2.2.2.2.2.2.2.2.2.2.2.1, .ref (zo w + (a + 26)), .ref (zo w + (a + 27)), .ref (zo w + (a + 28)), .ref (zo w + (a + 29)), .ref (zo w + (a + 30))])), (31, .inr (3, [.int r.2.2.2.2.2.2.2.2.2.2.2.2.2.2.2.2.2.2.2.2.2.2.2.2.2.2.2.2.2.2.2, .ref (zo w + (a + 32)), .ref (zo w + (a + 33)), .ref (zo w + (a + 34)), .ref (zo w + (a + 35))]))])) 3 920 false N (zu (zu h pr_pricing [(0, .inr (4, [.int pg_threshold, .int pg_length, .ref (zo w + (pr_pricing + 2)), .ref (zo w + (pr_pricing + 1))])), (2, .inl (w.2.2.1 0, pg_clen, .inl pg_code))]) a [(0, .inr (6, [.ref (zo w + (a + 1)), .int rd_filled, .ref (zo w + (a + 2)), .int rd_length, .int rd_at, .int rd_kind, .int rd_start, .int rd_value, .int rd_error, .int rd_errorAt, .int rd_hasThreshold, .int rd_hasRate])), (2, .inr (5, [.int pr_day, .ref (zo w + (a + 3)), .ref (zo w + (a + 4)), .ref (zo w + pr_pricing), .ref (zo w + (a + 15)), .ref (zo w + (a + 21)), .ref (zo w + (a + 25)), .ref (zo w + (a + 31)), .ref (zo w + (a + 36))])), (3, .inl (w.2.2.1 1, 9, .inr (.inl pr_accounts))), (4, .inr (1, [.int co_count, .ref (zo w + (a + 5)), .ref (zo w + (a + 6)), .ref (zo w + (a + 7)), .ref (zo w + (a + 8)), .ref (zo w + (a + 9)), .ref (zo w + (a + 10)), .ref (zo w + (a + 11))])), (5, .inl (w.2.2.1 0, 8, .inl co_parent)), (6, .inl (w.2.2.1 0, 8, .inl co_retentionPercent)), (7, .inl (w.2.2.1 0, 8, .inl co_limitPercent)), (8, .inl (w.2.2.1 0, 8, .inl co_paymentDays)), (9, .inl (w.2.2.1 0, 8, .inl co_rank)), (10, .inl (w.2.2.1 3, 8, .inl co_linked)), (11, .inl (w.2.2.1 0, 8, .inl co_stage)), (16, .inl (w.2.2.1 0, 8, .inl it_count)), (17, .inl (w.2.2.1 0, 48, .inl it_first)), (18, .inl (w.2.2.1 0, 48, .inl it_price)), (19, .inl (w.2.2.1 0, 48, .inl it_quantity)), (20, .inl (w.2.2.1 0, 48, .inl it_progress)), (21, .inr (7, [.int va_count, .ref (zo w + (a + 22)), .ref (zo w + (a + 23)), .ref (zo w + (a + 24))])), (25, .inr (0, [.int ce_count, .ref (zo w + (a + 26)), .ref (zo w + (a + 27)), .ref (zo w + (a + 28)), .ref (zo w + (a + 29)), .ref (zo w + (a + 30))])), (31, .inr (3, [.int li_count, .ref (zo w + (a + 32)), .ref (zo w + (a + 33)), .ref (zo w + (a + 34)), .ref (zo w + (a + 35))]))]) 63 [(0, .ref (zo w + a)), (2, .int x2)] [] := by
  induction n with
  | zero =>
    intro rd_filled rd_length rd_at rd_kind rd_start rd_value rd_error rd_errorAt rd_hasThreshold rd_hasRate pr_day pr_accounts co_count co_parent co_retentionPercent co_limitPercent co_paymentDays co_rank co_linked co_stage pg_threshold pg_length pg_code it_count it_first it_price it_quantity it_progress va_count ce_count li_count x2 hf
    have hf : (none : Option (Int32 × Int32 × Int32 × Int32 × Int32 × Int32 × Int32 × Int32 × Int32 × Int32 × Int32 × Int32 × (Nat → Int64) × Int32 × (Nat → Int32) × (Nat → Int32) × (Nat → Int32) × (Nat → Int32) × (Nat → Int32) × (Nat → Int32) × (Nat → Int32) × Int32 × Int32 × (Nat → Int32) × (Nat → Int32) × (Nat → Int32) × (Nat → Int32) × (Nat → Int32) × (Nat → Int32) × Int32 × Int32 × Int32)) = some r := hf
    cases hf
  | succ z ih =>
    intro rd_filled rd_length rd_at rd_kind rd_start rd_value rd_error rd_errorAt rd_hasThreshold rd_hasRate pr_day pr_accounts co_count co_parent co_retentionPercent co_limitPercent co_paymentDays co_rank co_linked co_stage pg_threshold pg_length pg_code it_count it_first it_price it_quantity it_progress va_count ce_count li_count x2 hf
    rw [f_X6_read_63] at hf
    refine z_iload_n (pc' := 64) C 1 dX6_read_63 rfl rfl rfl ?_
    refine z_aload_n (pc' := 65) C 0 dX6_read_64 rfl rfl rfl ?_
    refine z_getf (pc' := 68) C zci_6 zw_279 (j := 3) rfl (zc_i (o := 0) n_a0 rfl) rfl rfl dX6_read_65 rfl ?_
    refine z_icmp_ge (pc' := 71) C 102 hf dX6_read_68 rfl rfl (fun g_68 hf => ?_) (fun g_68 hf => ?_)
    · refine z_aload_n (pc' := 103) C 0 dX6_read_102 rfl rfl rfl ?_
      refine z_getf (pc' := 106) C zci_6 zw_284 (j := 8) rfl (zc_i (o := 0) n_a0 rfl) rfl rfl dX6_read_103 rfl ?_
      cases hf
      exact z_iret C rfl rfl dX6_read_106
    · refine z_aload_n (pc' := 72) C 0 dX6_read_71 rfl rfl rfl ?_
      refine z_getf (pc' := 75) C zci_6 zw_284 (j := 8) rfl (zc_i (o := 0) n_a0 rfl) rfl rfl dX6_read_72 rfl ?_
      refine z_if_ne (pc' := 78) C 102 hf dX6_read_75 rfl rfl (fun g_75 hf => ?_) (fun g_75 hf => ?_)
      · refine z_aload_n (pc' := 103) C 0 dX6_read_102 rfl rfl rfl ?_
        refine z_getf (pc' := 106) C zci_6 zw_284 (j := 8) rfl (zc_i (o := 0) n_a0 rfl) rfl rfl dX6_read_103 rfl ?_
        cases hf
        exact z_iret C rfl rfl dX6_read_106
      · refine z_aload_n (pc' := 79) C 0 dX6_read_78 rfl rfl rfl ?_
        refine z_getf (pc' := 82) C zci_6 zw_281 (j := 5) rfl (zc_i (o := 0) n_a0 rfl) rfl rfl dX6_read_79 rfl ?_
        refine z_iconst (pc' := 83) C dX6_read_82 zk_iconst_m1 rfl ?_
        refine z_icmp_eq (pc' := 86) C 102 hf dX6_read_83 rfl rfl (fun g_83 hf => ?_) (fun g_83 hf => ?_)
        · refine z_aload_n (pc' := 103) C 0 dX6_read_102 rfl rfl rfl ?_
          refine z_getf (pc' := 106) C zci_6 zw_284 (j := 8) rfl (zc_i (o := 0) n_a0 rfl) rfl rfl dX6_read_103 rfl ?_
          cases hf
          exact z_iret C rfl rfl dX6_read_106
        · refine z_aload_n (pc' := 87) C 0 dX6_read_86 rfl rfl rfl ?_
          refine z_cV (pc' := 90) C hf (As := []) (fun hq => c_X6_readStatement (a := a) (pr_pricing := pr_pricing) (zc_i (o := 0) n_a0 rfl) (zc_o (o := 1) (zc_f (m := 3) h_a1 (by omega) rfl) rfl) (zc_i (o := 2) n_a2 rfl) (zc_i (o := 4) n_a4 rfl) (zc_i (o := 5) n_a5 rfl) (zc_i (o := 6) n_a6 rfl) (zc_i (o := 7) n_a7 rfl) (zc_i (o := 8) n_a8 rfl) (zc_i (o := 9) n_a9 rfl) (zc_i (o := 10) n_a10 rfl) (zc_i (o := 11) n_a11 rfl) (zc_o (o := 15) (zc_f (m := 3) h_a15 (by omega) rfl) rfl) (zc_i (o := 16) n_a16 rfl) (zc_i (o := 17) n_a17 rfl) (zc_i (o := 18) n_a18 rfl) (zc_i (o := 19) n_a19 rfl) (zc_i (o := 20) n_a20 rfl) (zc_f (m := 37) (zc_i (o := 0) n_pr_pricing0 rfl) (by omega) rfl) (zc_f (m := 37) (zc_i (o := 2) n_pr_pricing2 rfl) (by omega) rfl) (by omega) hq) (fun q_87 => (zu (zu h pr_pricing [(0, .inr (4, [.int q_87.2.2.2.2.2.2.2.2.2.2.2.2.2.2.2.2.1, .int q_87.2.2.2.2.2.2.2.2.2.2.2.2.2.2.2.2.2.1, .ref (zo w + (pr_pricing + 2)), .ref (zo w + (pr_pricing + 1))])), (2, .inl (w.2.2.1 0, pg_clen, .inl q_87.2.2.2.2.2.2.2.2.2.2.2.2.2.2.2.2.2.2.1))]) a [(0, .inr (6, [.ref (zo w + (a + 1)), .int rd_filled, .ref (zo w + (a + 2)), .int rd_length, .int q_87.1, .int q_87.2.1, .int q_87.2.2.1, .int q_87.2.2.2.1, .int q_87.2.2.2.2.1, .int q_87.2.2.2.2.2.1, .int q_87.2.2.2.2.2.2.1, .int q_87.2.2.2.2.2.2.2.1])), (2, .inr (5, [.int pr_day, .ref (zo w + (a + 3)), .ref (zo w + (a + 4)), .ref (zo w + pr_pricing), .ref (zo w + (a + 15)), .ref (zo w + (a + 21)), .ref (zo w + (a + 25)), .ref (zo w + (a + 31)), .ref (zo w + (a + 36))])), (3, .inl (w.2.2.1 1, 9, .inr (.inl pr_accounts))), (4, .inr (1, [.int q_87.2.2.2.2.2.2.2.2.1, .ref (zo w + (a + 5)), .ref (zo w + (a + 6)), .ref (zo w + (a + 7)), .ref (zo w + (a + 8)), .ref (zo w + (a + 9)), .ref (zo w + (a + 10)), .ref (zo w + (a + 11))])), (5, .inl (w.2.2.1 0, 8, .inl q_87.2.2.2.2.2.2.2.2.2.1)), (6, .inl (w.2.2.1 0, 8, .inl q_87.2.2.2.2.2.2.2.2.2.2.1)), (7, .inl (w.2.2.1 0, 8, .inl q_87.2.2.2.2.2.2.2.2.2.2.2.1)), (8, .inl (w.2.2.1 0, 8, .inl q_87.2.2.2.2.2.2.2.2.2.2.2.2.1)), (9, .inl (w.2.2.1 0, 8, .inl q_87.2.2.2.2.2.2.2.2.2.2.2.2.2.1)), (10, .inl (w.2.2.1 3, 8, .inl q_87.2.2.2.2.2.2.2.2.2.2.2.2.2.2.1)), (11, .inl (w.2.2.1 0, 8, .inl q_87.2.2.2.2.2.2.2.2.2.2.2.2.2.2.2.1)), (16, .inl (w.2.2.1 0, 8, .inl q_87.2.2.2.2.2.2.2.2.2.2.2.2.2.2.2.2.2.2.2.1)), (17, .inl (w.2.2.1 0, 48, .inl q_87.2.2.2.2.2.2.2.2.2.2.2.2.2.2.2.2.2.2.2.2.1)), (18, .inl (w.2.2.1 0, 48, .inl q_87.2.2.2.2.2.2.2.2.2.2.2.2.2.2.2.2.2.2.2.2.2.1)), (19, .inl (w.2.2.1 0, 48, .inl q_87.2.2.2.2.2.2.2.2.2.2.2.2.2.2.2.2.2.2.2.2.2.2.1)), (20, .inl (w.2.2.1 0, 48, .inl q_87.2.2.2.2.2.2.2.2.2.2.2.2.2.2.2.2.2.2.2.2.2.2.2)), (21, .inr (7, [.int va_count, .ref (zo w + (a + 22)), .ref (zo w + (a + 23)), .ref (zo w + (a + 24))])), (25, .inr (0, [.int ce_count, .ref (zo w + (a + 26)), .ref (zo w + (a + 27)), .ref (zo w + (a + 28)), .ref (zo w + (a + 29)), .ref (zo w + (a + 30))])), (31, .inr (3, [.int li_count, .ref (zo w + (a + 32)), .ref (zo w + (a + 33)), .ref (zo w + (a + 34)), .ref (zo w + (a + 35))]))])) (fun q_87 => []) (fun _ => zu_shB (d := 0) (m := 37) (n := 3) rfl rfl (by omega) rfl rfl rfl rfl) (fun _ => rfl) zy_X6_readStatement zw_617 zw_619 zv_9 (ci := 6) rfl (zc_i (o := 0) n_a0 rfl) ⟨rfl, rfl⟩ rfl rfl rfl rfl rfl dX6_read_87 rfl (fun q_87 hf => ?_)
          refine z_aload_n (pc' := 91) C 0 dX6_read_90 rfl rfl rfl ?_
          refine z_bipush (pc' := 93) C dX6_read_91 zk_bipush_59 rfl ?_
          refine z_cV (pc' := 96) C hf (As := [.int (59 : Int32)]) (fun hq => c_X6_take (a := a) (zc_i (o := 0) n_a0 rfl) (zc_o (o := 1) (zc_f (m := 3) h_a1 (by omega) rfl) rfl) hq) (fun q_93 => (zu (zu h pr_pricing [(0, .inr (4, [.int q_87.2.2.2.2.2.2.2.2.2.2.2.2.2.2.2.2.1, .int q_87.2.2.2.2.2.2.2.2.2.2.2.2.2.2.2.2.2.1, .ref (zo w + (pr_pricing + 2)), .ref (zo w + (pr_pricing + 1))])), (2, .inl (w.2.2.1 0, pg_clen, .inl q_87.2.2.2.2.2.2.2.2.2.2.2.2.2.2.2.2.2.2.1))]) a [(0, .inr (6, [.ref (zo w + (a + 1)), .int rd_filled, .ref (zo w + (a + 2)), .int rd_length, .int q_93.1, .int q_93.2.1, .int q_93.2.2.1, .int q_93.2.2.2.1, .int q_93.2.2.2.2.1, .int q_93.2.2.2.2.2, .int q_87.2.2.2.2.2.2.1, .int q_87.2.2.2.2.2.2.2.1])), (2, .inr (5, [.int pr_day, .ref (zo w + (a + 3)), .ref (zo w + (a + 4)), .ref (zo w + pr_pricing), .ref (zo w + (a + 15)), .ref (zo w + (a + 21)), .ref (zo w + (a + 25)), .ref (zo w + (a + 31)), .ref (zo w + (a + 36))])), (3, .inl (w.2.2.1 1, 9, .inr (.inl pr_accounts))), (4, .inr (1, [.int q_87.2.2.2.2.2.2.2.2.1, .ref (zo w + (a + 5)), .ref (zo w + (a + 6)), .ref (zo w + (a + 7)), .ref (zo w + (a + 8)), .ref (zo w + (a + 9)), .ref (zo w + (a + 10)), .ref (zo w + (a + 11))])), (5, .inl (w.2.2.1 0, 8, .inl q_87.2.2.2.2.2.2.2.2.2.1)), (6, .inl (w.2.2.1 0, 8, .inl q_87.2.2.2.2.2.2.2.2.2.2.1)), (7, .inl (w.2.2.1 0, 8, .inl q_87.2.2.2.2.2.2.2.2.2.2.2.1)), (8, .inl (w.2.2.1 0, 8, .inl q_87.2.2.2.2.2.2.2.2.2.2.2.2.1)), (9, .inl (w.2.2.1 0, 8, .inl q_87.2.2.2.2.2.2.2.2.2.2.2.2.2.1)), (10, .inl (w.2.2.1 3, 8, .inl q_87.2.2.2.2.2.2.2.2.2.2.2.2.2.2.1)), (11, .inl (w.2.2.1 0, 8, .inl q_87.2.2.2.2.2.2.2.2.2.2.2.2.2.2.2.1)), (16, .inl (w.2.2.1 0, 8, .inl q_87.2.2.2.2.2.2.2.2.2.2.2.2.2.2.2.2.2.2.2.1)), (17, .inl (w.2.2.1 0, 48, .inl q_87.2.2.2.2.2.2.2.2.2.2.2.2.2.2.2.2.2.2.2.2.1)), (18, .inl (w.2.2.1 0, 48, .inl q_87.2.2.2.2.2.2.2.2.2.2.2.2.2.2.2.2.2.2.2.2.2.1)), (19, .inl (w.2.2.1 0, 48, .inl q_87.2.2.2.2.2.2.2.2.2.2.2.2.2.2.2.2.2.2.2.2.2.2.1)), (20, .inl (w.2.2.1 0, 48, .inl q_87.2.2.2.2.2.2.2.2.2.2.2.2.2.2.2.2.2.2.2.2.2.2.2)), (21, .inr (7, [.int va_count, .ref (zo w + (a + 22)), .ref (zo w + (a + 23)), .ref (zo w + (a + 24))])), (25, .inr (0, [.int ce_count, .ref (zo w + (a + 26)), .ref (zo w + (a + 27)), .ref (zo w + (a + 28)), .ref (zo w + (a + 29)), .ref (zo w + (a + 30))])), (31, .inr (3, [.int li_count, .ref (zo w + (a + 32)), .ref (zo w + (a + 33)), .ref (zo w + (a + 34)), .ref (zo w + (a + 35))]))])) (fun q_93 => []) (fun _ => zu_sh (d := 0) rfl rfl) (fun _ => rfl) zy_X6_take zw_608 zw_610 zv_8 (ci := 6) rfl (zc_i (o := 0) n_a0 rfl) ⟨rfl, rfl⟩ rfl rfl rfl rfl rfl dX6_read_93 rfl (fun q_93 hf => ?_)
          refine z_iinc (pc' := 99) C 1 [(2, .int (x2 + (1 : Int32))), (0, .ref (zo w + a))] dX6_read_96 rfl zk_iconst_1 rfl rfl rfl ?_
          refine z_goto C 63 dX6_read_99 rfl ?_
          refine z_pick (lv' := [(0, .ref (zo w + a)), (2, .int (x2 + (1 : Int32)))]) [1, 0] rfl ?_
          exact ih hf
set_option maxRecDepth 20000 in
theorem w_X6_read_53 {X : zC} {w : zV} {N : Nat} {h : zH} {a : Nat} {rd_text : Nat → Int32} {pr_pricing : Nat} {pg_clen : Nat} (C : zK X w RX6 cX6_read 3 (some .int) (zrx 34 1759 3 920)) (n_a0 : a + 0 < N) (h_a1 : zc N h (a + 1) (.inl (w.2.2.1 2, 900, .inl rd_text))) (n_a2 : a + 2 < N) (n_a3 : a + 3 < N) (n_a4 : a + 4 < N) (n_a5 : a + 5 < N) (n_a6 : a + 6 < N) (n_a7 : a + 7 < N) (n_a8 : a + 8 < N) (n_a9 : a + 9 < N) (n_a10 : a + 10 < N) (n_a11 : a + 11 < N) (h_a15 : zc N h (a + 15) (.inr (2, [.ref (zo w + (a + 16)), .ref (zo w + (a + 17)), .ref (zo w + (a + 18)), .ref (zo w + (a + 19)), .ref (zo w + (a + 20))]))) (n_a16 : a + 16 < N) (n_a17 : a + 17 < N) (n_a18 : a + 18 < N) (n_a19 : a + 19 < N) (n_a20 : a + 20 < N) (n_a21 : a + 21 < N) (n_a25 : a + 25 < N) (n_a31 : a + 31 < N) (n_pr_pricing0 : pr_pricing + 0 < N) (n_pr_pricing2 : pr_pricing + 2 < N) (far_a : a + 37 ≤ pr_pricing) {r : Int32 × Int32 × Int32 × Int32 × Int32 × Int32 × Int32 × Int32 × Int32 × Int32 × Int32 × Int32 × (Nat → Int64) × Int32 × (Nat → Int32) × (Nat → Int32) × (Nat → Int32) × (Nat → Int32) × (Nat → Int32) × (Nat → Int32) × (Nat → Int32) × Int32 × Int32 × (Nat → Int32) × (Nat → Int32) × (Nat → Int32) × (Nat → Int32) × (Nat → Int32) × (Nat → Int32) × Int32 × Int32 × Int32} {rd_filled : Int32} {rd_length : Int32} {rd_at : Int32} {rd_kind : Int32} {rd_start : Int32} {rd_value : Int32} {rd_error : Int32} {rd_errorAt : Int32} {rd_hasThreshold : Int32} {rd_hasRate : Int32} {pr_day : Int32} {pr_accounts : Nat → Int64} {co_count : Int32} {co_parent : Nat → Int32} {co_retentionPercent : Nat → Int32} {co_limitPercent : Nat → Int32} {co_paymentDays : Nat → Int32} {co_rank : Nat → Int32} {co_linked : Nat → Int32} {co_stage : Nat → Int32} {pg_threshold : Int32} {pg_length : Int32} {pg_code : Nat → Int32} {it_count : Nat → Int32} {it_first : Nat → Int32} {it_price : Nat → Int32} {it_quantity : Nat → Int32} {it_progress : Nat → Int32} {va_count : Int32} {ce_count : Int32} {li_count : Int32} (hf : f_X6_read_53  rd_filled rd_length rd_at rd_kind rd_start rd_value rd_error rd_errorAt rd_hasThreshold rd_hasRate rd_text pr_day pr_accounts co_count co_parent co_retentionPercent co_limitPercent co_paymentDays co_rank co_linked co_stage pg_threshold pg_length pg_clen pg_code it_count it_first it_price it_quantity it_progress va_count ce_count li_count = some r) : zZ X w (zQ X w (zrx 34 1759 3 920) (some (.int r.1)) false N (zu (zu h pr_pricing [(0, .inr (4, [.int r.2.2.2.2.2.2.2.2.2.2.2.2.2.2.2.2.2.2.2.2.2.1, .int r.2.2.2.2.2.2.2.2.2.2.2.2.2.2.2.2.2.2.2.2.2.2.1, .ref (zo w + (pr_pricing + 2)), .ref (zo w + (pr_pricing + 1))])), (2, .inl (w.2.2.1 0, pg_clen, .inl r.2.2.2.2.2.2.2.2.2.2.2.2.2.2.2.2.2.2.2.2.2.2.2.1))]) a [(0, .inr (6, [.ref (zo w + (a + 1)), .int r.2.1, .ref (zo w + (a + 2)), .int r.2.2.1, .int r.2.2.2.1, .int r.2.2.2.2.1, .int r.2.2.2.2.2.1, .int r.2.2.2.2.2.2.1, .int r.2.2.2.2.2.2.2.1, .int r.2.2.2.2.2.2.2.2.1, .int r.2.2.2.2.2.2.2.2.2.1, .int r.2.2.2.2.2.2.2.2.2.2.1])), (2, .inr (5, [.int r.2.2.2.2.2.2.2.2.2.2.2.1, .ref (zo w + (a + 3)), .ref (zo w + (a + 4)), .ref (zo w + pr_pricing), .ref (zo w + (a + 15)), .ref (zo w + (a + 21)), .ref (zo w + (a + 25)), .ref (zo w + (a + 31)), .ref (zo w + (a + 36))])), (3, .inl (w.2.2.1 1, 9, .inr (.inl r.2.2.2.2.2.2.2.2.2.2.2.2.1))), (4, .inr (1, [.int r.2.2.2.2.2.2.2.2.2.2.2.2.2.1, .ref (zo w + (a + 5)), .ref (zo w + (a + 6)), .ref (zo w + (a + 7)), .ref (zo w + (a + 8)), .ref (zo w + (a + 9)), .ref (zo w + (a + 10)), .ref (zo w + (a + 11))])), (5, .inl (w.2.2.1 0, 8, .inl r.2.2.2.2.2.2.2.2.2.2.2.2.2.2.1)), (6, .inl (w.2.2.1 0, 8, .inl r.2.2.2.2.2.2.2.2.2.2.2.2.2.2.2.1)), (7, .inl (w.2.2.1 0, 8, .inl r.2.2.2.2.2.2.2.2.2.2.2.2.2.2.2.2.1)), (8, .inl (w.2.2.1 0, 8, .inl r.2.2.2.2.2.2.2.2.2.2.2.2.2.2.2.2.2.1)), (9, .inl (w.2.2.1 0, 8, .inl r.2.2.2.2.2.2.2.2.2.2.2.2.2.2.2.2.2.2.1)), (10, .inl (w.2.2.1 3, 8, .inl r.2.2.2.2.2.2.2.2.2.2.2.2.2.2.2.2.2.2.2.1)), (11, .inl (w.2.2.1 0, 8, .inl r.2.2.2.2.2.2.2.2.2.2.2.2.2.2.2.2.2.2.2.2.1)), (16, .inl (w.2.2.1 0, 8, .inl r.2.2.2.2.2.2.2.2.2.2.2.2.2.2.2.2.2.2.2.2.2.2.2.2.1)), (17, .inl (w.2.2.1 0, 48, .inl r.2.2.2.2.2.2.2.2.2.2.2.2.2.2.2.2.2.2.2.2.2.2.2.2.2.1)), (18, .inl (w.2.2.1 0, 48, .inl r.2.2.2.2.2.2.2.2.2.2.2.2.2.2.2.2.2.2.2.2.2.2.2.2.2.2.1)), (19, .inl (w.2.2.1 0, 48, .inl r.2.2.2.2.2.2.2.2.2.2.2.2.2.2.2.2.2.2.2.2.2.2.2.2.2.2.2.1)), (20, .inl (w.2.2.1 0, 48, .inl r.2.2.2.2.2.2.2.2.2.2.2.2.2.2.2.2.2.2.2.2.2.2.2.2.2.2.2.2.1)), (21, .inr (7, [.int r.2.2.2.2.2.2.2.2.2.2.2.2.2.2.2.2.2.2.2.2.2.2.2.2.2.2.2.2.2.1, .ref (zo w + (a + 22)), .ref (zo w + (a + 23)), .ref (zo w + (a + 24))])), (25, .inr (0, [.int r.2.2.2.2.2.2.2.2.2.2.2.2.2.2.2.2.2.2.2.2.2.2.2.2.2.2.2.2.2.2.1, .ref (zo w + (a + 26)), .ref (zo w + (a + 27)), .ref (zo w + (a + 28)), .ref (zo w + (a + 29)), .ref (zo w + (a + 30))])), (31, .inr (3, [.int r.2.2.2.2.2.2.2.2.2.2.2.2.2.2.2.2.2.2.2.2.2.2.2.2.2.2.2.2.2.2.2, .ref (zo w + (a + 32)), .ref (zo w + (a + 33)), .ref (zo w + (a + 34)), .ref (zo w + (a + 35))]))])) 3 920 false N (zu (zu h pr_pricing [(0, .inr (4, [.int pg_threshold, .int pg_length, .ref (zo w + (pr_pricing + 2)), .ref (zo w + (pr_pricing + 1))])), (2, .inl (w.2.2.1 0, pg_clen, .inl pg_code))]) a [(0, .inr (6, [.ref (zo w + (a + 1)), .int rd_filled, .ref (zo w + (a + 2)), .int rd_length, .int rd_at, .int rd_kind, .int rd_start, .int rd_value, .int rd_error, .int rd_errorAt, .int rd_hasThreshold, .int rd_hasRate])), (2, .inr (5, [.int pr_day, .ref (zo w + (a + 3)), .ref (zo w + (a + 4)), .ref (zo w + pr_pricing), .ref (zo w + (a + 15)), .ref (zo w + (a + 21)), .ref (zo w + (a + 25)), .ref (zo w + (a + 31)), .ref (zo w + (a + 36))])), (3, .inl (w.2.2.1 1, 9, .inr (.inl pr_accounts))), (4, .inr (1, [.int co_count, .ref (zo w + (a + 5)), .ref (zo w + (a + 6)), .ref (zo w + (a + 7)), .ref (zo w + (a + 8)), .ref (zo w + (a + 9)), .ref (zo w + (a + 10)), .ref (zo w + (a + 11))])), (5, .inl (w.2.2.1 0, 8, .inl co_parent)), (6, .inl (w.2.2.1 0, 8, .inl co_retentionPercent)), (7, .inl (w.2.2.1 0, 8, .inl co_limitPercent)), (8, .inl (w.2.2.1 0, 8, .inl co_paymentDays)), (9, .inl (w.2.2.1 0, 8, .inl co_rank)), (10, .inl (w.2.2.1 3, 8, .inl co_linked)), (11, .inl (w.2.2.1 0, 8, .inl co_stage)), (16, .inl (w.2.2.1 0, 8, .inl it_count)), (17, .inl (w.2.2.1 0, 48, .inl it_first)), (18, .inl (w.2.2.1 0, 48, .inl it_price)), (19, .inl (w.2.2.1 0, 48, .inl it_quantity)), (20, .inl (w.2.2.1 0, 48, .inl it_progress)), (21, .inr (7, [.int va_count, .ref (zo w + (a + 22)), .ref (zo w + (a + 23)), .ref (zo w + (a + 24))])), (25, .inr (0, [.int ce_count, .ref (zo w + (a + 26)), .ref (zo w + (a + 27)), .ref (zo w + (a + 28)), .ref (zo w + (a + 29)), .ref (zo w + (a + 30))])), (31, .inr (3, [.int li_count, .ref (zo w + (a + 32)), .ref (zo w + (a + 33)), .ref (zo w + (a + 34)), .ref (zo w + (a + 35))]))]) 53 [(0, .ref (zo w + a))] [] := by
  unfold f_X6_read_53 at hf
  refine z_aload_n (pc' := 54) C 0 dX6_read_53 rfl rfl rfl ?_
  refine z_cV (pc' := 57) C hf (As := []) (fun hq => c_X6_advance (a := a) (zc_i (o := 0) n_a0 rfl) (zc_o (o := 1) (zc_f (m := 3) h_a1 (by omega) rfl) rfl) hq) (fun q_54 => (zu (zu h pr_pricing [(0, .inr (4, [.int pg_threshold, .int pg_length, .ref (zo w + (pr_pricing + 2)), .ref (zo w + (pr_pricing + 1))])), (2, .inl (w.2.2.1 0, pg_clen, .inl pg_code))]) a [(0, .inr (6, [.ref (zo w + (a + 1)), .int rd_filled, .ref (zo w + (a + 2)), .int rd_length, .int q_54.1, .int q_54.2.1, .int q_54.2.2.1, .int q_54.2.2.2, .int rd_error, .int rd_errorAt, .int rd_hasThreshold, .int rd_hasRate])), (2, .inr (5, [.int pr_day, .ref (zo w + (a + 3)), .ref (zo w + (a + 4)), .ref (zo w + pr_pricing), .ref (zo w + (a + 15)), .ref (zo w + (a + 21)), .ref (zo w + (a + 25)), .ref (zo w + (a + 31)), .ref (zo w + (a + 36))])), (3, .inl (w.2.2.1 1, 9, .inr (.inl pr_accounts))), (4, .inr (1, [.int co_count, .ref (zo w + (a + 5)), .ref (zo w + (a + 6)), .ref (zo w + (a + 7)), .ref (zo w + (a + 8)), .ref (zo w + (a + 9)), .ref (zo w + (a + 10)), .ref (zo w + (a + 11))])), (5, .inl (w.2.2.1 0, 8, .inl co_parent)), (6, .inl (w.2.2.1 0, 8, .inl co_retentionPercent)), (7, .inl (w.2.2.1 0, 8, .inl co_limitPercent)), (8, .inl (w.2.2.1 0, 8, .inl co_paymentDays)), (9, .inl (w.2.2.1 0, 8, .inl co_rank)), (10, .inl (w.2.2.1 3, 8, .inl co_linked)), (11, .inl (w.2.2.1 0, 8, .inl co_stage)), (16, .inl (w.2.2.1 0, 8, .inl it_count)), (17, .inl (w.2.2.1 0, 48, .inl it_first)), (18, .inl (w.2.2.1 0, 48, .inl it_price)), (19, .inl (w.2.2.1 0, 48, .inl it_quantity)), (20, .inl (w.2.2.1 0, 48, .inl it_progress)), (21, .inr (7, [.int va_count, .ref (zo w + (a + 22)), .ref (zo w + (a + 23)), .ref (zo w + (a + 24))])), (25, .inr (0, [.int ce_count, .ref (zo w + (a + 26)), .ref (zo w + (a + 27)), .ref (zo w + (a + 28)), .ref (zo w + (a + 29)), .ref (zo w + (a + 30))])), (31, .inr (3, [.int li_count, .ref (zo w + (a + 32)), .ref (zo w + (a + 33)), .ref (zo w + (a + 34)), .ref (zo w + (a + 35))]))])) (fun q_54 => []) (fun _ => zu_sh (d := 0) rfl rfl) (fun _ => rfl) zy_X6_advance zw_533 zw_535 zv_2 (ci := 6) rfl (zc_i (o := 0) n_a0 rfl) ⟨rfl, rfl⟩ rfl rfl rfl rfl rfl dX6_read_54 rfl (fun q_54 hf => ?_)
  refine z_aload_n (pc' := 58) C 0 dX6_read_57 rfl rfl rfl ?_
  refine z_cV (pc' := 61) C hf (As := []) (fun hq => c_X6_readHead (a := a) (zc_i (o := 0) n_a0 rfl) (zc_o (o := 1) (zc_f (m := 3) h_a1 (by omega) rfl) rfl) (zc_i (o := 2) n_a2 rfl) (zc_i (o := 3) n_a3 rfl) (zc_i (o := 4) n_a4 rfl) (zc_i (o := 5) n_a5 rfl) (zc_i (o := 6) n_a6 rfl) (zc_i (o := 7) n_a7 rfl) (zc_i (o := 8) n_a8 rfl) (zc_i (o := 9) n_a9 rfl) (zc_i (o := 10) n_a10 rfl) (zc_i (o := 11) n_a11 rfl) hq) (fun q_58 => (zu (zu h pr_pricing [(0, .inr (4, [.int pg_threshold, .int pg_length, .ref (zo w + (pr_pricing + 2)), .ref (zo w + (pr_pricing + 1))])), (2, .inl (w.2.2.1 0, pg_clen, .inl pg_code))]) a [(0, .inr (6, [.ref (zo w + (a + 1)), .int rd_filled, .ref (zo w + (a + 2)), .int rd_length, .int q_58.1, .int q_58.2.1, .int q_58.2.2.1, .int q_58.2.2.2.1, .int q_58.2.2.2.2.1, .int q_58.2.2.2.2.2.1, .int rd_hasThreshold, .int rd_hasRate])), (2, .inr (5, [.int pr_day, .ref (zo w + (a + 3)), .ref (zo w + (a + 4)), .ref (zo w + pr_pricing), .ref (zo w + (a + 15)), .ref (zo w + (a + 21)), .ref (zo w + (a + 25)), .ref (zo w + (a + 31)), .ref (zo w + (a + 36))])), (3, .inl (w.2.2.1 1, 9, .inr (.inl q_58.2.2.2.2.2.2.1))), (4, .inr (1, [.int q_58.2.2.2.2.2.2.2.1, .ref (zo w + (a + 5)), .ref (zo w + (a + 6)), .ref (zo w + (a + 7)), .ref (zo w + (a + 8)), .ref (zo w + (a + 9)), .ref (zo w + (a + 10)), .ref (zo w + (a + 11))])), (5, .inl (w.2.2.1 0, 8, .inl q_58.2.2.2.2.2.2.2.2.1)), (6, .inl (w.2.2.1 0, 8, .inl q_58.2.2.2.2.2.2.2.2.2.1)), (7, .inl (w.2.2.1 0, 8, .inl q_58.2.2.2.2.2.2.2.2.2.2.1)), (8, .inl (w.2.2.1 0, 8, .inl q_58.2.2.2.2.2.2.2.2.2.2.2.1)), (9, .inl (w.2.2.1 0, 8, .inl q_58.2.2.2.2.2.2.2.2.2.2.2.2.1)), (10, .inl (w.2.2.1 3, 8, .inl q_58.2.2.2.2.2.2.2.2.2.2.2.2.2.1)), (11, .inl (w.2.2.1 0, 8, .inl q_58.2.2.2.2.2.2.2.2.2.2.2.2.2.2)), (16, .inl (w.2.2.1 0, 8, .inl it_count)), (17, .inl (w.2.2.1 0, 48, .inl it_first)), (18, .inl (w.2.2.1 0, 48, .inl it_price)), (19, .inl (w.2.2.1 0, 48, .inl it_quantity)), (20, .inl (w.2.2.1 0, 48, .inl it_progress)), (21, .inr (7, [.int va_count, .ref (zo w + (a + 22)), .ref (zo w + (a + 23)), .ref (zo w + (a + 24))])), (25, .inr (0, [.int ce_count, .ref (zo w + (a + 26)), .ref (zo w + (a + 27)), .ref (zo w + (a + 28)), .ref (zo w + (a + 29)), .ref (zo w + (a + 30))])), (31, .inr (3, [.int li_count, .ref (zo w + (a + 32)), .ref (zo w + (a + 33)), .ref (zo w + (a + 34)), .ref (zo w + (a + 35))]))])) (fun q_58 => []) (fun _ => zu_sh (d := 0) rfl rfl) (fun _ => rfl) zy_X6_readHead zw_538 zw_540 zv_3 (ci := 6) rfl (zc_i (o := 0) n_a0 rfl) ⟨rfl, rfl⟩ rfl rfl rfl rfl rfl dX6_read_58 rfl (fun q_58 hf => ?_)
  refine z_iconst (pc' := 62) C dX6_read_61 zk_iconst_0 rfl ?_
  refine z_istore_n (pc' := 63) C [(2, .int (0 : Int32)), (0, .ref (zo w + a))] dX6_read_62 rfl rfl rfl rfl ?_
  refine z_pick (lv' := [(0, .ref (zo w + a)), (2, .int (0 : Int32))]) [1, 0] rfl ?_
  exact w_X6_read_63 C n_a0 h_a1 n_a2 n_a3 n_a4 n_a5 n_a6 n_a7 n_a8 n_a9 n_a10 n_a11 h_a15 n_a16 n_a17 n_a18 n_a19 n_a20 n_a21 n_a25 n_a31 n_pr_pricing0 n_pr_pricing2 far_a  FU hf
set_option maxRecDepth 20000 in
theorem c_X6_read {w : zV} {N : Nat} {h : zH} {a : Nat} {rd_filled : Int32} {rd_hasThreshold : Int32} {rd_hasRate : Int32} {rd_length : Int32} {rd_at : Int32} {rd_kind : Int32} {rd_start : Int32} {rd_value : Int32} {rd_error : Int32} {rd_errorAt : Int32} {rd_text : Nat → Int32} {co_linked : Nat → Int32} {co_stage : Nat → Int32} {it_count : Nat → Int32} {it_first : Nat → Int32} {it_price : Nat → Int32} {it_quantity : Nat → Int32} {pr_day : Int32} {pr_pricing : Nat} {it_progress : Nat → Int32} {va_count : Int32} {ce_count : Int32} {pr_accounts : Nat → Int64} {li_count : Int32} {co_count : Int32} {co_parent : Nat → Int32} {co_retentionPercent : Nat → Int32} {co_limitPercent : Nat → Int32} {co_paymentDays : Nat → Int32} {co_rank : Nat → Int32} {p1 : Int32} {tb : Nat} {te : va_E} (h_a0 : zc N h (a + 0) (.inr (6, [.ref (zo w + (a + 1)), .int rd_filled, .ref (zo w + (a + 2)), .int rd_length, .int rd_at, .int rd_kind, .int rd_start, .int rd_value, .int rd_error, .int rd_errorAt, .int rd_hasThreshold, .int rd_hasRate]))) (h_a1 : zc N h (a + 1) (.inl (w.2.2.1 2, 900, .inl rd_text))) (h_a2 : zc N h (a + 2) (.inr (5, [.int pr_day, .ref (zo w + (a + 3)), .ref (zo w + (a + 4)), .ref (zo w + pr_pricing), .ref (zo w + (a + 15)), .ref (zo w + (a + 21)), .ref (zo w + (a + 25)), .ref (zo w + (a + 31)), .ref (zo w + (a + 36))]))) (h_a3 : zc N h (a + 3) (.inl (w.2.2.1 1, 9, .inr (.inl pr_accounts)))) (h_a4 : zc N h (a + 4) (.inr (1, [.int co_count, .ref (zo w + (a + 5)), .ref (zo w + (a + 6)), .ref (zo w + (a + 7)), .ref (zo w + (a + 8)), .ref (zo w + (a + 9)), .ref (zo w + (a + 10)), .ref (zo w + (a + 11))]))) (h_a5 : zc N h (a + 5) (.inl (w.2.2.1 0, 8, .inl co_parent))) (h_a6 : zc N h (a + 6) (.inl (w.2.2.1 0, 8, .inl co_retentionPercent))) (h_a7 : zc N h (a + 7) (.inl (w.2.2.1 0, 8, .inl co_limitPercent))) (h_a8 : zc N h (a + 8) (.inl (w.2.2.1 0, 8, .inl co_paymentDays))) (h_a9 : zc N h (a + 9) (.inl (w.2.2.1 0, 8, .inl co_rank))) (h_a10 : zc N h (a + 10) (.inl (w.2.2.1 3, 8, .inl co_linked))) (h_a11 : zc N h (a + 11) (.inl (w.2.2.1 0, 8, .inl co_stage))) (h_a15 : zc N h (a + 15) (.inr (2, [.ref (zo w + (a + 16)), .ref (zo w + (a + 17)), .ref (zo w + (a + 18)), .ref (zo w + (a + 19)), .ref (zo w + (a + 20))]))) (h_a16 : zc N h (a + 16) (.inl (w.2.2.1 0, 8, .inl it_count))) (h_a17 : zc N h (a + 17) (.inl (w.2.2.1 0, 48, .inl it_first))) (h_a18 : zc N h (a + 18) (.inl (w.2.2.1 0, 48, .inl it_price))) (h_a19 : zc N h (a + 19) (.inl (w.2.2.1 0, 48, .inl it_quantity))) (h_a20 : zc N h (a + 20) (.inl (w.2.2.1 0, 48, .inl it_progress))) (h_a21 : zc N h (a + 21) (.inr (7, [.int va_count, .ref (zo w + (a + 22)), .ref (zo w + (a + 23)), .ref (zo w + (a + 24))]))) (h_a25 : zc N h (a + 25) (.inr (0, [.int ce_count, .ref (zo w + (a + 26)), .ref (zo w + (a + 27)), .ref (zo w + (a + 28)), .ref (zo w + (a + 29)), .ref (zo w + (a + 30))]))) (h_a31 : zc N h (a + 31) (.inr (3, [.int li_count, .ref (zo w + (a + 32)), .ref (zo w + (a + 33)), .ref (zo w + (a + 34)), .ref (zo w + (a + 35))]))) (hTa : a + 37 ≤ tb) (hTb : N ≤ tb + 1) (hTc : zc N h tb te) (hTj : zj te = true) {r : Int32 × Int32 × Int32 × Int32 × Int32 × Int32 × Int32 × Int32 × Int32 × Int32 × Int32 × Int32 × (Nat → Int64) × Int32 × (Nat → Int32) × (Nat → Int32) × (Nat → Int32) × (Nat → Int32) × (Nat → Int32) × (Nat → Int32) × (Nat → Int32) × Int32 × Int32 × (Nat → Int32) × (Nat → Int32) × (Nat → Int32) × (Nat → Int32) × (Nat → Int32) × (Nat → Int32) × Int32 × Int32 × Int32} (hf : f_X6_read rd_filled rd_length rd_at rd_kind rd_start rd_value rd_error rd_errorAt rd_hasThreshold rd_hasRate rd_text pr_day pr_accounts co_count co_parent co_retentionPercent co_limitPercent co_paymentDays co_rank co_linked co_stage it_count it_first it_price it_quantity it_progress va_count ce_count li_count p1 = some r) : zMP w yX6_read cX6_read 3 (some .int) (zrx 34 1759 3 920) N h [.ref (zo w + a), .int p1] (some (.int r.1)) (fun N' h' => ∃ g, N ≤ g ∧ N' = g + 3 ∧ h' = (zu (zu (zu (hJ N h) g (pgL w g (if rd_filled < p1 then rd_filled else p1))) g [(0, .inr (4, [.int r.2.2.2.2.2.2.2.2.2.2.2.2.2.2.2.2.2.2.2.2.2.1, .int r.2.2.2.2.2.2.2.2.2.2.2.2.2.2.2.2.2.2.2.2.2.2.1, .ref (zo w + (g + 2)), .ref (zo w + (g + 1))])), (2, .inl (w.2.2.1 0, (zpn (if rd_filled < p1 then rd_filled else p1)), .inl r.2.2.2.2.2.2.2.2.2.2.2.2.2.2.2.2.2.2.2.2.2.2.2.1))]) a [(0, .inr (6, [.ref (zo w + (a + 1)), .int r.2.1, .ref (zo w + (a + 2)), .int r.2.2.1, .int r.2.2.2.1, .int r.2.2.2.2.1, .int r.2.2.2.2.2.1, .int r.2.2.2.2.2.2.1, .int r.2.2.2.2.2.2.2.1, .int r.2.2.2.2.2.2.2.2.1, .int r.2.2.2.2.2.2.2.2.2.1, .int r.2.2.2.2.2.2.2.2.2.2.1])), (2, .inr (5, [.int r.2.2.2.2.2.2.2.2.2.2.2.1, .ref (zo w + (a + 3)), .ref (zo w + (a + 4)), .ref (zo w + g), .ref (zo w + (a + 15)), .ref (zo w + (a + 21)), .ref (zo w + (a + 25)), .ref (zo w + (a + 31)), .ref (zo w + (a + 36))])), (3, .inl (w.2.2.1 1, 9, .inr (.inl r.2.2.2.2.2.2.2.2.2.2.2.2.1))), (4, .inr (1, [.int r.2.2.2.2.2.2.2.2.2.2.2.2.2.1, .ref (zo w + (a + 5)), .ref (zo w + (a + 6)), .ref (zo w + (a + 7)), .ref (zo w + (a + 8)), .ref (zo w + (a + 9)), .ref (zo w + (a + 10)), .ref (zo w + (a + 11))])), (5, .inl (w.2.2.1 0, 8, .inl r.2.2.2.2.2.2.2.2.2.2.2.2.2.2.1)), (6, .inl (w.2.2.1 0, 8, .inl r.2.2.2.2.2.2.2.2.2.2.2.2.2.2.2.1)), (7, .inl (w.2.2.1 0, 8, .inl r.2.2.2.2.2.2.2.2.2.2.2.2.2.2.2.2.1)), (8, .inl (w.2.2.1 0, 8, .inl r.2.2.2.2.2.2.2.2.2.2.2.2.2.2.2.2.2.1)), (9, .inl (w.2.2.1 0, 8, .inl r.2.2.2.2.2.2.2.2.2.2.2.2.2.2.2.2.2.2.1)), (10, .inl (w.2.2.1 3, 8, .inl r.2.2.2.2.2.2.2.2.2.2.2.2.2.2.2.2.2.2.2.1)), (11, .inl (w.2.2.1 0, 8, .inl r.2.2.2.2.2.2.2.2.2.2.2.2.2.2.2.2.2.2.2.2.1)), (16, .inl (w.2.2.1 0, 8, .inl r.2.2.2.2.2.2.2.2.2.2.2.2.2.2.2.2.2.2.2.2.2.2.2.2.1)), (17, .inl (w.2.2.1 0, 48, .inl r.2.2.2.2.2.2.2.2.2.2.2.2.2.2.2.2.2.2.2.2.2.2.2.2.2.1)), (18, .inl (w.2.2.1 0, 48, .inl r.2.2.2.2.2.2.2.2.2.2.2.2.2.2.2.2.2.2.2.2.2.2.2.2.2.2.1)), (19, .inl (w.2.2.1 0, 48, .inl r.2.2.2.2.2.2.2.2.2.2.2.2.2.2.2.2.2.2.2.2.2.2.2.2.2.2.2.1)), (20, .inl (w.2.2.1 0, 48, .inl r.2.2.2.2.2.2.2.2.2.2.2.2.2.2.2.2.2.2.2.2.2.2.2.2.2.2.2.2.1)), (21, .inr (7, [.int r.2.2.2.2.2.2.2.2.2.2.2.2.2.2.2.2.2.2.2.2.2.2.2.2.2.2.2.2.2.1, .ref (zo w + (a + 22)), .ref (zo w + (a + 23)), .ref (zo w + (a + 24))])), (25, .inr (0, [.int r.2.2.2.2.2.2.2.2.2.2.2.2.2.2.2.2.2.2.2.2.2.2.2.2.2.2.2.2.2.2.1, .ref (zo w + (a + 26)), .ref (zo w + (a + 27)), .ref (zo w + (a + 28)), .ref (zo w + (a + 29)), .ref (zo w + (a + 30))])), (31, .inr (3, [.int r.2.2.2.2.2.2.2.2.2.2.2.2.2.2.2.2.2.2.2.2.2.2.2.2.2.2.2.2.2.2.2, .ref (zo w + (a + 32)), .ref (zo w + (a + 33)), .ref (zo w + (a + 34)), .ref (zo w + (a + 35))]))])) := by
  unfold f_X6_read at hf
  refine zMP_of (by decide) rfl (fun X C => ?_)
  refine z_eq (h' := (zu h a [(0, .inr (6, [.ref (zo w + (a + 1)), .int rd_filled, .ref (zo w + (a + 2)), .int rd_length, .int rd_at, .int rd_kind, .int rd_start, .int rd_value, .int rd_error, .int rd_errorAt, .int rd_hasThreshold, .int rd_hasRate])), (2, .inr (5, [.int pr_day, .ref (zo w + (a + 3)), .ref (zo w + (a + 4)), .ref (zo w + pr_pricing), .ref (zo w + (a + 15)), .ref (zo w + (a + 21)), .ref (zo w + (a + 25)), .ref (zo w + (a + 31)), .ref (zo w + (a + 36))])), (3, .inl (w.2.2.1 1, 9, .inr (.inl pr_accounts))), (4, .inr (1, [.int co_count, .ref (zo w + (a + 5)), .ref (zo w + (a + 6)), .ref (zo w + (a + 7)), .ref (zo w + (a + 8)), .ref (zo w + (a + 9)), .ref (zo w + (a + 10)), .ref (zo w + (a + 11))])), (5, .inl (w.2.2.1 0, 8, .inl co_parent)), (6, .inl (w.2.2.1 0, 8, .inl co_retentionPercent)), (7, .inl (w.2.2.1 0, 8, .inl co_limitPercent)), (8, .inl (w.2.2.1 0, 8, .inl co_paymentDays)), (9, .inl (w.2.2.1 0, 8, .inl co_rank)), (10, .inl (w.2.2.1 3, 8, .inl co_linked)), (11, .inl (w.2.2.1 0, 8, .inl co_stage)), (16, .inl (w.2.2.1 0, 8, .inl it_count)), (17, .inl (w.2.2.1 0, 48, .inl it_first)), (18, .inl (w.2.2.1 0, 48, .inl it_price)), (19, .inl (w.2.2.1 0, 48, .inl it_quantity)), (20, .inl (w.2.2.1 0, 48, .inl it_progress)), (21, .inr (7, [.int va_count, .ref (zo w + (a + 22)), .ref (zo w + (a + 23)), .ref (zo w + (a + 24))])), (25, .inr (0, [.int ce_count, .ref (zo w + (a + 26)), .ref (zo w + (a + 27)), .ref (zo w + (a + 28)), .ref (zo w + (a + 29)), .ref (zo w + (a + 30))])), (31, .inr (3, [.int li_count, .ref (zo w + (a + 32)), .ref (zo w + (a + 33)), .ref (zo w + (a + 34)), .ref (zo w + (a + 35))]))])) (zu_s h_a0 (zu_s h_a2 (zu_s h_a3 (zu_s h_a4 (zu_s h_a5 (zu_s h_a6 (zu_s h_a7 (zu_s h_a8 (zu_s h_a9 (zu_s h_a10 (zu_s h_a11 (zu_s h_a16 (zu_s h_a17 (zu_s h_a18 (zu_s h_a19 (zu_s h_a20 (zu_s h_a21 (zu_s h_a25 (zu_s h_a31 zu_0))))))))))))))))))).symm ?_
  have n_a0 := h_a0.1
  have n_a2 := h_a2.1
  have n_a3 := h_a3.1
  have n_a4 := h_a4.1
  have n_a5 := h_a5.1
  have n_a6 := h_a6.1
  have n_a7 := h_a7.1
  have n_a8 := h_a8.1
  have n_a9 := h_a9.1
  have n_a10 := h_a10.1
  have n_a11 := h_a11.1
  have n_a16 := h_a16.1
  have n_a17 := h_a17.1
  have n_a18 := h_a18.1
  have n_a19 := h_a19.1
  have n_a20 := h_a20.1
  have n_a21 := h_a21.1
  have n_a25 := h_a25.1
  have n_a31 := h_a31.1
  refine z_pick (lv' := [(0, .ref (zo w + a)), (1, .int p1)]) [0, 1] rfl ?_
  refine z_aload_n (pc' := 1) C 0 dX6_read_0 rfl rfl rfl ?_
  refine z_iload_n (pc' := 2) C 1 dX6_read_1 rfl rfl rfl ?_
  refine z_aload_n (pc' := 3) C 0 dX6_read_2 rfl rfl rfl ?_
  refine z_getf (pc' := 6) C zci_6 zw_275 (j := 1) rfl (zc_i (o := 0) n_a0 rfl) rfl rfl dX6_read_3 rfl ?_
  refine z_imin (pc' := 9) C zw_524 rfl rfl dX6_read_6 rfl ?_
  refine z_putf (pc' := 12) C zci_6 zw_279 (j := 3) rfl (zc_i (o := 0) n_a0 rfl) (fs' := [.ref (zo w + (a + 1)), .int rd_filled, .ref (zo w + (a + 2)), .int (if rd_filled < p1 then rd_filled else p1), .int rd_at, .int rd_kind, .int rd_start, .int rd_value, .int rd_error, .int rd_errorAt, .int rd_hasThreshold, .int rd_hasRate]) rfl rfl rfl rfl rfl (zu_put (o := 0) (L' := [(0, .inr (6, [.ref (zo w + (a + 1)), .int rd_filled, .ref (zo w + (a + 2)), .int (if rd_filled < p1 then rd_filled else p1), .int rd_at, .int rd_kind, .int rd_start, .int rd_value, .int rd_error, .int rd_errorAt, .int rd_hasThreshold, .int rd_hasRate])), (2, .inr (5, [.int pr_day, .ref (zo w + (a + 3)), .ref (zo w + (a + 4)), .ref (zo w + pr_pricing), .ref (zo w + (a + 15)), .ref (zo w + (a + 21)), .ref (zo w + (a + 25)), .ref (zo w + (a + 31)), .ref (zo w + (a + 36))])), (3, .inl (w.2.2.1 1, 9, .inr (.inl pr_accounts))), (4, .inr (1, [.int co_count, .ref (zo w + (a + 5)), .ref (zo w + (a + 6)), .ref (zo w + (a + 7)), .ref (zo w + (a + 8)), .ref (zo w + (a + 9)), .ref (zo w + (a + 10)), .ref (zo w + (a + 11))])), (5, .inl (w.2.2.1 0, 8, .inl co_parent)), (6, .inl (w.2.2.1 0, 8, .inl co_retentionPercent)), (7, .inl (w.2.2.1 0, 8, .inl co_limitPercent)), (8, .inl (w.2.2.1 0, 8, .inl co_paymentDays)), (9, .inl (w.2.2.1 0, 8, .inl co_rank)), (10, .inl (w.2.2.1 3, 8, .inl co_linked)), (11, .inl (w.2.2.1 0, 8, .inl co_stage)), (16, .inl (w.2.2.1 0, 8, .inl it_count)), (17, .inl (w.2.2.1 0, 48, .inl it_first)), (18, .inl (w.2.2.1 0, 48, .inl it_price)), (19, .inl (w.2.2.1 0, 48, .inl it_quantity)), (20, .inl (w.2.2.1 0, 48, .inl it_progress)), (21, .inr (7, [.int va_count, .ref (zo w + (a + 22)), .ref (zo w + (a + 23)), .ref (zo w + (a + 24))])), (25, .inr (0, [.int ce_count, .ref (zo w + (a + 26)), .ref (zo w + (a + 27)), .ref (zo w + (a + 28)), .ref (zo w + (a + 29)), .ref (zo w + (a + 30))])), (31, .inr (3, [.int li_count, .ref (zo w + (a + 32)), .ref (zo w + (a + 33)), .ref (zo w + (a + 34)), .ref (zo w + (a + 35))]))]) rfl) dX6_read_9 rfl ?_
  refine z_aload_n (pc' := 13) C 0 dX6_read_12 rfl rfl rfl ?_
  refine z_iconst (pc' := 14) C dX6_read_13 zk_iconst_0 rfl ?_
  refine z_putf (pc' := 17) C zci_6 zw_275 (j := 1) rfl (zc_i (o := 0) n_a0 rfl) (fs' := [.ref (zo w + (a + 1)), .int (0 : Int32), .ref (zo w + (a + 2)), .int (if rd_filled < p1 then rd_filled else p1), .int rd_at, .int rd_kind, .int rd_start, .int rd_value, .int rd_error, .int rd_errorAt, .int rd_hasThreshold, .int rd_hasRate]) rfl rfl rfl rfl rfl (zu_put (o := 0) (L' := [(0, .inr (6, [.ref (zo w + (a + 1)), .int (0 : Int32), .ref (zo w + (a + 2)), .int (if rd_filled < p1 then rd_filled else p1), .int rd_at, .int rd_kind, .int rd_start, .int rd_value, .int rd_error, .int rd_errorAt, .int rd_hasThreshold, .int rd_hasRate])), (2, .inr (5, [.int pr_day, .ref (zo w + (a + 3)), .ref (zo w + (a + 4)), .ref (zo w + pr_pricing), .ref (zo w + (a + 15)), .ref (zo w + (a + 21)), .ref (zo w + (a + 25)), .ref (zo w + (a + 31)), .ref (zo w + (a + 36))])), (3, .inl (w.2.2.1 1, 9, .inr (.inl pr_accounts))), (4, .inr (1, [.int co_count, .ref (zo w + (a + 5)), .ref (zo w + (a + 6)), .ref (zo w + (a + 7)), .ref (zo w + (a + 8)), .ref (zo w + (a + 9)), .ref (zo w + (a + 10)), .ref (zo w + (a + 11))])), (5, .inl (w.2.2.1 0, 8, .inl co_parent)), (6, .inl (w.2.2.1 0, 8, .inl co_retentionPercent)), (7, .inl (w.2.2.1 0, 8, .inl co_limitPercent)), (8, .inl (w.2.2.1 0, 8, .inl co_paymentDays)), (9, .inl (w.2.2.1 0, 8, .inl co_rank)), (10, .inl (w.2.2.1 3, 8, .inl co_linked)), (11, .inl (w.2.2.1 0, 8, .inl co_stage)), (16, .inl (w.2.2.1 0, 8, .inl it_count)), (17, .inl (w.2.2.1 0, 48, .inl it_first)), (18, .inl (w.2.2.1 0, 48, .inl it_price)), (19, .inl (w.2.2.1 0, 48, .inl it_quantity)), (20, .inl (w.2.2.1 0, 48, .inl it_progress)), (21, .inr (7, [.int va_count, .ref (zo w + (a + 22)), .ref (zo w + (a + 23)), .ref (zo w + (a + 24))])), (25, .inr (0, [.int ce_count, .ref (zo w + (a + 26)), .ref (zo w + (a + 27)), .ref (zo w + (a + 28)), .ref (zo w + (a + 29)), .ref (zo w + (a + 30))])), (31, .inr (3, [.int li_count, .ref (zo w + (a + 32)), .ref (zo w + (a + 33)), .ref (zo w + (a + 34)), .ref (zo w + (a + 35))]))]) rfl) dX6_read_14 rfl ?_
  refine z_aload_n (pc' := 18) C 0 dX6_read_17 rfl rfl rfl ?_
  refine z_iconst (pc' := 19) C dX6_read_18 zk_iconst_0 rfl ?_
  refine z_putf (pc' := 22) C zci_6 zw_280 (j := 4) rfl (zc_i (o := 0) n_a0 rfl) (fs' := [.ref (zo w + (a + 1)), .int (0 : Int32), .ref (zo w + (a + 2)), .int (if rd_filled < p1 then rd_filled else p1), .int (0 : Int32), .int rd_kind, .int rd_start, .int rd_value, .int rd_error, .int rd_errorAt, .int rd_hasThreshold, .int rd_hasRate]) rfl rfl rfl rfl rfl (zu_put (o := 0) (L' := [(0, .inr (6, [.ref (zo w + (a + 1)), .int (0 : Int32), .ref (zo w + (a + 2)), .int (if rd_filled < p1 then rd_filled else p1), .int (0 : Int32), .int rd_kind, .int rd_start, .int rd_value, .int rd_error, .int rd_errorAt, .int rd_hasThreshold, .int rd_hasRate])), (2, .inr (5, [.int pr_day, .ref (zo w + (a + 3)), .ref (zo w + (a + 4)), .ref (zo w + pr_pricing), .ref (zo w + (a + 15)), .ref (zo w + (a + 21)), .ref (zo w + (a + 25)), .ref (zo w + (a + 31)), .ref (zo w + (a + 36))])), (3, .inl (w.2.2.1 1, 9, .inr (.inl pr_accounts))), (4, .inr (1, [.int co_count, .ref (zo w + (a + 5)), .ref (zo w + (a + 6)), .ref (zo w + (a + 7)), .ref (zo w + (a + 8)), .ref (zo w + (a + 9)), .ref (zo w + (a + 10)), .ref (zo w + (a + 11))])), (5, .inl (w.2.2.1 0, 8, .inl co_parent)), (6, .inl (w.2.2.1 0, 8, .inl co_retentionPercent)), (7, .inl (w.2.2.1 0, 8, .inl co_limitPercent)), (8, .inl (w.2.2.1 0, 8, .inl co_paymentDays)), (9, .inl (w.2.2.1 0, 8, .inl co_rank)), (10, .inl (w.2.2.1 3, 8, .inl co_linked)), (11, .inl (w.2.2.1 0, 8, .inl co_stage)), (16, .inl (w.2.2.1 0, 8, .inl it_count)), (17, .inl (w.2.2.1 0, 48, .inl it_first)), (18, .inl (w.2.2.1 0, 48, .inl it_price)), (19, .inl (w.2.2.1 0, 48, .inl it_quantity)), (20, .inl (w.2.2.1 0, 48, .inl it_progress)), (21, .inr (7, [.int va_count, .ref (zo w + (a + 22)), .ref (zo w + (a + 23)), .ref (zo w + (a + 24))])), (25, .inr (0, [.int ce_count, .ref (zo w + (a + 26)), .ref (zo w + (a + 27)), .ref (zo w + (a + 28)), .ref (zo w + (a + 29)), .ref (zo w + (a + 30))])), (31, .inr (3, [.int li_count, .ref (zo w + (a + 32)), .ref (zo w + (a + 33)), .ref (zo w + (a + 34)), .ref (zo w + (a + 35))]))]) rfl) dX6_read_19 rfl ?_
  refine z_aload_n (pc' := 23) C 0 dX6_read_22 rfl rfl rfl ?_
  refine z_iconst (pc' := 24) C dX6_read_23 zk_iconst_0 rfl ?_
  refine z_putf (pc' := 27) C zci_6 zw_284 (j := 8) rfl (zc_i (o := 0) n_a0 rfl) (fs' := [.ref (zo w + (a + 1)), .int (0 : Int32), .ref (zo w + (a + 2)), .int (if rd_filled < p1 then rd_filled else p1), .int (0 : Int32), .int rd_kind, .int rd_start, .int rd_value, .int (0 : Int32), .int rd_errorAt, .int rd_hasThreshold, .int rd_hasRate]) rfl rfl rfl rfl rfl (zu_put (o := 0) (L' := [(0, .inr (6, [.ref (zo w + (a + 1)), .int (0 : Int32), .ref (zo w + (a + 2)), .int (if rd_filled < p1 then rd_filled else p1), .int (0 : Int32), .int rd_kind, .int rd_start, .int rd_value, .int (0 : Int32), .int rd_errorAt, .int rd_hasThreshold, .int rd_hasRate])), (2, .inr (5, [.int pr_day, .ref (zo w + (a + 3)), .ref (zo w + (a + 4)), .ref (zo w + pr_pricing), .ref (zo w + (a + 15)), .ref (zo w + (a + 21)), .ref (zo w + (a + 25)), .ref (zo w + (a + 31)), .ref (zo w + (a + 36))])), (3, .inl (w.2.2.1 1, 9, .inr (.inl pr_accounts))), (4, .inr (1, [.int co_count, .ref (zo w + (a + 5)), .ref (zo w + (a + 6)), .ref (zo w + (a + 7)), .ref (zo w + (a + 8)), .ref (zo w + (a + 9)), .ref (zo w + (a + 10)), .ref (zo w + (a + 11))])), (5, .inl (w.2.2.1 0, 8, .inl co_parent)), (6, .inl (w.2.2.1 0, 8, .inl co_retentionPercent)), (7, .inl (w.2.2.1 0, 8, .inl co_limitPercent)), (8, .inl (w.2.2.1 0, 8, .inl co_paymentDays)), (9, .inl (w.2.2.1 0, 8, .inl co_rank)), (10, .inl (w.2.2.1 3, 8, .inl co_linked)), (11, .inl (w.2.2.1 0, 8, .inl co_stage)), (16, .inl (w.2.2.1 0, 8, .inl it_count)), (17, .inl (w.2.2.1 0, 48, .inl it_first)), (18, .inl (w.2.2.1 0, 48, .inl it_price)), (19, .inl (w.2.2.1 0, 48, .inl it_quantity)), (20, .inl (w.2.2.1 0, 48, .inl it_progress)), (21, .inr (7, [.int va_count, .ref (zo w + (a + 22)), .ref (zo w + (a + 23)), .ref (zo w + (a + 24))])), (25, .inr (0, [.int ce_count, .ref (zo w + (a + 26)), .ref (zo w + (a + 27)), .ref (zo w + (a + 28)), .ref (zo w + (a + 29)), .ref (zo w + (a + 30))])), (31, .inr (3, [.int li_count, .ref (zo w + (a + 32)), .ref (zo w + (a + 33)), .ref (zo w + (a + 34)), .ref (zo w + (a + 35))]))]) rfl) dX6_read_24 rfl ?_
  refine z_aload_n (pc' := 28) C 0 dX6_read_27 rfl rfl rfl ?_
  refine z_iconst (pc' := 29) C dX6_read_28 zk_iconst_m1 rfl ?_
  refine z_putf (pc' := 32) C zci_6 zw_285 (j := 9) rfl (zc_i (o := 0) n_a0 rfl) (fs' := [.ref (zo w + (a + 1)), .int (0 : Int32), .ref (zo w + (a + 2)), .int (if rd_filled < p1 then rd_filled else p1), .int (0 : Int32), .int rd_kind, .int rd_start, .int rd_value, .int (0 : Int32), .int (-1 : Int32), .int rd_hasThreshold, .int rd_hasRate]) rfl rfl rfl rfl rfl (zu_put (o := 0) (L' := [(0, .inr (6, [.ref (zo w + (a + 1)), .int (0 : Int32), .ref (zo w + (a + 2)), .int (if rd_filled < p1 then rd_filled else p1), .int (0 : Int32), .int rd_kind, .int rd_start, .int rd_value, .int (0 : Int32), .int (-1 : Int32), .int rd_hasThreshold, .int rd_hasRate])), (2, .inr (5, [.int pr_day, .ref (zo w + (a + 3)), .ref (zo w + (a + 4)), .ref (zo w + pr_pricing), .ref (zo w + (a + 15)), .ref (zo w + (a + 21)), .ref (zo w + (a + 25)), .ref (zo w + (a + 31)), .ref (zo w + (a + 36))])), (3, .inl (w.2.2.1 1, 9, .inr (.inl pr_accounts))), (4, .inr (1, [.int co_count, .ref (zo w + (a + 5)), .ref (zo w + (a + 6)), .ref (zo w + (a + 7)), .ref (zo w + (a + 8)), .ref (zo w + (a + 9)), .ref (zo w + (a + 10)), .ref (zo w + (a + 11))])), (5, .inl (w.2.2.1 0, 8, .inl co_parent)), (6, .inl (w.2.2.1 0, 8, .inl co_retentionPercent)), (7, .inl (w.2.2.1 0, 8, .inl co_limitPercent)), (8, .inl (w.2.2.1 0, 8, .inl co_paymentDays)), (9, .inl (w.2.2.1 0, 8, .inl co_rank)), (10, .inl (w.2.2.1 3, 8, .inl co_linked)), (11, .inl (w.2.2.1 0, 8, .inl co_stage)), (16, .inl (w.2.2.1 0, 8, .inl it_count)), (17, .inl (w.2.2.1 0, 48, .inl it_first)), (18, .inl (w.2.2.1 0, 48, .inl it_price)), (19, .inl (w.2.2.1 0, 48, .inl it_quantity)), (20, .inl (w.2.2.1 0, 48, .inl it_progress)), (21, .inr (7, [.int va_count, .ref (zo w + (a + 22)), .ref (zo w + (a + 23)), .ref (zo w + (a + 24))])), (25, .inr (0, [.int ce_count, .ref (zo w + (a + 26)), .ref (zo w + (a + 27)), .ref (zo w + (a + 28)), .ref (zo w + (a + 29)), .ref (zo w + (a + 30))])), (31, .inr (3, [.int li_count, .ref (zo w + (a + 32)), .ref (zo w + (a + 33)), .ref (zo w + (a + 34)), .ref (zo w + (a + 35))]))]) rfl) dX6_read_29 rfl ?_
  refine z_aload_n (pc' := 33) C 0 dX6_read_32 rfl rfl rfl ?_
  refine z_iconst (pc' := 34) C dX6_read_33 zk_iconst_0 rfl ?_
  refine z_putf (pc' := 37) C zci_6 zw_287 (j := 10) rfl (zc_i (o := 0) n_a0 rfl) (fs' := [.ref (zo w + (a + 1)), .int (0 : Int32), .ref (zo w + (a + 2)), .int (if rd_filled < p1 then rd_filled else p1), .int (0 : Int32), .int rd_kind, .int rd_start, .int rd_value, .int (0 : Int32), .int (-1 : Int32), .int (0 : Int32), .int rd_hasRate]) rfl rfl rfl (by decide) rfl (zu_put (o := 0) (L' := [(0, .inr (6, [.ref (zo w + (a + 1)), .int (0 : Int32), .ref (zo w + (a + 2)), .int (if rd_filled < p1 then rd_filled else p1), .int (0 : Int32), .int rd_kind, .int rd_start, .int rd_value, .int (0 : Int32), .int (-1 : Int32), .int (0 : Int32), .int rd_hasRate])), (2, .inr (5, [.int pr_day, .ref (zo w + (a + 3)), .ref (zo w + (a + 4)), .ref (zo w + pr_pricing), .ref (zo w + (a + 15)), .ref (zo w + (a + 21)), .ref (zo w + (a + 25)), .ref (zo w + (a + 31)), .ref (zo w + (a + 36))])), (3, .inl (w.2.2.1 1, 9, .inr (.inl pr_accounts))), (4, .inr (1, [.int co_count, .ref (zo w + (a + 5)), .ref (zo w + (a + 6)), .ref (zo w + (a + 7)), .ref (zo w + (a + 8)), .ref (zo w + (a + 9)), .ref (zo w + (a + 10)), .ref (zo w + (a + 11))])), (5, .inl (w.2.2.1 0, 8, .inl co_parent)), (6, .inl (w.2.2.1 0, 8, .inl co_retentionPercent)), (7, .inl (w.2.2.1 0, 8, .inl co_limitPercent)), (8, .inl (w.2.2.1 0, 8, .inl co_paymentDays)), (9, .inl (w.2.2.1 0, 8, .inl co_rank)), (10, .inl (w.2.2.1 3, 8, .inl co_linked)), (11, .inl (w.2.2.1 0, 8, .inl co_stage)), (16, .inl (w.2.2.1 0, 8, .inl it_count)), (17, .inl (w.2.2.1 0, 48, .inl it_first)), (18, .inl (w.2.2.1 0, 48, .inl it_price)), (19, .inl (w.2.2.1 0, 48, .inl it_quantity)), (20, .inl (w.2.2.1 0, 48, .inl it_progress)), (21, .inr (7, [.int va_count, .ref (zo w + (a + 22)), .ref (zo w + (a + 23)), .ref (zo w + (a + 24))])), (25, .inr (0, [.int ce_count, .ref (zo w + (a + 26)), .ref (zo w + (a + 27)), .ref (zo w + (a + 28)), .ref (zo w + (a + 29)), .ref (zo w + (a + 30))])), (31, .inr (3, [.int li_count, .ref (zo w + (a + 32)), .ref (zo w + (a + 33)), .ref (zo w + (a + 34)), .ref (zo w + (a + 35))]))]) rfl) dX6_read_34 rfl ?_
  refine z_aload_n (pc' := 38) C 0 dX6_read_37 rfl rfl rfl ?_
  refine z_iconst (pc' := 39) C dX6_read_38 zk_iconst_0 rfl ?_
  refine z_putf (pc' := 42) C zci_6 zw_288 (j := 11) rfl (zc_i (o := 0) n_a0 rfl) (fs' := [.ref (zo w + (a + 1)), .int (0 : Int32), .ref (zo w + (a + 2)), .int (if rd_filled < p1 then rd_filled else p1), .int (0 : Int32), .int rd_kind, .int rd_start, .int rd_value, .int (0 : Int32), .int (-1 : Int32), .int (0 : Int32), .int (0 : Int32)]) rfl rfl rfl (by decide) rfl (zu_put (o := 0) (L' := [(0, .inr (6, [.ref (zo w + (a + 1)), .int (0 : Int32), .ref (zo w + (a + 2)), .int (if rd_filled < p1 then rd_filled else p1), .int (0 : Int32), .int rd_kind, .int rd_start, .int rd_value, .int (0 : Int32), .int (-1 : Int32), .int (0 : Int32), .int (0 : Int32)])), (2, .inr (5, [.int pr_day, .ref (zo w + (a + 3)), .ref (zo w + (a + 4)), .ref (zo w + pr_pricing), .ref (zo w + (a + 15)), .ref (zo w + (a + 21)), .ref (zo w + (a + 25)), .ref (zo w + (a + 31)), .ref (zo w + (a + 36))])), (3, .inl (w.2.2.1 1, 9, .inr (.inl pr_accounts))), (4, .inr (1, [.int co_count, .ref (zo w + (a + 5)), .ref (zo w + (a + 6)), .ref (zo w + (a + 7)), .ref (zo w + (a + 8)), .ref (zo w + (a + 9)), .ref (zo w + (a + 10)), .ref (zo w + (a + 11))])), (5, .inl (w.2.2.1 0, 8, .inl co_parent)), (6, .inl (w.2.2.1 0, 8, .inl co_retentionPercent)), (7, .inl (w.2.2.1 0, 8, .inl co_limitPercent)), (8, .inl (w.2.2.1 0, 8, .inl co_paymentDays)), (9, .inl (w.2.2.1 0, 8, .inl co_rank)), (10, .inl (w.2.2.1 3, 8, .inl co_linked)), (11, .inl (w.2.2.1 0, 8, .inl co_stage)), (16, .inl (w.2.2.1 0, 8, .inl it_count)), (17, .inl (w.2.2.1 0, 48, .inl it_first)), (18, .inl (w.2.2.1 0, 48, .inl it_price)), (19, .inl (w.2.2.1 0, 48, .inl it_quantity)), (20, .inl (w.2.2.1 0, 48, .inl it_progress)), (21, .inr (7, [.int va_count, .ref (zo w + (a + 22)), .ref (zo w + (a + 23)), .ref (zo w + (a + 24))])), (25, .inr (0, [.int ce_count, .ref (zo w + (a + 26)), .ref (zo w + (a + 27)), .ref (zo w + (a + 28)), .ref (zo w + (a + 29)), .ref (zo w + (a + 30))])), (31, .inr (3, [.int li_count, .ref (zo w + (a + 32)), .ref (zo w + (a + 33)), .ref (zo w + (a + 34)), .ref (zo w + (a + 35))]))]) rfl) dX6_read_39 rfl ?_
  refine z_aload_n (pc' := 43) C 0 dX6_read_42 rfl rfl rfl ?_
  refine z_getf (pc' := 46) C zci_6 zw_277 (j := 2) rfl (zc_i (o := 0) n_a0 rfl) rfl rfl dX6_read_43 rfl ?_
  refine z_aload_n (pc' := 47) C 0 dX6_read_46 rfl rfl rfl ?_
  refine z_getf (pc' := 50) C zci_6 zw_279 (j := 3) rfl (zc_i (o := 0) n_a0 rfl) rfl rfl dX6_read_47 rfl ?_
  have hTl := hTc.1
  obtain ⟨q_50, hq, hf⟩ := zB_s hf
  refine z_callVP (pc' := 53) (st := []) C (c_X5_clear (a := a + 2) (zc_i (o := 2) n_a2 rfl) (zc_i (o := 3) n_a3 rfl) (zc_i (o := 4) n_a4 rfl) (zc_o (o := 15) h_a15 rfl) (zc_i (o := 16) n_a16 rfl) (zc_i (o := 21) n_a21 rfl) (zc_i (o := 25) n_a25 rfl) (zc_i (o := 31) n_a31 rfl) (by omega) hTb (zc_f (m := 37) hTc (by omega) rfl) hTj hq) zy_X5_clear zw_525 zw_526 zw_527 (ci := 5) rfl (zc_i (o := 2) n_a2 rfl) rfl rfl rfl rfl rfl dX6_read_50 rfl (fun N1 h1 hP1 => ?_)
  obtain ⟨g, hg, rfl, rfl⟩ := hP1
  refine z_eq (h' := (zu (zu (hJ N h) g (pgL w g (if rd_filled < p1 then rd_filled else p1))) a [(0, .inr (6, [.ref (zo w + (a + 1)), .int (0 : Int32), .ref (zo w + (a + 2)), .int (if rd_filled < p1 then rd_filled else p1), .int (0 : Int32), .int rd_kind, .int rd_start, .int rd_value, .int (0 : Int32), .int (-1 : Int32), .int (0 : Int32), .int (0 : Int32)])), (2, .inr (5, [.int q_50.1, .ref (zo w + (a + 3)), .ref (zo w + (a + 4)), .ref (zo w + g), .ref (zo w + (a + 15)), .ref (zo w + (a + 21)), .ref (zo w + (a + 25)), .ref (zo w + (a + 31)), .ref (zo w + (a + 36))])), (3, .inl (w.2.2.1 1, 9, .inr (.inl q_50.2.1))), (4, .inr (1, [.int q_50.2.2.1, .ref (zo w + (a + 5)), .ref (zo w + (a + 6)), .ref (zo w + (a + 7)), .ref (zo w + (a + 8)), .ref (zo w + (a + 9)), .ref (zo w + (a + 10)), .ref (zo w + (a + 11))])), (5, .inl (w.2.2.1 0, 8, .inl co_parent)), (6, .inl (w.2.2.1 0, 8, .inl co_retentionPercent)), (7, .inl (w.2.2.1 0, 8, .inl co_limitPercent)), (8, .inl (w.2.2.1 0, 8, .inl co_paymentDays)), (9, .inl (w.2.2.1 0, 8, .inl co_rank)), (10, .inl (w.2.2.1 3, 8, .inl co_linked)), (11, .inl (w.2.2.1 0, 8, .inl co_stage)), (16, .inl (w.2.2.1 0, 8, .inl q_50.2.2.2.1)), (17, .inl (w.2.2.1 0, 48, .inl it_first)), (18, .inl (w.2.2.1 0, 48, .inl it_price)), (19, .inl (w.2.2.1 0, 48, .inl it_quantity)), (20, .inl (w.2.2.1 0, 48, .inl it_progress)), (21, .inr (7, [.int q_50.2.2.2.2.1, .ref (zo w + (a + 22)), .ref (zo w + (a + 23)), .ref (zo w + (a + 24))])), (25, .inr (0, [.int q_50.2.2.2.2.2.1, .ref (zo w + (a + 26)), .ref (zo w + (a + 27)), .ref (zo w + (a + 28)), .ref (zo w + (a + 29)), .ref (zo w + (a + 30))])), (31, .inr (3, [.int q_50.2.2.2.2.2.2, .ref (zo w + (a + 32)), .ref (zo w + (a + 33)), .ref (zo w + (a + 34)), .ref (zo w + (a + 35))]))])) (zu_alloc (m := 37) (n := 3) (d := 2) rfl rfl (by omega) hg rfl rfl) ?_
  have n_a0 : a + 0 < g + 3 := by omega
  have h_a1 := zc_f (a := g) (m := 3) (L := (pgL w g (if rd_filled < p1 then rd_filled else p1))) (zc_J (N' := g + 3) h_a1 (by omega)) (by omega) rfl
  have n_a2 : a + 2 < g + 3 := by omega
  have n_a3 : a + 3 < g + 3 := by omega
  have n_a4 : a + 4 < g + 3 := by omega
  have n_a5 : a + 5 < g + 3 := by omega
  have n_a6 : a + 6 < g + 3 := by omega
  have n_a7 : a + 7 < g + 3 := by omega
  have n_a8 : a + 8 < g + 3 := by omega
  have n_a9 : a + 9 < g + 3 := by omega
  have n_a10 : a + 10 < g + 3 := by omega
  have n_a11 : a + 11 < g + 3 := by omega
  have h_a15 := zc_f (a := g) (m := 3) (L := (pgL w g (if rd_filled < p1 then rd_filled else p1))) (zc_J (N' := g + 3) h_a15 (by omega)) (by omega) rfl
  have n_a16 : a + 16 < g + 3 := by omega
  have n_a17 : a + 17 < g + 3 := by omega
  have n_a18 : a + 18 < g + 3 := by omega
  have n_a19 : a + 19 < g + 3 := by omega
  have n_a20 : a + 20 < g + 3 := by omega
  have n_a21 : a + 21 < g + 3 := by omega
  have n_a25 : a + 25 < g + 3 := by omega
  have n_a31 : a + 31 < g + 3 := by omega
  have hp_0 := zc_w (a := g) (o := 0) (N := g + 3) (h := hJ N h) (L := (pgL w g (if rd_filled < p1 then rd_filled else p1))) (by omega) rfl
  have n_pr_pricing0 : g + 0 < g + 3 := by omega
  have hp_2 := zc_w (a := g) (o := 2) (N := g + 3) (h := hJ N h) (L := (pgL w g (if rd_filled < p1 then rd_filled else p1))) (by omega) rfl
  have n_pr_pricing2 : g + 2 < g + 3 := by omega
  refine z_eq (h' := zu (zu (zu (hJ N h) g (pgL w g (if rd_filled < p1 then rd_filled else p1))) g [(0, .inr (4, [.int (25 : Int32), .int (0 : Int32), .ref (zo w + (g + 2)), .ref (zo w + (g + 1))])), (2, .inl (w.2.2.1 0, (zpn (if rd_filled < p1 then rd_filled else p1)), .inl (fun _ => (0 : Int32))))]) a [(0, .inr (6, [.ref (zo w + (a + 1)), .int (0 : Int32), .ref (zo w + (a + 2)), .int (if rd_filled < p1 then rd_filled else p1), .int (0 : Int32), .int rd_kind, .int rd_start, .int rd_value, .int (0 : Int32), .int (-1 : Int32), .int (0 : Int32), .int (0 : Int32)])), (2, .inr (5, [.int q_50.1, .ref (zo w + (a + 3)), .ref (zo w + (a + 4)), .ref (zo w + g), .ref (zo w + (a + 15)), .ref (zo w + (a + 21)), .ref (zo w + (a + 25)), .ref (zo w + (a + 31)), .ref (zo w + (a + 36))])), (3, .inl (w.2.2.1 1, 9, .inr (.inl q_50.2.1))), (4, .inr (1, [.int q_50.2.2.1, .ref (zo w + (a + 5)), .ref (zo w + (a + 6)), .ref (zo w + (a + 7)), .ref (zo w + (a + 8)), .ref (zo w + (a + 9)), .ref (zo w + (a + 10)), .ref (zo w + (a + 11))])), (5, .inl (w.2.2.1 0, 8, .inl co_parent)), (6, .inl (w.2.2.1 0, 8, .inl co_retentionPercent)), (7, .inl (w.2.2.1 0, 8, .inl co_limitPercent)), (8, .inl (w.2.2.1 0, 8, .inl co_paymentDays)), (9, .inl (w.2.2.1 0, 8, .inl co_rank)), (10, .inl (w.2.2.1 3, 8, .inl co_linked)), (11, .inl (w.2.2.1 0, 8, .inl co_stage)), (16, .inl (w.2.2.1 0, 8, .inl q_50.2.2.2.1)), (17, .inl (w.2.2.1 0, 48, .inl it_first)), (18, .inl (w.2.2.1 0, 48, .inl it_price)), (19, .inl (w.2.2.1 0, 48, .inl it_quantity)), (20, .inl (w.2.2.1 0, 48, .inl it_progress)), (21, .inr (7, [.int q_50.2.2.2.2.1, .ref (zo w + (a + 22)), .ref (zo w + (a + 23)), .ref (zo w + (a + 24))])), (25, .inr (0, [.int q_50.2.2.2.2.2.1, .ref (zo w + (a + 26)), .ref (zo w + (a + 27)), .ref (zo w + (a + 28)), .ref (zo w + (a + 29)), .ref (zo w + (a + 30))])), (31, .inr (3, [.int q_50.2.2.2.2.2.2, .ref (zo w + (a + 32)), .ref (zo w + (a + 33)), .ref (zo w + (a + 34)), .ref (zo w + (a + 35))]))]) (congrArg (fun x => zu x a [(0, .inr (6, [.ref (zo w + (a + 1)), .int (0 : Int32), .ref (zo w + (a + 2)), .int (if rd_filled < p1 then rd_filled else p1), .int (0 : Int32), .int rd_kind, .int rd_start, .int rd_value, .int (0 : Int32), .int (-1 : Int32), .int (0 : Int32), .int (0 : Int32)])), (2, .inr (5, [.int q_50.1, .ref (zo w + (a + 3)), .ref (zo w + (a + 4)), .ref (zo w + g), .ref (zo w + (a + 15)), .ref (zo w + (a + 21)), .ref (zo w + (a + 25)), .ref (zo w + (a + 31)), .ref (zo w + (a + 36))])), (3, .inl (w.2.2.1 1, 9, .inr (.inl q_50.2.1))), (4, .inr (1, [.int q_50.2.2.1, .ref (zo w + (a + 5)), .ref (zo w + (a + 6)), .ref (zo w + (a + 7)), .ref (zo w + (a + 8)), .ref (zo w + (a + 9)), .ref (zo w + (a + 10)), .ref (zo w + (a + 11))])), (5, .inl (w.2.2.1 0, 8, .inl co_parent)), (6, .inl (w.2.2.1 0, 8, .inl co_retentionPercent)), (7, .inl (w.2.2.1 0, 8, .inl co_limitPercent)), (8, .inl (w.2.2.1 0, 8, .inl co_paymentDays)), (9, .inl (w.2.2.1 0, 8, .inl co_rank)), (10, .inl (w.2.2.1 3, 8, .inl co_linked)), (11, .inl (w.2.2.1 0, 8, .inl co_stage)), (16, .inl (w.2.2.1 0, 8, .inl q_50.2.2.2.1)), (17, .inl (w.2.2.1 0, 48, .inl it_first)), (18, .inl (w.2.2.1 0, 48, .inl it_price)), (19, .inl (w.2.2.1 0, 48, .inl it_quantity)), (20, .inl (w.2.2.1 0, 48, .inl it_progress)), (21, .inr (7, [.int q_50.2.2.2.2.1, .ref (zo w + (a + 22)), .ref (zo w + (a + 23)), .ref (zo w + (a + 24))])), (25, .inr (0, [.int q_50.2.2.2.2.2.1, .ref (zo w + (a + 26)), .ref (zo w + (a + 27)), .ref (zo w + (a + 28)), .ref (zo w + (a + 29)), .ref (zo w + (a + 30))])), (31, .inr (3, [.int q_50.2.2.2.2.2.2, .ref (zo w + (a + 32)), .ref (zo w + (a + 33)), .ref (zo w + (a + 34)), .ref (zo w + (a + 35))]))]) (zu_s hp_0 (zu_s hp_2 zu_0))).symm ?_
  have far_a : a + 37 ≤ g := by omega
  refine z_toP ⟨g, hg, rfl, rfl⟩ ?_
  refine z_pick (lv' := [(0, .ref (zo w + a))]) [0] rfl ?_
  exact w_X6_read_53 C n_a0 h_a1 n_a2 n_a3 n_a4 n_a5 n_a6 n_a7 n_a8 n_a9 n_a10 n_a11 h_a15 n_a16 n_a17 n_a18 n_a19 n_a20 n_a21 n_a25 n_a31 n_pr_pricing0 n_pr_pricing2 far_a  hf
