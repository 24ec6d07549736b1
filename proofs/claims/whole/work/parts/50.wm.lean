set_option maxRecDepth 20000 in
theorem c_X9_thrown {w : zV} {N : Nat} {h : zH} {a : Nat} {m_thrown : Int32} {m_next : Int32} {m_error : Int32} {m_place : Int32} {m_began : Int32} {m_nested : Int32} {m_once : Int32} {m_now : Int32} {m_undoable : Int32} {m_bytes : Int32} {m_errorAt : Int32} {m_size : Int32} (h_a0 : zc N h (a + 0) (.inr (9, [.int m_thrown, .ref (zo w + (a + 1)), .ref (zo w + (a + 2)), .ref (zo w + (a + 3)), .int m_now, .int m_undoable, .ref (zo w + (a + 4)), .int m_bytes, .int m_errorAt, .int m_size, .int m_next, .int m_error, .int m_place, .int m_began, .int m_nested, .int m_once, .ref (zo w + (a + 5))]))) {r : Int32} (hf : f_X9_thrown m_thrown = some r) : zM w yX9_thrown cX9_thrown 1 (some .int) (zr 0 0) false N N h [.ref (zo w + a)] (some (.int r)) h := by
  unfold f_X9_thrown at hf
  refine zM_of (by decide) rfl (fun X C _ => ?_)
  refine z_pick (lv' := [(0, .ref (zo w + a))]) [0] rfl ?_
  refine z_aload_n (pc' := 1) C 0 dX9_thrown_0 rfl rfl rfl ?_
  refine z_getf (pc' := 4) C zci_9 zw_1184 (j := 0) rfl h_a0 rfl rfl dX9_thrown_1 rfl ?_
  cases hf
  exact z_iret C rfl rfl dX9_thrown_4
set_option maxRecDepth 20000 in
theorem c_X9_isIn {w : zV} {N : Nat} {h : zH} {p0 : Int64} {p2 : Int64} {p4 : Int64} {r : Int32} (hf : f_X9_isIn p0 p2 p4 = some r) : zM w yX9_isIn cX9_isIn 6 (some .boolean) (zr 0 0) false N N h [.long p0, .long p2, .long p4] (some (.int r)) h := by
  unfold f_X9_isIn at hf
  refine zM_of (by decide) rfl (fun X C _ => ?_)
  refine z_pick (lv' := [(0, .long p0), (2, .long p2), (4, .long p4)]) [0, 1, 2] rfl ?_
  refine z_lload_n (pc' := 1) C 0 dX9_isIn_0 rfl rfl rfl ?_
  refine z_lload_n (pc' := 2) C 1 dX9_isIn_1 rfl rfl rfl ?_
  refine z_lcmp_lt (pc' := 6) C 17 hf dX9_isIn_2 rfl dX9_isIn_3 rfl rfl (fun g_2 hf => ?_) (fun g_2 hf => ?_)
  · refine z_iconst (pc' := 18) C dX9_isIn_17 zk_iconst_0 rfl ?_
    cases hf
    exact z_zret C zb_0 rfl rfl dX9_isIn_18
  · refine z_lload_n (pc' := 7) C 0 dX9_isIn_6 rfl rfl rfl ?_
    refine z_lload (pc' := 9) C 2 dX9_isIn_7 rfl rfl ?_
    refine z_lcmp_gt (pc' := 13) C 17 hf dX9_isIn_9 rfl dX9_isIn_10 rfl rfl (fun g_9 hf => ?_) (fun g_9 hf => ?_)
    · refine z_iconst (pc' := 18) C dX9_isIn_17 zk_iconst_0 rfl ?_
      cases hf
      exact z_zret C zb_0 rfl rfl dX9_isIn_18
    · refine z_iconst (pc' := 14) C dX9_isIn_13 zk_iconst_1 rfl ?_
      refine z_goto C 18 dX9_isIn_14 rfl ?_
      cases hf
      exact z_zret C zb_1 rfl rfl dX9_isIn_18
set_option maxRecDepth 20000 in
theorem c_X9_clamped {w : zV} {N : Nat} {h : zH} {p0 : Int64} {p2 : Int64} {p4 : Int64} {r : Int64} (hf : f_X9_clamped p0 p2 p4 = some r) : zM w yX9_clamped cX9_clamped 6 (some .long) (zr 0 0) false N N h [.long p0, .long p2, .long p4] (some (.long r)) h := by
  unfold f_X9_clamped at hf
  refine zM_of (by decide) rfl (fun X C _ => ?_)
  refine z_pick (lv' := [(0, .long p0), (2, .long p2), (4, .long p4)]) [0, 1, 2] rfl ?_
  refine z_lload_n (pc' := 1) C 0 dX9_clamped_0 rfl rfl rfl ?_
  refine z_lload_n (pc' := 2) C 1 dX9_clamped_1 rfl rfl rfl ?_
  refine z_lcmp_ge (pc' := 6) C 10 hf dX9_clamped_2 rfl dX9_clamped_3 rfl rfl (fun g_2 hf => ?_) (fun g_2 hf => ?_)
  · refine z_lload_n (pc' := 11) C 0 dX9_clamped_10 rfl rfl rfl ?_
    refine z_lload (pc' := 13) C 2 dX9_clamped_11 rfl rfl ?_
    refine z_lcmp_le (pc' := 17) C 22 hf dX9_clamped_13 rfl dX9_clamped_14 rfl rfl (fun g_13 hf => ?_) (fun g_13 hf => ?_)
    · refine z_lload_n (pc' := 23) C 0 dX9_clamped_22 rfl rfl rfl ?_
      cases hf
      exact z_lret C rfl rfl dX9_clamped_23
    · refine z_lload (pc' := 19) C 2 dX9_clamped_17 rfl rfl ?_
      refine z_goto C 23 dX9_clamped_19 rfl ?_
      cases hf
      exact z_lret C rfl rfl dX9_clamped_23
  · refine z_lload_n (pc' := 7) C 1 dX9_clamped_6 rfl rfl rfl ?_
    refine z_goto C 23 dX9_clamped_7 rfl ?_
    cases hf
    exact z_lret C rfl rfl dX9_clamped_23
set_option maxRecDepth 20000 in
theorem c_X9_get {w : zV} {N : Nat} {h : zH} {a : Nat} {m_thrown : Int32} {m_next : Int32} {m_error : Int32} {m_place : Int32} {m_began : Int32} {m_nested : Int32} {m_once : Int32} {m_now : Int32} {m_undoable : Int32} {m_bytes : Int32} {m_errorAt : Int32} {m_size : Int32} {m_rows : Nat → Int64} {p1 : Int32} (h_a0 : zc N h (a + 0) (.inr (9, [.int m_thrown, .ref (zo w + (a + 1)), .ref (zo w + (a + 2)), .ref (zo w + (a + 3)), .int m_now, .int m_undoable, .ref (zo w + (a + 4)), .int m_bytes, .int m_errorAt, .int m_size, .int m_next, .int m_error, .int m_place, .int m_began, .int m_nested, .int m_once, .ref (zo w + (a + 5))]))) (h_a1 : zc N h (a + 1) (.inl (w.2.2.1 1, 22500, .inr (.inl m_rows)))) {r : Int64} (hf : f_X9_get m_now m_rows p1 = some r) : zM w yX9_get cX9_get 2 (some .long) (zr 0 0) false N N h [.ref (zo w + a), .int p1] (some (.long r)) h := by
  unfold f_X9_get at hf
  refine zM_of (by decide) rfl (fun X C _ => ?_)
  refine z_pick (lv' := [(0, .ref (zo w + a)), (1, .int p1)]) [0, 1] rfl ?_
  refine z_aload_n (pc' := 1) C 0 dX9_get_0 rfl rfl rfl ?_
  refine z_getf (pc' := 4) C zci_9 zw_1185 (j := 1) rfl h_a0 rfl rfl dX9_get_1 rfl ?_
  refine z_sipush (pc' := 7) C dX9_get_4 zk_sipush_2500 rfl ?_
  refine z_aload_n (pc' := 8) C 0 dX9_get_7 rfl rfl rfl ?_
  refine z_getf (pc' := 11) C zci_9 zw_1188 (j := 4) rfl h_a0 rfl rfl dX9_get_8 rfl ?_
  refine z_imul (pc' := 12) C dX9_get_11 rfl ?_
  refine z_iload_n (pc' := 13) C 1 dX9_get_12 rfl rfl rfl ?_
  refine z_iadd (pc' := 14) C dX9_get_13 rfl ?_
  refine z_lald (pc' := 15) C hf h_a1 dX9_get_14 rfl (fun v_14 hf => ?_)
  cases hf
  exact z_lret C rfl rfl dX9_get_15
set_option maxRecDepth 20000 in
theorem c_X9_small {w : zV} {N : Nat} {h : zH} {a : Nat} {m_thrown : Int32} {m_next : Int32} {m_error : Int32} {m_place : Int32} {m_began : Int32} {m_nested : Int32} {m_once : Int32} {m_now : Int32} {m_undoable : Int32} {m_bytes : Int32} {m_errorAt : Int32} {m_size : Int32} {m_rows : Nat → Int64} {p1 : Int32} (h_a0 : zc N h (a + 0) (.inr (9, [.int m_thrown, .ref (zo w + (a + 1)), .ref (zo w + (a + 2)), .ref (zo w + (a + 3)), .int m_now, .int m_undoable, .ref (zo w + (a + 4)), .int m_bytes, .int m_errorAt, .int m_size, .int m_next, .int m_error, .int m_place, .int m_began, .int m_nested, .int m_once, .ref (zo w + (a + 5))]))) (h_a1 : zc N h (a + 1) (.inl (w.2.2.1 1, 22500, .inr (.inl m_rows)))) {r : Int32} (hf : f_X9_small m_now m_rows p1 = some r) : zM w yX9_small cX9_small 2 (some .int) (zr 1 29) false N N h [.ref (zo w + a), .int p1] (some (.int r)) h := by
  unfold f_X9_small at hf
  refine zM_of (by decide) rfl (fun X C _ => ?_)
  refine z_pick (lv' := [(0, .ref (zo w + a)), (1, .int p1)]) [0, 1] rfl ?_
  refine z_aload_n (pc' := 1) C 0 dX9_small_0 rfl rfl rfl ?_
  refine z_iload_n (pc' := 2) C 1 dX9_small_1 rfl rfl rfl ?_
  refine z_cV (pc' := 5) C hf (As := [.int p1]) (fun hq => c_X9_get (a := a) h_a0 h_a1 hq) (fun _ => h) (fun q_2 => [.long q_2]) (fun _ => rfl) (fun _ => rfl) zy_X9_get zw_1349 zw_1351 zv_43 (ci := 9) rfl h_a0 ⟨rfl, rfl⟩ rfl rfl rfl rfl rfl dX9_small_2 rfl (fun q_2 hf => ?_)
  refine z_l2i (pc' := 6) C dX9_small_5 rfl ?_
  cases hf
  exact z_iret C rfl rfl dX9_small_6
set_option maxRecDepth 20000 in
theorem c_X9_put {w : zV} {N : Nat} {h : zH} {a : Nat} {m_thrown : Int32} {m_next : Int32} {m_error : Int32} {m_place : Int32} {m_began : Int32} {m_nested : Int32} {m_once : Int32} {m_now : Int32} {m_undoable : Int32} {m_bytes : Int32} {m_errorAt : Int32} {m_size : Int32} {m_rows : Nat → Int64} {p1 : Int32} {p2 : Int64} (h_a0 : zc N h (a + 0) (.inr (9, [.int m_thrown, .ref (zo w + (a + 1)), .ref (zo w + (a + 2)), .ref (zo w + (a + 3)), .int m_now, .int m_undoable, .ref (zo w + (a + 4)), .int m_bytes, .int m_errorAt, .int m_size, .int m_next, .int m_error, .int m_place, .int m_began, .int m_nested, .int m_once, .ref (zo w + (a + 5))]))) (h_a1 : zc N h (a + 1) (.inl (w.2.2.1 1, 22500, .inr (.inl m_rows)))) {r : (Nat → Int64)} (hf : f_X9_put m_now m_rows p1 p2 = some r) : zM w yX9_put cX9_put 4 none (zr 0 0) false N N h [.ref (zo w + a), .int p1, .long p2] (none) (zu h a [(1, .inl (w.2.2.1 1, 22500, .inr (.inl r)))]) := by
  unfold f_X9_put at hf
  refine zM_of (by decide) rfl (fun X C _ => ?_)
  refine z_eq (h' := (zu h a [(1, .inl (w.2.2.1 1, 22500, .inr (.inl m_rows)))])) (zu_s h_a1 zu_0).symm ?_
  have n_a1 := h_a1.1
  refine z_pick (lv' := [(0, .ref (zo w + a)), (1, .int p1), (2, .long p2)]) [0, 1, 2] rfl ?_
  refine z_aload_n (pc' := 1) C 0 dX9_put_0 rfl rfl rfl ?_
  refine z_getf (pc' := 4) C zci_9 zw_1185 (j := 1) rfl (zc_o (o := 0) h_a0 rfl) rfl rfl dX9_put_1 rfl ?_
  refine z_sipush (pc' := 7) C dX9_put_4 zk_sipush_2500 rfl ?_
  refine z_aload_n (pc' := 8) C 0 dX9_put_7 rfl rfl rfl ?_
  refine z_getf (pc' := 11) C zci_9 zw_1188 (j := 4) rfl (zc_o (o := 0) h_a0 rfl) rfl rfl dX9_put_8 rfl ?_
  refine z_imul (pc' := 12) C dX9_put_11 rfl ?_
  refine z_iload_n (pc' := 13) C 1 dX9_put_12 rfl rfl rfl ?_
  refine z_iadd (pc' := 14) C dX9_put_13 rfl ?_
  refine z_lload_n (pc' := 15) C 2 dX9_put_14 rfl rfl rfl ?_
  refine z_last (pc' := 16) C hf (zc_i (o := 1) n_a1 rfl) (h' := fun v_15 => (zu h a [(1, .inl (w.2.2.1 1, 22500, .inr (.inl v_15)))])) (fun _ => zu_put (o := 1) rfl) dX9_put_15 rfl (fun v_15 hf => ?_)
  cases hf
  exact z_vret C rfl rfl dX9_put_16
set_option maxRecDepth 20000 in
theorem w_X9_change_12 {X : zC} {w : zV} {N : Nat} {h : zH} {a : Nat} {m_thrown : Int32} {m_next : Int32} {m_error : Int32} {m_place : Int32} {m_began : Int32} {m_nested : Int32} {m_once : Int32} {m_bytes : Int32} {m_errorAt : Int32} {m_size : Int32} (C : zK X w RX9 cX9_change 3 none (zr 1 29)) (n_a0 : a + 0 < N) (n_a1 : a + 1 < N) {r : Int32 × Int32 × (Nat → Int64)} (n : Nat) : ∀ {m_now : Int32} {m_undoable : Int32} {m_rows : Nat → Int64} {x1 : Int32} {x2 : Int32}, f_X9_change_12  n m_now m_undoable m_rows x1 x2 = some r → zZ X w (zQ X w (zr 1 29) (none) false N (zu h a [(0, .inr (9, [.int m_thrown, .ref (zo w + (a + 1)), .ref (zo w + (a + 2)), .ref (zo w + (a + 3)), .int r.1, .int r.2.1, .ref (zo w + (a + 4)), .int m_bytes, .int m_errorAt, .int m_size, .int m_next, .int m_error, .int m_place, .int m_began, .int m_nested, .int m_once, .ref (zo w + (a + 5))])), (1, .inl (w.2.2.1 1, 22500, .inr (.inl r.2.2)))])) 0 0 false N (zu h a [(0, .inr (9, [.int m_thrown, .ref (zo w + (a + 1)), .ref (zo w + (a + 2)), .ref (zo w + (a + 3)), .int m_now, .int m_undoable, .ref (zo w + (a + 4)), .int m_bytes, .int m_errorAt, .int m_size, .int m_next, .int m_error, .int m_place, .int m_began, .int m_nested, .int m_once, .ref (zo w + (a + 5))])), (1, .inl (w.2.2.1 1, 22500, .inr (.inl m_rows)))]) 12 [(0, .ref (zo w + a)), (1, .int x1), (2, .int x2)] [] := by
  induction n with
  | zero =>
    intro m_now m_undoable m_rows x1 x2 hf
    have hf : (none : Option (Int32 × Int32 × (Nat → Int64))) = some r := hf
    cases hf
  | succ z ih =>
    intro m_now m_undoable m_rows x1 x2 hf
    rw [f_X9_change_12] at hf
    refine z_iload_n (pc' := 13) C 2 dX9_change_12 rfl rfl rfl ?_
    refine z_sipush (pc' := 16) C dX9_change_13 zk_sipush_2500 rfl ?_
    refine z_icmp_ge (pc' := 19) C 42 hf dX9_change_16 rfl rfl (fun g_16 hf => ?_) (fun g_16 hf => ?_)
    · refine z_aload_n (pc' := 43) C 0 dX9_change_42 rfl rfl rfl ?_
      refine z_iload_n (pc' := 44) C 1 dX9_change_43 rfl rfl rfl ?_
      refine z_putf (pc' := 47) C zci_9 zw_1188 (j := 4) rfl (zc_i (o := 0) n_a0 rfl) (fs' := [.int m_thrown, .ref (zo w + (a + 1)), .ref (zo w + (a + 2)), .ref (zo w + (a + 3)), .int x1, .int m_undoable, .ref (zo w + (a + 4)), .int m_bytes, .int m_errorAt, .int m_size, .int m_next, .int m_error, .int m_place, .int m_began, .int m_nested, .int m_once, .ref (zo w + (a + 5))]) rfl rfl rfl rfl rfl (zu_put (o := 0) (L' := [(0, .inr (9, [.int m_thrown, .ref (zo w + (a + 1)), .ref (zo w + (a + 2)), .ref (zo w + (a + 3)), .int x1, .int m_undoable, .ref (zo w + (a + 4)), .int m_bytes, .int m_errorAt, .int m_size, .int m_next, .int m_error, .int m_place, .int m_began, .int m_nested, .int m_once, .ref (zo w + (a + 5))])), (1, .inl (w.2.2.1 1, 22500, .inr (.inl m_rows)))]) rfl) dX9_change_44 rfl ?_
      refine z_aload_n (pc' := 48) C 0 dX9_change_47 rfl rfl rfl ?_
      refine z_aload_n (pc' := 49) C 0 dX9_change_48 rfl rfl rfl ?_
      refine z_getf (pc' := 52) C zci_9 zw_1189 (j := 5) rfl (zc_i (o := 0) n_a0 rfl) rfl rfl dX9_change_49 rfl ?_
      refine z_bipush (pc' := 54) C dX9_change_52 zk_bipush_8 rfl ?_
      refine z_icmp_ge (pc' := 57) C 66 hf dX9_change_54 rfl rfl (fun g_54 hf => ?_) (fun g_54 hf => ?_)
      · refine z_aload_n (pc' := 67) C 0 dX9_change_66 rfl rfl rfl ?_
        refine z_getf (pc' := 70) C zci_9 zw_1189 (j := 5) rfl (zc_i (o := 0) n_a0 rfl) rfl rfl dX9_change_67 rfl ?_
        refine z_putf (pc' := 73) C zci_9 zw_1189 (j := 5) rfl (zc_i (o := 0) n_a0 rfl) (fs' := [.int m_thrown, .ref (zo w + (a + 1)), .ref (zo w + (a + 2)), .ref (zo w + (a + 3)), .int x1, .int m_undoable, .ref (zo w + (a + 4)), .int m_bytes, .int m_errorAt, .int m_size, .int m_next, .int m_error, .int m_place, .int m_began, .int m_nested, .int m_once, .ref (zo w + (a + 5))]) rfl rfl rfl rfl rfl (zu_put (o := 0) (L' := [(0, .inr (9, [.int m_thrown, .ref (zo w + (a + 1)), .ref (zo w + (a + 2)), .ref (zo w + (a + 3)), .int x1, .int m_undoable, .ref (zo w + (a + 4)), .int m_bytes, .int m_errorAt, .int m_size, .int m_next, .int m_error, .int m_place, .int m_began, .int m_nested, .int m_once, .ref (zo w + (a + 5))])), (1, .inl (w.2.2.1 1, 22500, .inr (.inl m_rows)))]) rfl) dX9_change_70 rfl ?_
        cases hf
        exact z_vret C rfl rfl dX9_change_73
      · refine z_aload_n (pc' := 58) C 0 dX9_change_57 rfl rfl rfl ?_
        refine z_getf (pc' := 61) C zci_9 zw_1189 (j := 5) rfl (zc_i (o := 0) n_a0 rfl) rfl rfl dX9_change_58 rfl ?_
        refine z_iconst (pc' := 62) C dX9_change_61 zk_iconst_1 rfl ?_
        refine z_iadd (pc' := 63) C dX9_change_62 rfl ?_
        refine z_goto C 70 dX9_change_63 rfl ?_
        refine z_putf (pc' := 73) C zci_9 zw_1189 (j := 5) rfl (zc_i (o := 0) n_a0 rfl) (fs' := [.int m_thrown, .ref (zo w + (a + 1)), .ref (zo w + (a + 2)), .ref (zo w + (a + 3)), .int x1, .int (m_undoable + (1 : Int32)), .ref (zo w + (a + 4)), .int m_bytes, .int m_errorAt, .int m_size, .int m_next, .int m_error, .int m_place, .int m_began, .int m_nested, .int m_once, .ref (zo w + (a + 5))]) rfl rfl rfl rfl rfl (zu_put (o := 0) (L' := [(0, .inr (9, [.int m_thrown, .ref (zo w + (a + 1)), .ref (zo w + (a + 2)), .ref (zo w + (a + 3)), .int x1, .int (m_undoable + (1 : Int32)), .ref (zo w + (a + 4)), .int m_bytes, .int m_errorAt, .int m_size, .int m_next, .int m_error, .int m_place, .int m_began, .int m_nested, .int m_once, .ref (zo w + (a + 5))])), (1, .inl (w.2.2.1 1, 22500, .inr (.inl m_rows)))]) rfl) dX9_change_70 rfl ?_
        cases hf
        exact z_vret C rfl rfl dX9_change_73
    · refine z_aload_n (pc' := 20) C 0 dX9_change_19 rfl rfl rfl ?_
      refine z_getf (pc' := 23) C zci_9 zw_1185 (j := 1) rfl (zc_i (o := 0) n_a0 rfl) rfl rfl dX9_change_20 rfl ?_
      refine z_sipush (pc' := 26) C dX9_change_23 zk_sipush_2500 rfl ?_
      refine z_iload_n (pc' := 27) C 1 dX9_change_26 rfl rfl rfl ?_
      refine z_imul (pc' := 28) C dX9_change_27 rfl ?_
      refine z_iload_n (pc' := 29) C 2 dX9_change_28 rfl rfl rfl ?_
      refine z_iadd (pc' := 30) C dX9_change_29 rfl ?_
      refine z_aload_n (pc' := 31) C 0 dX9_change_30 rfl rfl rfl ?_
      refine z_iload_n (pc' := 32) C 2 dX9_change_31 rfl rfl rfl ?_
      refine z_cV (pc' := 35) C hf (As := [.int x2]) (fun hq => c_X9_get (a := a) (zc_i (o := 0) n_a0 rfl) (zc_i (o := 1) n_a1 rfl) hq) (fun _ => (zu h a [(0, .inr (9, [.int m_thrown, .ref (zo w + (a + 1)), .ref (zo w + (a + 2)), .ref (zo w + (a + 3)), .int m_now, .int m_undoable, .ref (zo w + (a + 4)), .int m_bytes, .int m_errorAt, .int m_size, .int m_next, .int m_error, .int m_place, .int m_began, .int m_nested, .int m_once, .ref (zo w + (a + 5))])), (1, .inl (w.2.2.1 1, 22500, .inr (.inl m_rows)))])) (fun q_32 => [.long q_32, .int (((2500 : Int32) * x1) + x2), .ref (zo w + (a + 1))]) (fun _ => rfl) (fun _ => rfl) zy_X9_get zw_1349 zw_1351 zv_43 (ci := 9) rfl (zc_i (o := 0) n_a0 rfl) ⟨rfl, rfl⟩ rfl rfl rfl rfl rfl dX9_change_32 rfl (fun q_32 hf => ?_)
      refine z_last (pc' := 36) C hf (zc_i (o := 1) n_a1 rfl) (h' := fun v_35 => (zu h a [(0, .inr (9, [.int m_thrown, .ref (zo w + (a + 1)), .ref (zo w + (a + 2)), .ref (zo w + (a + 3)), .int m_now, .int m_undoable, .ref (zo w + (a + 4)), .int m_bytes, .int m_errorAt, .int m_size, .int m_next, .int m_error, .int m_place, .int m_began, .int m_nested, .int m_once, .ref (zo w + (a + 5))])), (1, .inl (w.2.2.1 1, 22500, .inr (.inl v_35)))])) (fun _ => zu_put (o := 1) rfl) dX9_change_35 rfl (fun v_35 hf => ?_)
      refine z_iinc (pc' := 39) C 2 [(2, .int (x2 + (1 : Int32))), (0, .ref (zo w + a)), (1, .int x1)] dX9_change_36 rfl zk_iconst_1 rfl rfl rfl ?_
      refine z_goto C 12 dX9_change_39 rfl ?_
      refine z_pick (lv' := [(0, .ref (zo w + a)), (1, .int x1), (2, .int (x2 + (1 : Int32)))]) [1, 2, 0] rfl ?_
      exact ih hf
set_option maxRecDepth 20000 in
theorem c_X9_change {w : zV} {N : Nat} {h : zH} {a : Nat} {m_thrown : Int32} {m_next : Int32} {m_error : Int32} {m_place : Int32} {m_began : Int32} {m_nested : Int32} {m_once : Int32} {m_now : Int32} {m_undoable : Int32} {m_bytes : Int32} {m_errorAt : Int32} {m_size : Int32} {m_rows : Nat → Int64} (h_a0 : zc N h (a + 0) (.inr (9, [.int m_thrown, .ref (zo w + (a + 1)), .ref (zo w + (a + 2)), .ref (zo w + (a + 3)), .int m_now, .int m_undoable, .ref (zo w + (a + 4)), .int m_bytes, .int m_errorAt, .int m_size, .int m_next, .int m_error, .int m_place, .int m_began, .int m_nested, .int m_once, .ref (zo w + (a + 5))]))) (h_a1 : zc N h (a + 1) (.inl (w.2.2.1 1, 22500, .inr (.inl m_rows)))) {r : Int32 × Int32 × (Nat → Int64)} (hf : f_X9_change m_now m_undoable m_rows = some r) : zM w yX9_change cX9_change 3 none (zr 1 29) false N N h [.ref (zo w + a)] (none) (zu h a [(0, .inr (9, [.int m_thrown, .ref (zo w + (a + 1)), .ref (zo w + (a + 2)), .ref (zo w + (a + 3)), .int r.1, .int r.2.1, .ref (zo w + (a + 4)), .int m_bytes, .int m_errorAt, .int m_size, .int m_next, .int m_error, .int m_place, .int m_began, .int m_nested, .int m_once, .ref (zo w + (a + 5))])), (1, .inl (w.2.2.1 1, 22500, .inr (.inl r.2.2)))]) := by
  unfold f_X9_change at hf
  refine zM_of (by decide) rfl (fun X C _ => ?_)
  refine z_eq (h' := (zu h a [(0, .inr (9, [.int m_thrown, .ref (zo w + (a + 1)), .ref (zo w + (a + 2)), .ref (zo w + (a + 3)), .int m_now, .int m_undoable, .ref (zo w + (a + 4)), .int m_bytes, .int m_errorAt, .int m_size, .int m_next, .int m_error, .int m_place, .int m_began, .int m_nested, .int m_once, .ref (zo w + (a + 5))])), (1, .inl (w.2.2.1 1, 22500, .inr (.inl m_rows)))])) (zu_s h_a0 (zu_s h_a1 zu_0)).symm ?_
  have n_a0 := h_a0.1
  have n_a1 := h_a1.1
  refine z_pick (lv' := [(0, .ref (zo w + a))]) [0] rfl ?_
  refine z_aload_n (pc' := 1) C 0 dX9_change_0 rfl rfl rfl ?_
  refine z_getf (pc' := 4) C zci_9 zw_1188 (j := 4) rfl (zc_i (o := 0) n_a0 rfl) rfl rfl dX9_change_1 rfl ?_
  refine z_iconst (pc' := 5) C dX9_change_4 zk_iconst_1 rfl ?_
  refine z_iadd (pc' := 6) C dX9_change_5 rfl ?_
  refine z_bipush (pc' := 8) C dX9_change_6 zk_bipush_9 rfl ?_
  refine z_irem (pc' := 9) C dX9_change_8 (by decide) rfl ?_
  refine z_istore_n (pc' := 10) C [(1, .int ((m_now + (1 : Int32)) - (m_now + (1 : Int32)) / (9 : Int32) * (9 : Int32))), (0, .ref (zo w + a))] dX9_change_9 rfl rfl rfl rfl ?_
  refine z_iconst (pc' := 11) C dX9_change_10 zk_iconst_0 rfl ?_
  refine z_istore_n (pc' := 12) C [(2, .int (0 : Int32)), (1, .int ((m_now + (1 : Int32)) - (m_now + (1 : Int32)) / (9 : Int32) * (9 : Int32))), (0, .ref (zo w + a))] dX9_change_11 rfl rfl rfl rfl ?_
  refine z_pick (lv' := [(0, .ref (zo w + a)), (1, .int ((m_now + (1 : Int32)) - (m_now + (1 : Int32)) / (9 : Int32) * (9 : Int32))), (2, .int (0 : Int32))]) [2, 1, 0] rfl ?_
  exact w_X9_change_12 C n_a0 n_a1  FU hf
set_option maxRecDepth 20000 in
theorem w_X9_right_16 {X : zC} {w : zV} {N : Nat} {h : zH} {a : Nat} {m_next : Int32} {m_error : Int32} {m_place : Int32} {m_began : Int32} {m_nested : Int32} {m_once : Int32} {m_now : Int32} {m_undoable : Int32} {m_bytes : Int32} {m_errorAt : Int32} {m_size : Int32} (C : zK X w RX9 cX9_right 3 (some .boolean) (zr 0 0)) (n_a0 : a + 0 < N) {r : Int32 × Int32} {m_thrown : Int32} (hf : f_X9_right_16  m_thrown = some r) : zZ X w (zQ X w (zr 0 0) (some (.int r.1)) false N (zu h a [(0, .inr (9, [.int r.2, .ref (zo w + (a + 1)), .ref (zo w + (a + 2)), .ref (zo w + (a + 3)), .int m_now, .int m_undoable, .ref (zo w + (a + 4)), .int m_bytes, .int m_errorAt, .int m_size, .int m_next, .int m_error, .int m_place, .int m_began, .int m_nested, .int m_once, .ref (zo w + (a + 5))]))])) 0 0 false N (zu h a [(0, .inr (9, [.int m_thrown, .ref (zo w + (a + 1)), .ref (zo w + (a + 2)), .ref (zo w + (a + 3)), .int m_now, .int m_undoable, .ref (zo w + (a + 4)), .int m_bytes, .int m_errorAt, .int m_size, .int m_next, .int m_error, .int m_place, .int m_began, .int m_nested, .int m_once, .ref (zo w + (a + 5))]))]) 16 [(0, .ref (zo w + a))] [] := by
  unfold f_X9_right_16 at hf
  refine z_aload_n (pc' := 17) C 0 dX9_right_16 rfl rfl rfl ?_
  refine z_getf (pc' := 20) C zci_9 zw_1184 (j := 0) rfl (zc_i (o := 0) n_a0 rfl) rfl rfl dX9_right_17 rfl ?_
  refine z_if_ne (pc' := 23) C 27 hf dX9_right_20 rfl rfl (fun g_20 hf => ?_) (fun g_20 hf => ?_)
  · refine z_iconst (pc' := 28) C dX9_right_27 zk_iconst_0 rfl ?_
    cases hf
    exact z_zret C zb_0 rfl rfl dX9_right_28
  · refine z_iconst (pc' := 24) C dX9_right_23 zk_iconst_1 rfl ?_
    refine z_goto C 28 dX9_right_24 rfl ?_
    cases hf
    exact z_zret C zb_1 rfl rfl dX9_right_28
set_option maxRecDepth 20000 in
theorem c_X9_right {w : zV} {N : Nat} {h : zH} {a : Nat} {m_thrown : Int32} {m_next : Int32} {m_error : Int32} {m_place : Int32} {m_began : Int32} {m_nested : Int32} {m_once : Int32} {m_now : Int32} {m_undoable : Int32} {m_bytes : Int32} {m_errorAt : Int32} {m_size : Int32} {p1 : Int32} {p2 : Int32} (h_a0 : zc N h (a + 0) (.inr (9, [.int m_thrown, .ref (zo w + (a + 1)), .ref (zo w + (a + 2)), .ref (zo w + (a + 3)), .int m_now, .int m_undoable, .ref (zo w + (a + 4)), .int m_bytes, .int m_errorAt, .int m_size, .int m_next, .int m_error, .int m_place, .int m_began, .int m_nested, .int m_once, .ref (zo w + (a + 5))]))) {r : Int32 × Int32} (hf : f_X9_right m_thrown p1 p2 = some r) : zM w yX9_right cX9_right 3 (some .boolean) (zr 0 0) false N N h [.ref (zo w + a), .int p1, .int p2] (some (.int r.1)) (zu h a [(0, .inr (9, [.int r.2, .ref (zo w + (a + 1)), .ref (zo w + (a + 2)), .ref (zo w + (a + 3)), .int m_now, .int m_undoable, .ref (zo w + (a + 4)), .int m_bytes, .int m_errorAt, .int m_size, .int m_next, .int m_error, .int m_place, .int m_began, .int m_nested, .int m_once, .ref (zo w + (a + 5))]))]) := by
  unfold f_X9_right at hf
  refine zM_of (by decide) rfl (fun X C _ => ?_)
  refine z_eq (h' := (zu h a [(0, .inr (9, [.int m_thrown, .ref (zo w + (a + 1)), .ref (zo w + (a + 2)), .ref (zo w + (a + 3)), .int m_now, .int m_undoable, .ref (zo w + (a + 4)), .int m_bytes, .int m_errorAt, .int m_size, .int m_next, .int m_error, .int m_place, .int m_began, .int m_nested, .int m_once, .ref (zo w + (a + 5))]))])) (zu_s h_a0 zu_0).symm ?_
  have n_a0 := h_a0.1
  refine z_pick (lv' := [(0, .ref (zo w + a)), (1, .int p1), (2, .int p2)]) [0, 1, 2] rfl ?_
  refine z_aload_n (pc' := 1) C 0 dX9_right_0 rfl rfl rfl ?_
  refine z_getf (pc' := 4) C zci_9 zw_1184 (j := 0) rfl (zc_i (o := 0) n_a0 rfl) rfl rfl dX9_right_1 rfl ?_
  refine z_if_ne (pc' := 7) C 16 hf dX9_right_4 rfl rfl (fun g_4 hf => ?_) (fun g_4 hf => ?_)
  · refine z_pick (lv' := [(0, .ref (zo w + a))]) [0] rfl ?_
    exact w_X9_right_16 C n_a0  hf
  · refine z_iload_n (pc' := 8) C 1 dX9_right_7 rfl rfl rfl ?_
    refine z_if_ne (pc' := 11) C 16 hf dX9_right_8 rfl rfl (fun g_8 hf => ?_) (fun g_8 hf => ?_)
    · refine z_pick (lv' := [(0, .ref (zo w + a))]) [0] rfl ?_
      exact w_X9_right_16 C n_a0  hf
    · refine z_aload_n (pc' := 12) C 0 dX9_right_11 rfl rfl rfl ?_
      refine z_iload_n (pc' := 13) C 2 dX9_right_12 rfl rfl rfl ?_
      refine z_putf (pc' := 16) C zci_9 zw_1184 (j := 0) rfl (zc_i (o := 0) n_a0 rfl) (fs' := [.int p2, .ref (zo w + (a + 1)), .ref (zo w + (a + 2)), .ref (zo w + (a + 3)), .int m_now, .int m_undoable, .ref (zo w + (a + 4)), .int m_bytes, .int m_errorAt, .int m_size, .int m_next, .int m_error, .int m_place, .int m_began, .int m_nested, .int m_once, .ref (zo w + (a + 5))]) rfl rfl rfl rfl rfl (zu_put (o := 0) (L' := [(0, .inr (9, [.int p2, .ref (zo w + (a + 1)), .ref (zo w + (a + 2)), .ref (zo w + (a + 3)), .int m_now, .int m_undoable, .ref (zo w + (a + 4)), .int m_bytes, .int m_errorAt, .int m_size, .int m_next, .int m_error, .int m_place, .int m_began, .int m_nested, .int m_once, .ref (zo w + (a + 5))]))]) rfl) dX9_right_13 rfl ?_
      refine z_pick (lv' := [(0, .ref (zo w + a))]) [0] rfl ?_
      exact w_X9_right_16 C n_a0  hf
set_option maxRecDepth 20000 in
theorem w_X9_append_76 {X : zC} {w : zV} {N : Nat} {h : zH} {a : Nat} {m_next : Int32} {m_error : Int32} {m_place : Int32} {m_began : Int32} {m_nested : Int32} {m_once : Int32} {m_now : Int32} {m_undoable : Int32} {m_errorAt : Int32} {m_size : Int32} (C : zK X w RX9 cX9_append 8 (some .int) (zr 0 0)) (n_a0 : a + 0 < N) (n_a4 : a + 4 < N) {r : Int32 × Int32 × Int32 × (Nat → Int32)} {k23 : Int32 → Int32 → (Nat → Int32) → Int32 → Int32 → Int32 → Int32 → Int32 → Int32 → Option (Int32 × Int32 × Int32 × (Nat → Int32))} (hk23 : ∀ {m_thrown : Int32} {m_bytes : Int32} {m_text : Nat → Int32} {x1 : Int32} {x2 : Int32} {x3 : Int32} {x4 : Int32} {x5 : Int32} {x6 : Int32}, k23 m_thrown m_bytes m_text x1 x2 x3 x4 x5 x6 = some r → zZ X w (zQ X w (zr 0 0) (some (.int r.1)) false N (zu h a [(0, .inr (9, [.int r.2.1, .ref (zo w + (a + 1)), .ref (zo w + (a + 2)), .ref (zo w + (a + 3)), .int m_now, .int m_undoable, .ref (zo w + (a + 4)), .int r.2.2.1, .int m_errorAt, .int m_size, .int m_next, .int m_error, .int m_place, .int m_began, .int m_nested, .int m_once, .ref (zo w + (a + 5))])), (4, .inl (w.2.2.1 0, 900, .inl r.2.2.2))])) 0 0 false N (zu h a [(0, .inr (9, [.int m_thrown, .ref (zo w + (a + 1)), .ref (zo w + (a + 2)), .ref (zo w + (a + 3)), .int m_now, .int m_undoable, .ref (zo w + (a + 4)), .int m_bytes, .int m_errorAt, .int m_size, .int m_next, .int m_error, .int m_place, .int m_began, .int m_nested, .int m_once, .ref (zo w + (a + 5))])), (4, .inl (w.2.2.1 0, 900, .inl m_text))]) 23 [(0, .ref (zo w + a)), (1, .int x1), (2, .int x2), (3, .int x3), (4, .int x4), (5, .int x5), (6, .int x6)] []) {m_thrown : Int32} {m_bytes : Int32} {m_text : Nat → Int32} {x1 : Int32} {x2 : Int32} {x3 : Int32} {x4 : Int32} {x5 : Int32} {x6 : Int32} {s0 : Int32} (hf : f_X9_append_76 k23 m_thrown m_bytes m_text x1 x2 x3 x4 x5 x6 s0 = some r) : zZ X w (zQ X w (zr 0 0) (some (.int r.1)) false N (zu h a [(0, .inr (9, [.int r.2.1, .ref (zo w + (a + 1)), .ref (zo w + (a + 2)), .ref (zo w + (a + 3)), .int m_now, .int m_undoable, .ref (zo w + (a + 4)), .int r.2.2.1, .int m_errorAt, .int m_size, .int m_next, .int m_error, .int m_place, .int m_began, .int m_nested, .int m_once, .ref (zo w + (a + 5))])), (4, .inl (w.2.2.1 0, 900, .inl r.2.2.2))])) 0 0 false N (zu h a [(0, .inr (9, [.int m_thrown, .ref (zo w + (a + 1)), .ref (zo w + (a + 2)), .ref (zo w + (a + 3)), .int m_now, .int m_undoable, .ref (zo w + (a + 4)), .int m_bytes, .int m_errorAt, .int m_size, .int m_next, .int m_error, .int m_place, .int m_began, .int m_nested, .int m_once, .ref (zo w + (a + 5))])), (4, .inl (w.2.2.1 0, 900, .inl m_text))]) 76 [(0, .ref (zo w + a)), (1, .int x1), (2, .int x2), (3, .int x3), (4, .int x4), (5, .int x5), (6, .int x6)] [.int s0] := by
  unfold f_X9_append_76 at hf
  refine z_istore (pc' := 78) C [(7, .int s0), (0, .ref (zo w + a)), (1, .int x1), (2, .int x2), (3, .int x3), (4, .int x4), (5, .int x5), (6, .int x6)] dX9_append_76 rfl rfl rfl ?_
  refine z_aload_n (pc' := 79) C 1 dX9_append_78 rfl rfl rfl ?_
  refine z_getf (pc' := 82) C zci_9 zw_1190 (j := 6) rfl (zc_i (o := 0) n_a0 rfl) rfl rfl dX9_append_79 rfl ?_
  refine z_aload_n (pc' := 83) C 1 dX9_append_82 rfl rfl rfl ?_
  refine z_getf (pc' := 86) C zci_9 zw_1191 (j := 7) rfl (zc_i (o := 0) n_a0 rfl) rfl rfl dX9_append_83 rfl ?_
  refine z_iload (pc' := 88) C 7 dX9_append_86 rfl rfl ?_
  refine z_iadd (pc' := 89) C dX9_append_88 rfl ?_
  refine z_iload (pc' := 91) C 0 dX9_append_89 rfl rfl ?_
  refine z_bipush (pc' := 93) C dX9_append_91 zk_bipush_24 rfl ?_
  refine z_bipush (pc' := 95) C dX9_append_93 zk_bipush_8 rfl ?_
  refine z_iload (pc' := 97) C 7 dX9_append_95 rfl rfl ?_
  refine z_iconst (pc' := 98) C dX9_append_97 zk_iconst_4 rfl ?_
  refine z_irem (pc' := 99) C dX9_append_98 (by decide) rfl ?_
  refine z_imul (pc' := 100) C dX9_append_99 rfl ?_
  refine z_isub (pc' := 101) C dX9_append_100 rfl ?_
  refine z_ishr (pc' := 102) C dX9_append_101 rfl ?_
  refine z_sipush (pc' := 105) C dX9_append_102 zk_sipush_255 rfl ?_
  refine z_iand (pc' := 106) C dX9_append_105 rfl ?_
  refine z_iast (pc' := 107) C hf (zc_i (o := 4) n_a4 rfl) (h' := fun v_106 => (zu h a [(0, .inr (9, [.int m_thrown, .ref (zo w + (a + 1)), .ref (zo w + (a + 2)), .ref (zo w + (a + 3)), .int m_now, .int m_undoable, .ref (zo w + (a + 4)), .int m_bytes, .int m_errorAt, .int m_size, .int m_next, .int m_error, .int m_place, .int m_began, .int m_nested, .int m_once, .ref (zo w + (a + 5))])), (4, .inl (w.2.2.1 0, 900, .inl v_106))])) (fun _ => zu_put (o := 4) rfl) dX9_append_106 rfl (fun v_106 hf => ?_)
  refine z_iinc (pc' := 110) C 7 [(6, .int (x6 + (1 : Int32))), (7, .int s0), (0, .ref (zo w + a)), (1, .int x1), (2, .int x2), (3, .int x3), (4, .int x4), (5, .int x5)] dX9_append_107 rfl zk_iconst_1 rfl rfl rfl ?_
  refine z_goto C 23 dX9_append_110 rfl ?_
  refine z_pick (lv' := [(0, .ref (zo w + a)), (1, .int x1), (2, .int x2), (3, .int x3), (4, .int x4), (5, .int x5), (6, .int (x6 + (1 : Int32)))]) [2, 3, 4, 5, 6, 7, 0] rfl ?_
  exact hk23 hf
set_option maxRecDepth 20000 in
theorem w_X9_append_23 {X : zC} {w : zV} {N : Nat} {h : zH} {a : Nat} {m_next : Int32} {m_error : Int32} {m_place : Int32} {m_began : Int32} {m_nested : Int32} {m_once : Int32} {m_now : Int32} {m_undoable : Int32} {m_errorAt : Int32} {m_size : Int32} (C : zK X w RX9 cX9_append 8 (some .int) (zr 0 0)) (n_a0 : a + 0 < N) (n_a4 : a + 4 < N) {r : Int32 × Int32 × Int32 × (Nat → Int32)} (n : Nat) : ∀ {m_thrown : Int32} {m_bytes : Int32} {m_text : Nat → Int32} {x1 : Int32} {x2 : Int32} {x3 : Int32} {x4 : Int32} {x5 : Int32} {x6 : Int32}, f_X9_append_23  n m_thrown m_bytes m_text x1 x2 x3 x4 x5 x6 = some r → zZ X w (zQ X w (zr 0 0) (some (.int r.1)) false N (zu h a [(0, .inr (9, [.int r.2.1, .ref (zo w + (a + 1)), .ref (zo w + (a + 2)), .ref (zo w + (a + 3)), .int m_now, .int m_undoable, .ref (zo w + (a + 4)), .int r.2.2.1, .int m_errorAt, .int m_size, .int m_next, .int m_error, .int m_place, .int m_began, .int m_nested, .int m_once, .ref (zo w + (a + 5))])), (4, .inl (w.2.2.1 0, 900, .inl r.2.2.2))])) 0 0 false N (zu h a [(0, .inr (9, [.int m_thrown, .ref (zo w + (a + 1)), .ref (zo w + (a + 2)), .ref (zo w + (a + 3)), .int m_now, .int m_undoable, .ref (zo w + (a + 4)), .int m_bytes, .int m_errorAt, .int m_size, .int m_next, .int m_error, .int m_place, .int m_began, .int m_nested, .int m_once, .ref (zo w + (a + 5))])), (4, .inl (w.2.2.1 0, 900, .inl m_text))]) 23 [(0, .ref (zo w + a)), (1, .int x1), (2, .int x2), (3, .int x3), (4, .int x4), (5, .int x5), (6, .int x6)] [] := by
  induction n with
  | zero =>
    intro m_thrown m_bytes m_text x1 x2 x3 x4 x5 x6 hf
    have hf : (none : Option (Int32 × Int32 × Int32 × (Nat → Int32))) = some r := hf
    cases hf
  | succ z ih =>
    intro m_thrown m_bytes m_text x1 x2 x3 x4 x5 x6 hf
    rw [f_X9_append_23] at hf
    refine z_iload (pc' := 25) C 6 dX9_append_23 rfl rfl ?_
    refine z_bipush (pc' := 27) C dX9_append_25 zk_bipush_20 rfl ?_
    refine z_icmp_ge (pc' := 30) C 113 hf dX9_append_27 rfl rfl (fun g_27 hf => ?_) (fun g_27 hf => ?_)
    · refine z_aload_n (pc' := 114) C 0 dX9_append_113 rfl rfl rfl ?_
      refine z_dup (pc' := 115) C dX9_append_114 rfl rfl ?_
      refine z_getf (pc' := 118) C zci_9 zw_1191 (j := 7) rfl (zc_i (o := 0) n_a0 rfl) rfl rfl dX9_append_115 rfl ?_
      refine z_bipush (pc' := 120) C dX9_append_118 zk_bipush_20 rfl ?_
      refine z_iadd (pc' := 121) C dX9_append_120 rfl ?_
      refine z_putf (pc' := 124) C zci_9 zw_1191 (j := 7) rfl (zc_i (o := 0) n_a0 rfl) (fs' := [.int m_thrown, .ref (zo w + (a + 1)), .ref (zo w + (a + 2)), .ref (zo w + (a + 3)), .int m_now, .int m_undoable, .ref (zo w + (a + 4)), .int (m_bytes + (20 : Int32)), .int m_errorAt, .int m_size, .int m_next, .int m_error, .int m_place, .int m_began, .int m_nested, .int m_once, .ref (zo w + (a + 5))]) rfl rfl rfl rfl rfl (zu_put (o := 0) (L' := [(0, .inr (9, [.int m_thrown, .ref (zo w + (a + 1)), .ref (zo w + (a + 2)), .ref (zo w + (a + 3)), .int m_now, .int m_undoable, .ref (zo w + (a + 4)), .int (m_bytes + (20 : Int32)), .int m_errorAt, .int m_size, .int m_next, .int m_error, .int m_place, .int m_began, .int m_nested, .int m_once, .ref (zo w + (a + 5))])), (4, .inl (w.2.2.1 0, 900, .inl m_text))]) rfl) dX9_append_121 rfl ?_
      refine z_aload_n (pc' := 125) C 0 dX9_append_124 rfl rfl rfl ?_
      refine z_getf (pc' := 128) C zci_9 zw_1191 (j := 7) rfl (zc_i (o := 0) n_a0 rfl) rfl rfl dX9_append_125 rfl ?_
      cases hf
      exact z_iret C rfl rfl dX9_append_128
    · refine z_iload (pc' := 32) C 6 dX9_append_30 rfl rfl ?_
      refine z_iconst (pc' := 33) C dX9_append_32 zk_iconst_4 rfl ?_
      refine z_icmp_ge (pc' := 36) C 40 hf dX9_append_33 rfl rfl (fun g_33 hf => ?_) (fun g_33 hf => ?_)
      · refine z_iload (pc' := 42) C 6 dX9_append_40 rfl rfl ?_
        refine z_bipush (pc' := 44) C dX9_append_42 zk_bipush_8 rfl ?_
        refine z_icmp_ge (pc' := 47) C 51 hf dX9_append_44 rfl rfl (fun g_44 hf => ?_) (fun g_44 hf => ?_)
        · refine z_iload (pc' := 53) C 6 dX9_append_51 rfl rfl ?_
          refine z_bipush (pc' := 55) C dX9_append_53 zk_bipush_12 rfl ?_
          refine z_icmp_ge (pc' := 58) C 62 hf dX9_append_55 rfl rfl (fun g_55 hf => ?_) (fun g_55 hf => ?_)
          · refine z_iload (pc' := 64) C 6 dX9_append_62 rfl rfl ?_
            refine z_bipush (pc' := 66) C dX9_append_64 zk_bipush_16 rfl ?_
            refine z_icmp_ge (pc' := 69) C 74 hf dX9_append_66 rfl rfl (fun g_66 hf => ?_) (fun g_66 hf => ?_)
            · refine z_iload (pc' := 76) C 5 dX9_append_74 rfl rfl ?_
              exact w_X9_append_76 C n_a0 n_a4 (fun hf => ih hf) hf
            · refine z_iload (pc' := 71) C 4 dX9_append_69 rfl rfl ?_
              refine z_goto C 76 dX9_append_71 rfl ?_
              exact w_X9_append_76 C n_a0 n_a4 (fun hf => ih hf) hf
          · refine z_iload_n (pc' := 59) C 3 dX9_append_58 rfl rfl rfl ?_
            refine z_goto C 76 dX9_append_59 rfl ?_
            exact w_X9_append_76 C n_a0 n_a4 (fun hf => ih hf) hf
        · refine z_iload_n (pc' := 48) C 2 dX9_append_47 rfl rfl rfl ?_
          refine z_goto C 76 dX9_append_48 rfl ?_
          exact w_X9_append_76 C n_a0 n_a4 (fun hf => ih hf) hf
      · refine z_iload_n (pc' := 37) C 1 dX9_append_36 rfl rfl rfl ?_
        refine z_goto C 76 dX9_append_37 rfl ?_
        exact w_X9_append_76 C n_a0 n_a4 (fun hf => ih hf) hf
set_option maxRecDepth 20000 in
theorem c_X9_append {w : zV} {N : Nat} {h : zH} {a : Nat} {m_thrown : Int32} {m_next : Int32} {m_error : Int32} {m_place : Int32} {m_began : Int32} {m_nested : Int32} {m_once : Int32} {m_now : Int32} {m_undoable : Int32} {m_bytes : Int32} {m_errorAt : Int32} {m_size : Int32} {m_text : Nat → Int32} {p1 : Int32} {p2 : Int32} {p3 : Int32} {p4 : Int32} {p5 : Int32} (h_a0 : zc N h (a + 0) (.inr (9, [.int m_thrown, .ref (zo w + (a + 1)), .ref (zo w + (a + 2)), .ref (zo w + (a + 3)), .int m_now, .int m_undoable, .ref (zo w + (a + 4)), .int m_bytes, .int m_errorAt, .int m_size, .int m_next, .int m_error, .int m_place, .int m_began, .int m_nested, .int m_once, .ref (zo w + (a + 5))]))) (h_a4 : zc N h (a + 4) (.inl (w.2.2.1 0, 900, .inl m_text))) {r : Int32 × Int32 × Int32 × (Nat → Int32)} (hf : f_X9_append m_thrown m_bytes m_text p1 p2 p3 p4 p5 = some r) : zM w yX9_append cX9_append 8 (some .int) (zr 0 0) false N N h [.ref (zo w + a), .int p1, .int p2, .int p3, .int p4, .int p5] (some (.int r.1)) (zu h a [(0, .inr (9, [.int r.2.1, .ref (zo w + (a + 1)), .ref (zo w + (a + 2)), .ref (zo w + (a + 3)), .int m_now, .int m_undoable, .ref (zo w + (a + 4)), .int r.2.2.1, .int m_errorAt, .int m_size, .int m_next, .int m_error, .int m_place, .int m_began, .int m_nested, .int m_once, .ref (zo w + (a + 5))])), (4, .inl (w.2.2.1 0, 900, .inl r.2.2.2))]) := by
  unfold f_X9_append at hf
  refine zM_of (by decide) rfl (fun X C _ => ?_)
  refine z_eq (h' := (zu h a [(0, .inr (9, [.int m_thrown, .ref (zo w + (a + 1)), .ref (zo w + (a + 2)), .ref (zo w + (a + 3)), .int m_now, .int m_undoable, .ref (zo w + (a + 4)), .int m_bytes, .int m_errorAt, .int m_size, .int m_next, .int m_error, .int m_place, .int m_began, .int m_nested, .int m_once, .ref (zo w + (a + 5))])), (4, .inl (w.2.2.1 0, 900, .inl m_text))])) (zu_s h_a0 (zu_s h_a4 zu_0)).symm ?_
  have n_a0 := h_a0.1
  have n_a4 := h_a4.1
  refine z_pick (lv' := [(0, .ref (zo w + a)), (1, .int p1), (2, .int p2), (3, .int p3), (4, .int p4), (5, .int p5)]) [0, 1, 2, 3, 4, 5] rfl ?_
  refine z_aload_n (pc' := 1) C 0 dX9_append_0 rfl rfl rfl ?_
  refine z_iconst (pc' := 2) C dX9_append_1 zk_iconst_0 rfl ?_
  refine z_putf (pc' := 5) C zci_9 zw_1184 (j := 0) rfl (zc_i (o := 0) n_a0 rfl) (fs' := [.int (0 : Int32), .ref (zo w + (a + 1)), .ref (zo w + (a + 2)), .ref (zo w + (a + 3)), .int m_now, .int m_undoable, .ref (zo w + (a + 4)), .int m_bytes, .int m_errorAt, .int m_size, .int m_next, .int m_error, .int m_place, .int m_began, .int m_nested, .int m_once, .ref (zo w + (a + 5))]) rfl rfl rfl rfl rfl (zu_put (o := 0) (L' := [(0, .inr (9, [.int (0 : Int32), .ref (zo w + (a + 1)), .ref (zo w + (a + 2)), .ref (zo w + (a + 3)), .int m_now, .int m_undoable, .ref (zo w + (a + 4)), .int m_bytes, .int m_errorAt, .int m_size, .int m_next, .int m_error, .int m_place, .int m_began, .int m_nested, .int m_once, .ref (zo w + (a + 5))])), (4, .inl (w.2.2.1 0, 900, .inl m_text))]) rfl) dX9_append_2 rfl ?_
  refine z_aload_n (pc' := 6) C 0 dX9_append_5 rfl rfl rfl ?_
  refine z_getf (pc' := 9) C zci_9 zw_1191 (j := 7) rfl (zc_i (o := 0) n_a0 rfl) rfl rfl dX9_append_6 rfl ?_
  refine z_bipush (pc' := 11) C dX9_append_9 zk_bipush_20 rfl ?_
  refine z_iadd (pc' := 12) C dX9_append_11 rfl ?_
  refine z_sipush (pc' := 15) C dX9_append_12 zk_sipush_900 rfl ?_
  refine z_icmp_le (pc' := 18) C 20 hf dX9_append_15 rfl rfl (fun g_15 hf => ?_) (fun g_15 hf => ?_)
  · refine z_iconst (pc' := 21) C dX9_append_20 zk_iconst_0 rfl ?_
    refine z_istore (pc' := 23) C [(6, .int (0 : Int32)), (0, .ref (zo w + a)), (1, .int p1), (2, .int p2), (3, .int p3), (4, .int p4), (5, .int p5)] dX9_append_21 rfl rfl rfl ?_
    refine z_pick (lv' := [(0, .ref (zo w + a)), (1, .int p1), (2, .int p2), (3, .int p3), (4, .int p4), (5, .int p5), (6, .int (0 : Int32))]) [1, 2, 3, 4, 5, 6, 0] rfl ?_
    exact w_X9_append_23 C n_a0 n_a4  FU hf
  · refine z_iconst (pc' := 19) C dX9_append_18 zk_iconst_m1 rfl ?_
    cases hf
    exact z_iret C rfl rfl dX9_append_19
set_option maxRecDepth 20000 in
theorem c_X9_fails {w : zV} {N : Nat} {h : zH} {a : Nat} {m_thrown : Int32} {m_next : Int32} {m_error : Int32} {m_place : Int32} {m_began : Int32} {m_nested : Int32} {m_once : Int32} {m_now : Int32} {m_undoable : Int32} {m_bytes : Int32} {m_errorAt : Int32} {m_size : Int32} {p1 : Int32} {p2 : Int32} (h_a0 : zc N h (a + 0) (.inr (9, [.int m_thrown, .ref (zo w + (a + 1)), .ref (zo w + (a + 2)), .ref (zo w + (a + 3)), .int m_now, .int m_undoable, .ref (zo w + (a + 4)), .int m_bytes, .int m_errorAt, .int m_size, .int m_next, .int m_error, .int m_place, .int m_began, .int m_nested, .int m_once, .ref (zo w + (a + 5))]))) {r : Int32 × Int32} (hf : f_X9_fails m_error m_place p1 p2 = some r) : zM w yX9_fails cX9_fails 3 none (zr 0 0) false N N h [.ref (zo w + a), .int p1, .int p2] (none) (zu h a [(0, .inr (9, [.int m_thrown, .ref (zo w + (a + 1)), .ref (zo w + (a + 2)), .ref (zo w + (a + 3)), .int m_now, .int m_undoable, .ref (zo w + (a + 4)), .int m_bytes, .int m_errorAt, .int m_size, .int m_next, .int r.1, .int r.2, .int m_began, .int m_nested, .int m_once, .ref (zo w + (a + 5))]))]) := by
  unfold f_X9_fails at hf
  refine zM_of (by decide) rfl (fun X C _ => ?_)
  refine z_eq (h' := (zu h a [(0, .inr (9, [.int m_thrown, .ref (zo w + (a + 1)), .ref (zo w + (a + 2)), .ref (zo w + (a + 3)), .int m_now, .int m_undoable, .ref (zo w + (a + 4)), .int m_bytes, .int m_errorAt, .int m_size, .int m_next, .int m_error, .int m_place, .int m_began, .int m_nested, .int m_once, .ref (zo w + (a + 5))]))])) (zu_s h_a0 zu_0).symm ?_
  have n_a0 := h_a0.1
  refine z_pick (lv' := [(0, .ref (zo w + a)), (1, .int p1), (2, .int p2)]) [0, 1, 2] rfl ?_
  refine z_aload_n (pc' := 1) C 0 dX9_fails_0 rfl rfl rfl ?_
  refine z_getf (pc' := 4) C zci_9 zw_1195 (j := 11) rfl (zc_i (o := 0) n_a0 rfl) rfl rfl dX9_fails_1 rfl ?_
  refine z_if_eq (pc' := 7) C 8 hf dX9_fails_4 rfl rfl (fun g_4 hf => ?_) (fun g_4 hf => ?_)
  · refine z_aload_n (pc' := 9) C 0 dX9_fails_8 rfl rfl rfl ?_
    refine z_iload_n (pc' := 10) C 1 dX9_fails_9 rfl rfl rfl ?_
    refine z_putf (pc' := 13) C zci_9 zw_1195 (j := 11) rfl (zc_i (o := 0) n_a0 rfl) (fs' := [.int m_thrown, .ref (zo w + (a + 1)), .ref (zo w + (a + 2)), .ref (zo w + (a + 3)), .int m_now, .int m_undoable, .ref (zo w + (a + 4)), .int m_bytes, .int m_errorAt, .int m_size, .int m_next, .int p1, .int m_place, .int m_began, .int m_nested, .int m_once, .ref (zo w + (a + 5))]) rfl rfl rfl rfl rfl (zu_put (o := 0) (L' := [(0, .inr (9, [.int m_thrown, .ref (zo w + (a + 1)), .ref (zo w + (a + 2)), .ref (zo w + (a + 3)), .int m_now, .int m_undoable, .ref (zo w + (a + 4)), .int m_bytes, .int m_errorAt, .int m_size, .int m_next, .int p1, .int m_place, .int m_began, .int m_nested, .int m_once, .ref (zo w + (a + 5))]))]) rfl) dX9_fails_10 rfl ?_
    refine z_aload_n (pc' := 14) C 0 dX9_fails_13 rfl rfl rfl ?_
    refine z_iload_n (pc' := 15) C 2 dX9_fails_14 rfl rfl rfl ?_
    refine z_putf (pc' := 18) C zci_9 zw_1196 (j := 12) rfl (zc_i (o := 0) n_a0 rfl) (fs' := [.int m_thrown, .ref (zo w + (a + 1)), .ref (zo w + (a + 2)), .ref (zo w + (a + 3)), .int m_now, .int m_undoable, .ref (zo w + (a + 4)), .int m_bytes, .int m_errorAt, .int m_size, .int m_next, .int p1, .int p2, .int m_began, .int m_nested, .int m_once, .ref (zo w + (a + 5))]) rfl rfl rfl rfl rfl (zu_put (o := 0) (L' := [(0, .inr (9, [.int m_thrown, .ref (zo w + (a + 1)), .ref (zo w + (a + 2)), .ref (zo w + (a + 3)), .int m_now, .int m_undoable, .ref (zo w + (a + 4)), .int m_bytes, .int m_errorAt, .int m_size, .int m_next, .int p1, .int p2, .int m_began, .int m_nested, .int m_once, .ref (zo w + (a + 5))]))]) rfl) dX9_fails_15 rfl ?_
    cases hf
    exact z_vret C rfl rfl dX9_fails_18
  · cases hf
    exact z_vret C rfl rfl dX9_fails_7
set_option maxRecDepth 20000 in
theorem w_X9_sees_38 {X : zC} {w : zV} {N : Nat} {h : zH} {a : Nat} {m_thrown : Int32} {m_error : Int32} {m_place : Int32} {m_began : Int32} {m_nested : Int32} {m_once : Int32} {m_now : Int32} {m_undoable : Int32} {m_bytes : Int32} {m_errorAt : Int32} {m_size : Int32} {m_text : Nat → Int32} (C : zK X w RX9 cX9_sees 1 (some .int) (zr 0 0)) (n_a0 : a + 0 < N) (h_a4 : zc N h (a + 4) (.inl (w.2.2.1 0, 900, .inl m_text))) {r : Int32 × Int32} {m_next : Int32} (hf : f_X9_sees_38  m_size m_next m_text = some r) : zZ X w (zQ X w (zr 0 0) (some (.int r.1)) false N (zu h a [(0, .inr (9, [.int m_thrown, .ref (zo w + (a + 1)), .ref (zo w + (a + 2)), .ref (zo w + (a + 3)), .int m_now, .int m_undoable, .ref (zo w + (a + 4)), .int m_bytes, .int m_errorAt, .int m_size, .int r.2, .int m_error, .int m_place, .int m_began, .int m_nested, .int m_once, .ref (zo w + (a + 5))]))])) 0 0 false N (zu h a [(0, .inr (9, [.int m_thrown, .ref (zo w + (a + 1)), .ref (zo w + (a + 2)), .ref (zo w + (a + 3)), .int m_now, .int m_undoable, .ref (zo w + (a + 4)), .int m_bytes, .int m_errorAt, .int m_size, .int m_next, .int m_error, .int m_place, .int m_began, .int m_nested, .int m_once, .ref (zo w + (a + 5))]))]) 38 [(0, .ref (zo w + a))] [] := by
  unfold f_X9_sees_38 at hf
  refine z_aload_n (pc' := 39) C 0 dX9_sees_38 rfl rfl rfl ?_
  refine z_getf (pc' := 42) C zci_9 zw_1194 (j := 10) rfl (zc_i (o := 0) n_a0 rfl) rfl rfl dX9_sees_39 rfl ?_
  refine z_aload_n (pc' := 43) C 0 dX9_sees_42 rfl rfl rfl ?_
  refine z_getf (pc' := 46) C zci_9 zw_1193 (j := 9) rfl (zc_i (o := 0) n_a0 rfl) rfl rfl dX9_sees_43 rfl ?_
  refine z_icmp_ge (pc' := 49) C 61 hf dX9_sees_46 rfl rfl (fun g_46 hf => ?_) (fun g_46 hf => ?_)
  · refine z_iconst (pc' := 62) C dX9_sees_61 zk_iconst_m1 rfl ?_
    cases hf
    exact z_iret C rfl rfl dX9_sees_62
  · refine z_aload_n (pc' := 50) C 0 dX9_sees_49 rfl rfl rfl ?_
    refine z_getf (pc' := 53) C zci_9 zw_1190 (j := 6) rfl (zc_i (o := 0) n_a0 rfl) rfl rfl dX9_sees_50 rfl ?_
    refine z_aload_n (pc' := 54) C 0 dX9_sees_53 rfl rfl rfl ?_
    refine z_getf (pc' := 57) C zci_9 zw_1194 (j := 10) rfl (zc_i (o := 0) n_a0 rfl) rfl rfl dX9_sees_54 rfl ?_
    refine z_iald (pc' := 58) C hf (zc_o (o := 4) h_a4 rfl) dX9_sees_57 rfl (fun v_57 hf => ?_)
    refine z_goto C 62 dX9_sees_58 rfl ?_
    cases hf
    exact z_iret C rfl rfl dX9_sees_62
set_option maxRecDepth 20000 in
theorem w_X9_sees_0 {X : zC} {w : zV} {N : Nat} {h : zH} {a : Nat} {m_thrown : Int32} {m_error : Int32} {m_place : Int32} {m_began : Int32} {m_nested : Int32} {m_once : Int32} {m_now : Int32} {m_undoable : Int32} {m_bytes : Int32} {m_errorAt : Int32} {m_size : Int32} {m_text : Nat → Int32} (C : zK X w RX9 cX9_sees 1 (some .int) (zr 0 0)) (n_a0 : a + 0 < N) (h_a4 : zc N h (a + 4) (.inl (w.2.2.1 0, 900, .inl m_text))) {r : Int32 × Int32} (n : Nat) : ∀ {m_next : Int32}, f_X9_sees_0  n m_size m_next m_text = some r → zZ X w (zQ X w (zr 0 0) (some (.int r.1)) false N (zu h a [(0, .inr (9, [.int m_thrown, .ref (zo w + (a + 1)), .ref (zo w + (a + 2)), .ref (zo w + (a + 3)), .int m_now, .int m_undoable, .ref (zo w + (a + 4)), .int m_bytes, .int m_errorAt, .int m_size, .int r.2, .int m_error, .int m_place, .int m_began, .int m_nested, .int m_once, .ref (zo w + (a + 5))]))])) 0 0 false N (zu h a [(0, .inr (9, [.int m_thrown, .ref (zo w + (a + 1)), .ref (zo w + (a + 2)), .ref (zo w + (a + 3)), .int m_now, .int m_undoable, .ref (zo w + (a + 4)), .int m_bytes, .int m_errorAt, .int m_size, .int m_next, .int m_error, .int m_place, .int m_began, .int m_nested, .int m_once, .ref (zo w + (a + 5))]))]) 0 [(0, .ref (zo w + a))] [] := by
  induction n with
  | zero =>
    intro m_next hf
    have hf : (none : Option (Int32 × Int32)) = some r := hf
    cases hf
  | succ z ih =>
    intro m_next hf
    rw [f_X9_sees_0] at hf
    refine z_aload_n (pc' := 1) C 0 dX9_sees_0 rfl rfl rfl ?_
    refine z_getf (pc' := 4) C zci_9 zw_1194 (j := 10) rfl (zc_i (o := 0) n_a0 rfl) rfl rfl dX9_sees_1 rfl ?_
    refine z_aload_n (pc' := 5) C 0 dX9_sees_4 rfl rfl rfl ?_
    refine z_getf (pc' := 8) C zci_9 zw_1193 (j := 9) rfl (zc_i (o := 0) n_a0 rfl) rfl rfl dX9_sees_5 rfl ?_
    refine z_icmp_ge (pc' := 11) C 38 hf dX9_sees_8 rfl rfl (fun g_8 hf => ?_) (fun g_8 hf => ?_)
    · exact w_X9_sees_38 C n_a0 h_a4  hf
    · refine z_aload_n (pc' := 12) C 0 dX9_sees_11 rfl rfl rfl ?_
      refine z_getf (pc' := 15) C zci_9 zw_1190 (j := 6) rfl (zc_i (o := 0) n_a0 rfl) rfl rfl dX9_sees_12 rfl ?_
      refine z_aload_n (pc' := 16) C 0 dX9_sees_15 rfl rfl rfl ?_
      refine z_getf (pc' := 19) C zci_9 zw_1194 (j := 10) rfl (zc_i (o := 0) n_a0 rfl) rfl rfl dX9_sees_16 rfl ?_
      refine z_iald (pc' := 20) C hf (zc_o (o := 4) h_a4 rfl) dX9_sees_19 rfl (fun v_19 hf => ?_)
      refine z_bipush (pc' := 22) C dX9_sees_20 zk_bipush_32 rfl ?_
      refine z_icmp_ne (pc' := 25) C 38 hf dX9_sees_22 rfl rfl (fun g_22 hf => ?_) (fun g_22 hf => ?_)
      · exact w_X9_sees_38 C n_a0 h_a4  hf
      · refine z_aload_n (pc' := 26) C 0 dX9_sees_25 rfl rfl rfl ?_
        refine z_dup (pc' := 27) C dX9_sees_26 rfl rfl ?_
        refine z_getf (pc' := 30) C zci_9 zw_1194 (j := 10) rfl (zc_i (o := 0) n_a0 rfl) rfl rfl dX9_sees_27 rfl ?_
        refine z_iconst (pc' := 31) C dX9_sees_30 zk_iconst_1 rfl ?_
        refine z_iadd (pc' := 32) C dX9_sees_31 rfl ?_
        refine z_putf (pc' := 35) C zci_9 zw_1194 (j := 10) rfl (zc_i (o := 0) n_a0 rfl) (fs' := [.int m_thrown, .ref (zo w + (a + 1)), .ref (zo w + (a + 2)), .ref (zo w + (a + 3)), .int m_now, .int m_undoable, .ref (zo w + (a + 4)), .int m_bytes, .int m_errorAt, .int m_size, .int (m_next + (1 : Int32)), .int m_error, .int m_place, .int m_began, .int m_nested, .int m_once, .ref (zo w + (a + 5))]) rfl rfl rfl rfl rfl (zu_put (o := 0) (L' := [(0, .inr (9, [.int m_thrown, .ref (zo w + (a + 1)), .ref (zo w + (a + 2)), .ref (zo w + (a + 3)), .int m_now, .int m_undoable, .ref (zo w + (a + 4)), .int m_bytes, .int m_errorAt, .int m_size, .int (m_next + (1 : Int32)), .int m_error, .int m_place, .int m_began, .int m_nested, .int m_once, .ref (zo w + (a + 5))]))]) rfl) dX9_sees_32 rfl ?_
        refine z_goto C 0 dX9_sees_35 rfl ?_
        exact ih hf
set_option maxRecDepth 20000 in
theorem c_X9_sees {w : zV} {N : Nat} {h : zH} {a : Nat} {m_thrown : Int32} {m_next : Int32} {m_error : Int32} {m_place : Int32} {m_began : Int32} {m_nested : Int32} {m_once : Int32} {m_now : Int32} {m_undoable : Int32} {m_bytes : Int32} {m_errorAt : Int32} {m_size : Int32} {m_text : Nat → Int32} (h_a0 : zc N h (a + 0) (.inr (9, [.int m_thrown, .ref (zo w + (a + 1)), .ref (zo w + (a + 2)), .ref (zo w + (a + 3)), .int m_now, .int m_undoable, .ref (zo w + (a + 4)), .int m_bytes, .int m_errorAt, .int m_size, .int m_next, .int m_error, .int m_place, .int m_began, .int m_nested, .int m_once, .ref (zo w + (a + 5))]))) (h_a4 : zc N h (a + 4) (.inl (w.2.2.1 0, 900, .inl m_text))) {r : Int32 × Int32} (hf : f_X9_sees m_size m_next m_text = some r) : zM w yX9_sees cX9_sees 1 (some .int) (zr 0 0) false N N h [.ref (zo w + a)] (some (.int r.1)) (zu h a [(0, .inr (9, [.int m_thrown, .ref (zo w + (a + 1)), .ref (zo w + (a + 2)), .ref (zo w + (a + 3)), .int m_now, .int m_undoable, .ref (zo w + (a + 4)), .int m_bytes, .int m_errorAt, .int m_size, .int r.2, .int m_error, .int m_place, .int m_began, .int m_nested, .int m_once, .ref (zo w + (a + 5))]))]) := by
  unfold f_X9_sees at hf
  refine zM_of (by decide) rfl (fun X C _ => ?_)
  refine z_eq (h' := (zu h a [(0, .inr (9, [.int m_thrown, .ref (zo w + (a + 1)), .ref (zo w + (a + 2)), .ref (zo w + (a + 3)), .int m_now, .int m_undoable, .ref (zo w + (a + 4)), .int m_bytes, .int m_errorAt, .int m_size, .int m_next, .int m_error, .int m_place, .int m_began, .int m_nested, .int m_once, .ref (zo w + (a + 5))]))])) (zu_s h_a0 zu_0).symm ?_
  have n_a0 := h_a0.1
  refine z_pick (lv' := [(0, .ref (zo w + a))]) [0] rfl ?_
  exact w_X9_sees_0 C n_a0 h_a4  FU hf
set_option maxRecDepth 20000 in
theorem w_X9_isWord_68 {X : zC} {w : zV} {N : Nat} {h : zH} {a : Nat} {m_thrown : Int32} {m_error : Int32} {m_place : Int32} {m_began : Int32} {m_nested : Int32} {m_once : Int32} {m_now : Int32} {m_undoable : Int32} {m_bytes : Int32} {m_errorAt : Int32} {m_size : Int32} {m_text : Nat → Int32} {p1 : Nat} (C : zK X w RX9 cX9_isWord 5 (some .boolean) (zr 4 150)) (n_a0 : a + 0 < N) (h_a4 : zc N h (a + 4) (.inl (w.2.2.1 0, 900, .inl m_text))) (hi_p1 : p1 < 25) {r : Int32 × Int32} (n : Nat) : ∀ {m_next : Int32} {x3 : Int32} {x4 : Int32}, f_X9_isWord_68  n m_next m_text p1 x3 x4 = some r → zZ X w (zQ X w (zr 4 150) (some (.int r.1)) false N (zu h a [(0, .inr (9, [.int m_thrown, .ref (zo w + (a + 1)), .ref (zo w + (a + 2)), .ref (zo w + (a + 3)), .int m_now, .int m_undoable, .ref (zo w + (a + 4)), .int m_bytes, .int m_errorAt, .int m_size, .int r.2, .int m_error, .int m_place, .int m_began, .int m_nested, .int m_once, .ref (zo w + (a + 5))]))])) 0 0 false N (zu h a [(0, .inr (9, [.int m_thrown, .ref (zo w + (a + 1)), .ref (zo w + (a + 2)), .ref (zo w + (a + 3)), .int m_now, .int m_undoable, .ref (zo w + (a + 4)), .int m_bytes, .int m_errorAt, .int m_size, .int m_next, .int m_error, .int m_place, .int m_began, .int m_nested, .int m_once, .ref (zo w + (a + 5))]))]) 68 [(0, .ref (zo w + a)), (1, .ref (zsa w p1)), (3, .int x3), (4, .int x4)] [] := by
  induction n with
  | zero =>
    intro m_next x3 x4 hf
    have hf : (none : Option (Int32 × Int32)) = some r := hf
    cases hf
  | succ z ih =>
    intro m_next x3 x4 hf
    rw [f_X9_isWord_68] at hf
    refine z_iload_n (pc' := 69) C 2 dX9_isWord_68 rfl rfl rfl ?_
    refine z_if_eq (pc' := 72) C 114 hf dX9_isWord_69 rfl rfl (fun g_69 hf => ?_) (fun g_69 hf => ?_)
    · refine z_iload_n (pc' := 115) C 2 dX9_isWord_114 rfl rfl rfl ?_
      obtain ⟨g_115, hf⟩ := zG1_s hf
      cases hf
      exact z_zret C g_115 rfl rfl dX9_isWord_115
    · refine z_iload (pc' := 74) C 3 dX9_isWord_72 rfl rfl ?_
      refine z_aload_n (pc' := 75) C 1 dX9_isWord_74 rfl rfl rfl ?_
      refine z_slen (pc' := 78) C hi_p1 zw_1276 rfl rfl rfl dX9_isWord_75 rfl ?_
      refine z_icmp_ge (pc' := 81) C 114 hf dX9_isWord_78 rfl rfl (fun g_78 hf => ?_) (fun g_78 hf => ?_)
      · refine z_iload_n (pc' := 115) C 2 dX9_isWord_114 rfl rfl rfl ?_
        obtain ⟨g_115, hf⟩ := zG1_s hf
        cases hf
        exact z_zret C g_115 rfl rfl dX9_isWord_115
      · refine z_aload_n (pc' := 82) C 0 dX9_isWord_81 rfl rfl rfl ?_
        refine z_getf (pc' := 85) C zci_9 zw_1190 (j := 6) rfl (zc_i (o := 0) n_a0 rfl) rfl rfl dX9_isWord_82 rfl ?_
        refine z_aload_n (pc' := 86) C 0 dX9_isWord_85 rfl rfl rfl ?_
        refine z_getf (pc' := 89) C zci_9 zw_1194 (j := 10) rfl (zc_i (o := 0) n_a0 rfl) rfl rfl dX9_isWord_86 rfl ?_
        refine z_iload (pc' := 91) C 3 dX9_isWord_89 rfl rfl ?_
        refine z_iadd (pc' := 92) C dX9_isWord_91 rfl ?_
        refine z_iald (pc' := 93) C hf (zc_o (o := 4) h_a4 rfl) dX9_isWord_92 rfl (fun v_92 hf => ?_)
        refine z_aload_n (pc' := 94) C 1 dX9_isWord_93 rfl rfl rfl ?_
        refine z_iload (pc' := 96) C 3 dX9_isWord_94 rfl rfl ?_
        refine z_schr (pc' := 99) C hf hi_p1 zw_1277 rfl rfl rfl dX9_isWord_96 rfl (fun v_96 hf => ?_)
        refine z_icmp_ne (pc' := 102) C 106 hf dX9_isWord_99 rfl rfl (fun g_99 hf => ?_) (fun g_99 hf => ?_)
        · refine z_iconst (pc' := 107) C dX9_isWord_106 zk_iconst_0 rfl ?_
          refine z_istore_n (pc' := 108) C [(3, .int (0 : Int32)), (0, .ref (zo w + a)), (1, .ref (zsa w p1)), (4, .int x4)] dX9_isWord_107 rfl rfl rfl rfl ?_
          refine z_iinc (pc' := 111) C 3 [(4, .int (x4 + (1 : Int32))), (3, .int (0 : Int32)), (0, .ref (zo w + a)), (1, .ref (zsa w p1))] dX9_isWord_108 rfl zk_iconst_1 rfl rfl rfl ?_
          refine z_goto C 68 dX9_isWord_111 rfl ?_
          refine z_pick (lv' := [(0, .ref (zo w + a)), (1, .ref (zsa w p1)), (3, .int (0 : Int32)), (4, .int (x4 + (1 : Int32)))]) [2, 3, 1, 0] rfl ?_
          exact ih hf
        · refine z_iconst (pc' := 103) C dX9_isWord_102 zk_iconst_1 rfl ?_
          refine z_goto C 107 dX9_isWord_103 rfl ?_
          refine z_istore_n (pc' := 108) C [(3, .int (1 : Int32)), (0, .ref (zo w + a)), (1, .ref (zsa w p1)), (4, .int x4)] dX9_isWord_107 rfl rfl rfl rfl ?_
          refine z_iinc (pc' := 111) C 3 [(4, .int (x4 + (1 : Int32))), (3, .int (1 : Int32)), (0, .ref (zo w + a)), (1, .ref (zsa w p1))] dX9_isWord_108 rfl zk_iconst_1 rfl rfl rfl ?_
          refine z_goto C 68 dX9_isWord_111 rfl ?_
          refine z_pick (lv' := [(0, .ref (zo w + a)), (1, .ref (zsa w p1)), (3, .int (1 : Int32)), (4, .int (x4 + (1 : Int32)))]) [2, 3, 1, 0] rfl ?_
          exact ih hf
set_option maxRecDepth 20000 in
theorem w_X9_isWord_46 {X : zC} {w : zV} {N : Nat} {h : zH} {a : Nat} {m_thrown : Int32} {m_error : Int32} {m_place : Int32} {m_began : Int32} {m_nested : Int32} {m_once : Int32} {m_now : Int32} {m_undoable : Int32} {m_bytes : Int32} {m_errorAt : Int32} {m_size : Int32} {m_text : Nat → Int32} {p1 : Nat} (C : zK X w RX9 cX9_isWord 5 (some .boolean) (zr 4 150)) (n_a0 : a + 0 < N) (h_a4 : zc N h (a + 4) (.inl (w.2.2.1 0, 900, .inl m_text))) (hi_p1 : p1 < 25) {r : Int32 × Int32} {m_next : Int32} {x2 : Int32} (hf : f_X9_isWord_46  m_next m_text p1 x2 = some r) : zZ X w (zQ X w (zr 4 150) (some (.int r.1)) false N (zu h a [(0, .inr (9, [.int m_thrown, .ref (zo w + (a + 1)), .ref (zo w + (a + 2)), .ref (zo w + (a + 3)), .int m_now, .int m_undoable, .ref (zo w + (a + 4)), .int m_bytes, .int m_errorAt, .int m_size, .int r.2, .int m_error, .int m_place, .int m_began, .int m_nested, .int m_once, .ref (zo w + (a + 5))]))])) 0 0 false N (zu h a [(0, .inr (9, [.int m_thrown, .ref (zo w + (a + 1)), .ref (zo w + (a + 2)), .ref (zo w + (a + 3)), .int m_now, .int m_undoable, .ref (zo w + (a + 4)), .int m_bytes, .int m_errorAt, .int m_size, .int m_next, .int m_error, .int m_place, .int m_began, .int m_nested, .int m_once, .ref (zo w + (a + 5))]))]) 46 [(0, .ref (zo w + a)), (1, .ref (zsa w p1)), (2, .int x2)] [] := by
  unfold f_X9_isWord_46 at hf
  refine z_iload_n (pc' := 47) C 2 dX9_isWord_46 rfl rfl rfl ?_
  refine z_aload_n (pc' := 48) C 0 dX9_isWord_47 rfl rfl rfl ?_
  refine z_getf (pc' := 51) C zci_9 zw_1194 (j := 10) rfl (zc_i (o := 0) n_a0 rfl) rfl rfl dX9_isWord_48 rfl ?_
  refine z_isub (pc' := 52) C dX9_isWord_51 rfl ?_
  refine z_aload_n (pc' := 53) C 1 dX9_isWord_52 rfl rfl rfl ?_
  refine z_slen (pc' := 56) C hi_p1 zw_1276 rfl rfl rfl dX9_isWord_53 rfl ?_
  refine z_icmp_ne (pc' := 59) C 63 hf dX9_isWord_56 rfl rfl (fun g_56 hf => ?_) (fun g_56 hf => ?_)
  · refine z_iconst (pc' := 64) C dX9_isWord_63 zk_iconst_0 rfl ?_
    refine z_istore_n (pc' := 65) C [(3, .int (0 : Int32)), (0, .ref (zo w + a)), (1, .ref (zsa w p1)), (2, .int x2)] dX9_isWord_64 rfl rfl rfl rfl ?_
    refine z_iconst (pc' := 66) C dX9_isWord_65 zk_iconst_0 rfl ?_
    refine z_istore (pc' := 68) C [(4, .int (0 : Int32)), (3, .int (0 : Int32)), (0, .ref (zo w + a)), (1, .ref (zsa w p1)), (2, .int x2)] dX9_isWord_66 rfl rfl rfl ?_
    refine z_pick (lv' := [(0, .ref (zo w + a)), (1, .ref (zsa w p1)), (3, .int (0 : Int32)), (4, .int (0 : Int32))]) [2, 3, 1, 0] rfl ?_
    exact w_X9_isWord_68 C n_a0 h_a4 hi_p1  FU hf
  · refine z_iconst (pc' := 60) C dX9_isWord_59 zk_iconst_1 rfl ?_
    refine z_goto C 64 dX9_isWord_60 rfl ?_
    refine z_istore_n (pc' := 65) C [(3, .int (1 : Int32)), (0, .ref (zo w + a)), (1, .ref (zsa w p1)), (2, .int x2)] dX9_isWord_64 rfl rfl rfl rfl ?_
    refine z_iconst (pc' := 66) C dX9_isWord_65 zk_iconst_0 rfl ?_
    refine z_istore (pc' := 68) C [(4, .int (0 : Int32)), (3, .int (1 : Int32)), (0, .ref (zo w + a)), (1, .ref (zsa w p1)), (2, .int x2)] dX9_isWord_66 rfl rfl rfl ?_
    refine z_pick (lv' := [(0, .ref (zo w + a)), (1, .ref (zsa w p1)), (3, .int (1 : Int32)), (4, .int (0 : Int32))]) [2, 3, 1, 0] rfl ?_
    exact w_X9_isWord_68 C n_a0 h_a4 hi_p1  FU hf
set_option maxRecDepth 20000 in
theorem w_X9_isWord_10 {X : zC} {w : zV} {N : Nat} {h : zH} {a : Nat} {m_thrown : Int32} {m_error : Int32} {m_place : Int32} {m_began : Int32} {m_nested : Int32} {m_once : Int32} {m_now : Int32} {m_undoable : Int32} {m_bytes : Int32} {m_errorAt : Int32} {m_size : Int32} {m_text : Nat → Int32} {p1 : Nat} (C : zK X w RX9 cX9_isWord 5 (some .boolean) (zr 4 150)) (n_a0 : a + 0 < N) (h_a4 : zc N h (a + 4) (.inl (w.2.2.1 0, 900, .inl m_text))) (hi_p1 : p1 < 25) {r : Int32 × Int32} (n : Nat) : ∀ {m_next : Int32} {x2 : Int32}, f_X9_isWord_10  n m_size m_next m_text p1 x2 = some r → zZ X w (zQ X w (zr 4 150) (some (.int r.1)) false N (zu h a [(0, .inr (9, [.int m_thrown, .ref (zo w + (a + 1)), .ref (zo w + (a + 2)), .ref (zo w + (a + 3)), .int m_now, .int m_undoable, .ref (zo w + (a + 4)), .int m_bytes, .int m_errorAt, .int m_size, .int r.2, .int m_error, .int m_place, .int m_began, .int m_nested, .int m_once, .ref (zo w + (a + 5))]))])) 0 0 false N (zu h a [(0, .inr (9, [.int m_thrown, .ref (zo w + (a + 1)), .ref (zo w + (a + 2)), .ref (zo w + (a + 3)), .int m_now, .int m_undoable, .ref (zo w + (a + 4)), .int m_bytes, .int m_errorAt, .int m_size, .int m_next, .int m_error, .int m_place, .int m_began, .int m_nested, .int m_once, .ref (zo w + (a + 5))]))]) 10 [(0, .ref (zo w + a)), (1, .ref (zsa w p1)), (2, .int x2)] [] := by
  induction n with
  | zero =>
    intro m_next x2 hf
    have hf : (none : Option (Int32 × Int32)) = some r := hf
    cases hf
  | succ z ih =>
    intro m_next x2 hf
    rw [f_X9_isWord_10] at hf
    refine z_iload_n (pc' := 11) C 2 dX9_isWord_10 rfl rfl rfl ?_
    refine z_aload_n (pc' := 12) C 0 dX9_isWord_11 rfl rfl rfl ?_
    refine z_getf (pc' := 15) C zci_9 zw_1193 (j := 9) rfl (zc_i (o := 0) n_a0 rfl) rfl rfl dX9_isWord_12 rfl ?_
    refine z_icmp_ge (pc' := 18) C 46 hf dX9_isWord_15 rfl rfl (fun g_15 hf => ?_) (fun g_15 hf => ?_)
    · exact w_X9_isWord_46 C n_a0 h_a4 hi_p1  hf
    · refine z_aload_n (pc' := 19) C 0 dX9_isWord_18 rfl rfl rfl ?_
      refine z_getf (pc' := 22) C zci_9 zw_1190 (j := 6) rfl (zc_i (o := 0) n_a0 rfl) rfl rfl dX9_isWord_19 rfl ?_
      refine z_iload_n (pc' := 23) C 2 dX9_isWord_22 rfl rfl rfl ?_
      refine z_iald (pc' := 24) C hf (zc_o (o := 4) h_a4 rfl) dX9_isWord_23 rfl (fun v_23 hf => ?_)
      refine z_bipush (pc' := 26) C dX9_isWord_24 zk_bipush_97 rfl ?_
      refine z_icmp_lt (pc' := 29) C 46 hf dX9_isWord_26 rfl rfl (fun g_26 hf => ?_) (fun g_26 hf => ?_)
      · exact w_X9_isWord_46 C n_a0 h_a4 hi_p1  hf
      · refine z_aload_n (pc' := 30) C 0 dX9_isWord_29 rfl rfl rfl ?_
        refine z_getf (pc' := 33) C zci_9 zw_1190 (j := 6) rfl (zc_i (o := 0) n_a0 rfl) rfl rfl dX9_isWord_30 rfl ?_
        refine z_iload_n (pc' := 34) C 2 dX9_isWord_33 rfl rfl rfl ?_
        refine z_iald (pc' := 35) C hf (zc_o (o := 4) h_a4 rfl) dX9_isWord_34 rfl (fun v_34 hf => ?_)
        refine z_bipush (pc' := 37) C dX9_isWord_35 zk_bipush_122 rfl ?_
        refine z_icmp_gt (pc' := 40) C 46 hf dX9_isWord_37 rfl rfl (fun g_37 hf => ?_) (fun g_37 hf => ?_)
        · exact w_X9_isWord_46 C n_a0 h_a4 hi_p1  hf
        · refine z_iinc (pc' := 43) C 2 [(2, .int (x2 + (1 : Int32))), (0, .ref (zo w + a)), (1, .ref (zsa w p1))] dX9_isWord_40 rfl zk_iconst_1 rfl rfl rfl ?_
          refine z_goto C 10 dX9_isWord_43 rfl ?_
          refine z_pick (lv' := [(0, .ref (zo w + a)), (1, .ref (zsa w p1)), (2, .int (x2 + (1 : Int32)))]) [1, 2, 0] rfl ?_
          exact ih hf
set_option maxRecDepth 20000 in
theorem c_X9_isWord {w : zV} {N : Nat} {h : zH} {a : Nat} {m_thrown : Int32} {m_next : Int32} {m_error : Int32} {m_place : Int32} {m_began : Int32} {m_nested : Int32} {m_once : Int32} {m_now : Int32} {m_undoable : Int32} {m_bytes : Int32} {m_errorAt : Int32} {m_size : Int32} {m_text : Nat → Int32} {p1 : Nat} (h_a0 : zc N h (a + 0) (.inr (9, [.int m_thrown, .ref (zo w + (a + 1)), .ref (zo w + (a + 2)), .ref (zo w + (a + 3)), .int m_now, .int m_undoable, .ref (zo w + (a + 4)), .int m_bytes, .int m_errorAt, .int m_size, .int m_next, .int m_error, .int m_place, .int m_began, .int m_nested, .int m_once, .ref (zo w + (a + 5))]))) (h_a4 : zc N h (a + 4) (.inl (w.2.2.1 0, 900, .inl m_text))) (hi_p1 : p1 < 25) {r : Int32 × Int32} (hf : f_X9_isWord m_size m_next m_text p1 = some r) : zM w yX9_isWord cX9_isWord 5 (some .boolean) (zr 4 150) false N N h [.ref (zo w + a), .ref (zsa w p1)] (some (.int r.1)) (zu h a [(0, .inr (9, [.int m_thrown, .ref (zo w + (a + 1)), .ref (zo w + (a + 2)), .ref (zo w + (a + 3)), .int m_now, .int m_undoable, .ref (zo w + (a + 4)), .int m_bytes, .int m_errorAt, .int m_size, .int r.2, .int m_error, .int m_place, .int m_began, .int m_nested, .int m_once, .ref (zo w + (a + 5))]))]) := by
  unfold f_X9_isWord at hf
  refine zM_of (by decide) rfl (fun X C _ => ?_)
  refine z_eq (h' := (zu h a [(0, .inr (9, [.int m_thrown, .ref (zo w + (a + 1)), .ref (zo w + (a + 2)), .ref (zo w + (a + 3)), .int m_now, .int m_undoable, .ref (zo w + (a + 4)), .int m_bytes, .int m_errorAt, .int m_size, .int m_next, .int m_error, .int m_place, .int m_began, .int m_nested, .int m_once, .ref (zo w + (a + 5))]))])) (zu_s h_a0 zu_0).symm ?_
  have n_a0 := h_a0.1
  refine z_pick (lv' := [(0, .ref (zo w + a)), (1, .ref (zsa w p1))]) [0, 1] rfl ?_
  refine z_aload_n (pc' := 1) C 0 dX9_isWord_0 rfl rfl rfl ?_
  refine z_cV (pc' := 4) C hf (As := []) (fun hq => c_X9_sees (a := a) (zc_i (o := 0) n_a0 rfl) (zc_o (o := 4) h_a4 rfl) hq) (fun q_1 => (zu h a [(0, .inr (9, [.int m_thrown, .ref (zo w + (a + 1)), .ref (zo w + (a + 2)), .ref (zo w + (a + 3)), .int m_now, .int m_undoable, .ref (zo w + (a + 4)), .int m_bytes, .int m_errorAt, .int m_size, .int q_1.2, .int m_error, .int m_place, .int m_began, .int m_nested, .int m_once, .ref (zo w + (a + 5))]))])) (fun q_1 => [.int q_1.1]) (fun _ => zu_sh (d := 0) rfl rfl) (fun _ => rfl) zy_X9_sees zw_1272 zw_1274 zv_28 (ci := 9) rfl (zc_i (o := 0) n_a0 rfl) ⟨rfl, rfl⟩ rfl rfl rfl rfl rfl dX9_isWord_1 rfl (fun q_1 hf => ?_)
  refine z_pop (pc' := 5) C dX9_isWord_4 rfl rfl ?_
  refine z_aload_n (pc' := 6) C 0 dX9_isWord_5 rfl rfl rfl ?_
  refine z_getf (pc' := 9) C zci_9 zw_1194 (j := 10) rfl (zc_i (o := 0) n_a0 rfl) rfl rfl dX9_isWord_6 rfl ?_
  refine z_istore_n (pc' := 10) C [(2, .int q_1.2), (0, .ref (zo w + a)), (1, .ref (zsa w p1))] dX9_isWord_9 rfl rfl rfl rfl ?_
  refine z_pick (lv' := [(0, .ref (zo w + a)), (1, .ref (zsa w p1)), (2, .int q_1.2)]) [1, 2, 0] rfl ?_
  exact w_X9_isWord_10 C n_a0 h_a4 hi_p1  FU hf
set_option maxRecDepth 20000 in
theorem c_X9_takes {w : zV} {N : Nat} {h : zH} {a : Nat} {m_thrown : Int32} {m_next : Int32} {m_error : Int32} {m_place : Int32} {m_began : Int32} {m_nested : Int32} {m_once : Int32} {m_now : Int32} {m_undoable : Int32} {m_bytes : Int32} {m_errorAt : Int32} {m_size : Int32} {m_text : Nat → Int32} {p1 : Nat} (h_a0 : zc N h (a + 0) (.inr (9, [.int m_thrown, .ref (zo w + (a + 1)), .ref (zo w + (a + 2)), .ref (zo w + (a + 3)), .int m_now, .int m_undoable, .ref (zo w + (a + 4)), .int m_bytes, .int m_errorAt, .int m_size, .int m_next, .int m_error, .int m_place, .int m_began, .int m_nested, .int m_once, .ref (zo w + (a + 5))]))) (h_a4 : zc N h (a + 4) (.inl (w.2.2.1 0, 900, .inl m_text))) (hi_p1 : p1 < 25) {r : Int32 × Int32} (hf : f_X9_takes m_size m_next m_error m_text p1 = some r) : zM w yX9_takes cX9_takes 2 (some .boolean) (zr 5 182) false N N h [.ref (zo w + a), .ref (zsa w p1)] (some (.int r.1)) (zu h a [(0, .inr (9, [.int m_thrown, .ref (zo w + (a + 1)), .ref (zo w + (a + 2)), .ref (zo w + (a + 3)), .int m_now, .int m_undoable, .ref (zo w + (a + 4)), .int m_bytes, .int m_errorAt, .int m_size, .int r.2, .int m_error, .int m_place, .int m_began, .int m_nested, .int m_once, .ref (zo w + (a + 5))]))]) := by
  unfold f_X9_takes at hf
  refine zM_of (by decide) rfl (fun X C _ => ?_)
  refine z_eq (h' := (zu h a [(0, .inr (9, [.int m_thrown, .ref (zo w + (a + 1)), .ref (zo w + (a + 2)), .ref (zo w + (a + 3)), .int m_now, .int m_undoable, .ref (zo w + (a + 4)), .int m_bytes, .int m_errorAt, .int m_size, .int m_next, .int m_error, .int m_place, .int m_began, .int m_nested, .int m_once, .ref (zo w + (a + 5))]))])) (zu_s h_a0 zu_0).symm ?_
  have n_a0 := h_a0.1
  refine z_pick (lv' := [(0, .ref (zo w + a)), (1, .ref (zsa w p1))]) [0, 1] rfl ?_
  refine z_aload_n (pc' := 1) C 0 dX9_takes_0 rfl rfl rfl ?_
  refine z_getf (pc' := 4) C zci_9 zw_1195 (j := 11) rfl (zc_i (o := 0) n_a0 rfl) rfl rfl dX9_takes_1 rfl ?_
  refine z_if_ne (pc' := 7) C 15 hf dX9_takes_4 rfl rfl (fun g_4 hf => ?_) (fun g_4 hf => ?_)
  · refine z_iconst (pc' := 16) C dX9_takes_15 zk_iconst_0 rfl ?_
    cases hf
    exact z_zret C zb_0 rfl rfl dX9_takes_16
  · refine z_aload_n (pc' := 8) C 0 dX9_takes_7 rfl rfl rfl ?_
    refine z_aload_n (pc' := 9) C 1 dX9_takes_8 rfl rfl rfl ?_
    refine z_cV (pc' := 12) C hf (As := [.ref (zsa w p1)]) (fun hq => c_X9_isWord (a := a) (zc_i (o := 0) n_a0 rfl) (zc_o (o := 4) h_a4 rfl) hi_p1 hq) (fun q_9 => (zu h a [(0, .inr (9, [.int m_thrown, .ref (zo w + (a + 1)), .ref (zo w + (a + 2)), .ref (zo w + (a + 3)), .int m_now, .int m_undoable, .ref (zo w + (a + 4)), .int m_bytes, .int m_errorAt, .int m_size, .int q_9.2, .int m_error, .int m_place, .int m_began, .int m_nested, .int m_once, .ref (zo w + (a + 5))]))])) (fun q_9 => [.int q_9.1]) (fun _ => zu_sh (d := 0) rfl rfl) (fun _ => rfl) zy_X9_isWord zw_1268 zw_1270 zv_27 (ci := 9) rfl (zc_i (o := 0) n_a0 rfl) ⟨rfl, rfl⟩ rfl rfl rfl rfl rfl dX9_takes_9 rfl (fun q_9 hf => ?_)
    refine z_if_ne (pc' := 15) C 17 hf dX9_takes_12 rfl rfl (fun g_12 hf => ?_) (fun g_12 hf => ?_)
    · refine z_aload_n (pc' := 18) C 0 dX9_takes_17 rfl rfl rfl ?_
      refine z_dup (pc' := 19) C dX9_takes_18 rfl rfl ?_
      refine z_getf (pc' := 22) C zci_9 zw_1194 (j := 10) rfl (zc_i (o := 0) n_a0 rfl) rfl rfl dX9_takes_19 rfl ?_
      refine z_aload_n (pc' := 23) C 1 dX9_takes_22 rfl rfl rfl ?_
      refine z_slen (pc' := 26) C hi_p1 zw_1276 rfl rfl rfl dX9_takes_23 rfl ?_
      refine z_iadd (pc' := 27) C dX9_takes_26 rfl ?_
      refine z_putf (pc' := 30) C zci_9 zw_1194 (j := 10) rfl (zc_i (o := 0) n_a0 rfl) (fs' := [.int m_thrown, .ref (zo w + (a + 1)), .ref (zo w + (a + 2)), .ref (zo w + (a + 3)), .int m_now, .int m_undoable, .ref (zo w + (a + 4)), .int m_bytes, .int m_errorAt, .int m_size, .int (q_9.2 + (f_len p1)), .int m_error, .int m_place, .int m_began, .int m_nested, .int m_once, .ref (zo w + (a + 5))]) rfl rfl rfl rfl rfl (zu_put (o := 0) (L' := [(0, .inr (9, [.int m_thrown, .ref (zo w + (a + 1)), .ref (zo w + (a + 2)), .ref (zo w + (a + 3)), .int m_now, .int m_undoable, .ref (zo w + (a + 4)), .int m_bytes, .int m_errorAt, .int m_size, .int (q_9.2 + (f_len p1)), .int m_error, .int m_place, .int m_began, .int m_nested, .int m_once, .ref (zo w + (a + 5))]))]) rfl) dX9_takes_27 rfl ?_
      refine z_iconst (pc' := 31) C dX9_takes_30 zk_iconst_1 rfl ?_
      cases hf
      exact z_zret C zb_1 rfl rfl dX9_takes_31
    · refine z_iconst (pc' := 16) C dX9_takes_15 zk_iconst_0 rfl ?_
      cases hf
      exact z_zret C zb_0 rfl rfl dX9_takes_16
set_option maxRecDepth 20000 in
theorem c_X9_needs {w : zV} {N : Nat} {h : zH} {a : Nat} {m_thrown : Int32} {m_next : Int32} {m_error : Int32} {m_place : Int32} {m_began : Int32} {m_nested : Int32} {m_once : Int32} {m_now : Int32} {m_undoable : Int32} {m_bytes : Int32} {m_errorAt : Int32} {m_size : Int32} {m_text : Nat → Int32} {p1 : Nat} (h_a0 : zc N h (a + 0) (.inr (9, [.int m_thrown, .ref (zo w + (a + 1)), .ref (zo w + (a + 2)), .ref (zo w + (a + 3)), .int m_now, .int m_undoable, .ref (zo w + (a + 4)), .int m_bytes, .int m_errorAt, .int m_size, .int m_next, .int m_error, .int m_place, .int m_began, .int m_nested, .int m_once, .ref (zo w + (a + 5))]))) (h_a4 : zc N h (a + 4) (.inl (w.2.2.1 0, 900, .inl m_text))) (hi_p1 : p1 < 25) {r : Int32 × Int32 × Int32} (hf : f_X9_needs m_size m_next m_error m_place m_text p1 = some r) : zM w yX9_needs cX9_needs 2 none (zr 6 211) false N N h [.ref (zo w + a), .ref (zsa w p1)] (none) (zu h a [(0, .inr (9, [.int m_thrown, .ref (zo w + (a + 1)), .ref (zo w + (a + 2)), .ref (zo w + (a + 3)), .int m_now, .int m_undoable, .ref (zo w + (a + 4)), .int m_bytes, .int m_errorAt, .int m_size, .int r.1, .int r.2.1, .int r.2.2, .int m_began, .int m_nested, .int m_once, .ref (zo w + (a + 5))]))]) := by
  unfold f_X9_needs at hf
  refine zM_of (by decide) rfl (fun X C _ => ?_)
  refine z_eq (h' := (zu h a [(0, .inr (9, [.int m_thrown, .ref (zo w + (a + 1)), .ref (zo w + (a + 2)), .ref (zo w + (a + 3)), .int m_now, .int m_undoable, .ref (zo w + (a + 4)), .int m_bytes, .int m_errorAt, .int m_size, .int m_next, .int m_error, .int m_place, .int m_began, .int m_nested, .int m_once, .ref (zo w + (a + 5))]))])) (zu_s h_a0 zu_0).symm ?_
  have n_a0 := h_a0.1
  refine z_pick (lv' := [(0, .ref (zo w + a)), (1, .ref (zsa w p1))]) [0, 1] rfl ?_
  refine z_aload_n (pc' := 1) C 0 dX9_needs_0 rfl rfl rfl ?_
  refine z_getf (pc' := 4) C zci_9 zw_1195 (j := 11) rfl (zc_i (o := 0) n_a0 rfl) rfl rfl dX9_needs_1 rfl ?_
  refine z_if_eq (pc' := 7) C 8 hf dX9_needs_4 rfl rfl (fun g_4 hf => ?_) (fun g_4 hf => ?_)
  · refine z_aload_n (pc' := 9) C 0 dX9_needs_8 rfl rfl rfl ?_
    refine z_aload_n (pc' := 10) C 1 dX9_needs_9 rfl rfl rfl ?_
    refine z_cV (pc' := 13) C hf (As := [.ref (zsa w p1)]) (fun hq => c_X9_takes (a := a) (zc_i (o := 0) n_a0 rfl) (zc_o (o := 4) h_a4 rfl) hi_p1 hq) (fun q_10 => (zu h a [(0, .inr (9, [.int m_thrown, .ref (zo w + (a + 1)), .ref (zo w + (a + 2)), .ref (zo w + (a + 3)), .int m_now, .int m_undoable, .ref (zo w + (a + 4)), .int m_bytes, .int m_errorAt, .int m_size, .int q_10.2, .int m_error, .int m_place, .int m_began, .int m_nested, .int m_once, .ref (zo w + (a + 5))]))])) (fun q_10 => [.int q_10.1]) (fun _ => zu_sh (d := 0) rfl rfl) (fun _ => rfl) zy_X9_takes zw_1264 zw_1266 zv_26 (ci := 9) rfl (zc_i (o := 0) n_a0 rfl) ⟨rfl, rfl⟩ rfl rfl rfl rfl rfl dX9_needs_10 rfl (fun q_10 hf => ?_)
    refine z_if_ne (pc' := 16) C 26 hf dX9_needs_13 rfl rfl (fun g_13 hf => ?_) (fun g_13 hf => ?_)
    · cases hf
      exact z_vret C rfl rfl dX9_needs_26
    · refine z_aload_n (pc' := 17) C 0 dX9_needs_16 rfl rfl rfl ?_
      refine z_bipush (pc' := 19) C dX9_needs_17 zk_bipush_m2 rfl ?_
      refine z_aload_n (pc' := 20) C 0 dX9_needs_19 rfl rfl rfl ?_
      refine z_getf (pc' := 23) C zci_9 zw_1194 (j := 10) rfl (zc_i (o := 0) n_a0 rfl) rfl rfl dX9_needs_20 rfl ?_
      refine z_cV (pc' := 26) C hf (As := [.int (-2 : Int32), .int q_10.2]) (fun hq => c_X9_fails (a := a) (zc_i (o := 0) n_a0 rfl) hq) (fun q_23 => (zu h a [(0, .inr (9, [.int m_thrown, .ref (zo w + (a + 1)), .ref (zo w + (a + 2)), .ref (zo w + (a + 3)), .int m_now, .int m_undoable, .ref (zo w + (a + 4)), .int m_bytes, .int m_errorAt, .int m_size, .int q_10.2, .int q_23.1, .int q_23.2, .int m_began, .int m_nested, .int m_once, .ref (zo w + (a + 5))]))])) (fun q_23 => []) (fun _ => zu_sh (d := 0) rfl rfl) (fun _ => rfl) zy_X9_fails zw_1278 zw_1280 zv_29 (ci := 9) rfl (zc_i (o := 0) n_a0 rfl) ⟨rfl, rfl⟩ rfl rfl rfl rfl rfl dX9_needs_23 rfl (fun q_23 hf => ?_)
      cases hf
      exact z_vret C rfl rfl dX9_needs_26
  · cases hf
    exact z_vret C rfl rfl dX9_needs_7
set_option maxRecDepth 20000 in
theorem c_X9_wants {w : zV} {N : Nat} {h : zH} {a : Nat} {m_thrown : Int32} {m_next : Int32} {m_error : Int32} {m_place : Int32} {m_began : Int32} {m_nested : Int32} {m_once : Int32} {m_now : Int32} {m_undoable : Int32} {m_bytes : Int32} {m_errorAt : Int32} {m_size : Int32} {m_text : Nat → Int32} {p1 : Int32} (h_a0 : zc N h (a + 0) (.inr (9, [.int m_thrown, .ref (zo w + (a + 1)), .ref (zo w + (a + 2)), .ref (zo w + (a + 3)), .int m_now, .int m_undoable, .ref (zo w + (a + 4)), .int m_bytes, .int m_errorAt, .int m_size, .int m_next, .int m_error, .int m_place, .int m_began, .int m_nested, .int m_once, .ref (zo w + (a + 5))]))) (h_a4 : zc N h (a + 4) (.inl (w.2.2.1 0, 900, .inl m_text))) {r : Int32 × Int32 × Int32} (hf : f_X9_wants m_size m_next m_error m_place m_text p1 = some r) : zM w yX9_wants cX9_wants 2 none (zr 1 30) false N N h [.ref (zo w + a), .int p1] (none) (zu h a [(0, .inr (9, [.int m_thrown, .ref (zo w + (a + 1)), .ref (zo w + (a + 2)), .ref (zo w + (a + 3)), .int m_now, .int m_undoable, .ref (zo w + (a + 4)), .int m_bytes, .int m_errorAt, .int m_size, .int r.1, .int r.2.1, .int r.2.2, .int m_began, .int m_nested, .int m_once, .ref (zo w + (a + 5))]))]) := by
  unfold f_X9_wants at hf
  refine zM_of (by decide) rfl (fun X C _ => ?_)
  refine z_eq (h' := (zu h a [(0, .inr (9, [.int m_thrown, .ref (zo w + (a + 1)), .ref (zo w + (a + 2)), .ref (zo w + (a + 3)), .int m_now, .int m_undoable, .ref (zo w + (a + 4)), .int m_bytes, .int m_errorAt, .int m_size, .int m_next, .int m_error, .int m_place, .int m_began, .int m_nested, .int m_once, .ref (zo w + (a + 5))]))])) (zu_s h_a0 zu_0).symm ?_
  have n_a0 := h_a0.1
  refine z_pick (lv' := [(0, .ref (zo w + a)), (1, .int p1)]) [0, 1] rfl ?_
  refine z_aload_n (pc' := 1) C 0 dX9_wants_0 rfl rfl rfl ?_
  refine z_getf (pc' := 4) C zci_9 zw_1195 (j := 11) rfl (zc_i (o := 0) n_a0 rfl) rfl rfl dX9_wants_1 rfl ?_
  refine z_if_eq (pc' := 7) C 8 hf dX9_wants_4 rfl rfl (fun g_4 hf => ?_) (fun g_4 hf => ?_)
  · refine z_aload_n (pc' := 9) C 0 dX9_wants_8 rfl rfl rfl ?_
    refine z_cV (pc' := 12) C hf (As := []) (fun hq => c_X9_sees (a := a) (zc_i (o := 0) n_a0 rfl) (zc_o (o := 4) h_a4 rfl) hq) (fun q_9 => (zu h a [(0, .inr (9, [.int m_thrown, .ref (zo w + (a + 1)), .ref (zo w + (a + 2)), .ref (zo w + (a + 3)), .int m_now, .int m_undoable, .ref (zo w + (a + 4)), .int m_bytes, .int m_errorAt, .int m_size, .int q_9.2, .int m_error, .int m_place, .int m_began, .int m_nested, .int m_once, .ref (zo w + (a + 5))]))])) (fun q_9 => [.int q_9.1]) (fun _ => zu_sh (d := 0) rfl rfl) (fun _ => rfl) zy_X9_sees zw_1272 zw_1274 zv_28 (ci := 9) rfl (zc_i (o := 0) n_a0 rfl) ⟨rfl, rfl⟩ rfl rfl rfl rfl rfl dX9_wants_9 rfl (fun q_9 hf => ?_)
    refine z_iload_n (pc' := 13) C 1 dX9_wants_12 rfl rfl rfl ?_
    refine z_icmp_eq (pc' := 16) C 29 hf dX9_wants_13 rfl rfl (fun g_13 hf => ?_) (fun g_13 hf => ?_)
    · refine z_aload_n (pc' := 30) C 0 dX9_wants_29 rfl rfl rfl ?_
      refine z_dup (pc' := 31) C dX9_wants_30 rfl rfl ?_
      refine z_getf (pc' := 34) C zci_9 zw_1194 (j := 10) rfl (zc_i (o := 0) n_a0 rfl) rfl rfl dX9_wants_31 rfl ?_
      refine z_iconst (pc' := 35) C dX9_wants_34 zk_iconst_1 rfl ?_
      refine z_iadd (pc' := 36) C dX9_wants_35 rfl ?_
      refine z_putf (pc' := 39) C zci_9 zw_1194 (j := 10) rfl (zc_i (o := 0) n_a0 rfl) (fs' := [.int m_thrown, .ref (zo w + (a + 1)), .ref (zo w + (a + 2)), .ref (zo w + (a + 3)), .int m_now, .int m_undoable, .ref (zo w + (a + 4)), .int m_bytes, .int m_errorAt, .int m_size, .int (q_9.2 + (1 : Int32)), .int m_error, .int m_place, .int m_began, .int m_nested, .int m_once, .ref (zo w + (a + 5))]) rfl rfl rfl rfl rfl (zu_put (o := 0) (L' := [(0, .inr (9, [.int m_thrown, .ref (zo w + (a + 1)), .ref (zo w + (a + 2)), .ref (zo w + (a + 3)), .int m_now, .int m_undoable, .ref (zo w + (a + 4)), .int m_bytes, .int m_errorAt, .int m_size, .int (q_9.2 + (1 : Int32)), .int m_error, .int m_place, .int m_began, .int m_nested, .int m_once, .ref (zo w + (a + 5))]))]) rfl) dX9_wants_36 rfl ?_
      cases hf
      exact z_vret C rfl rfl dX9_wants_39
    · refine z_aload_n (pc' := 17) C 0 dX9_wants_16 rfl rfl rfl ?_
      refine z_bipush (pc' := 19) C dX9_wants_17 zk_bipush_m2 rfl ?_
      refine z_aload_n (pc' := 20) C 0 dX9_wants_19 rfl rfl rfl ?_
      refine z_getf (pc' := 23) C zci_9 zw_1194 (j := 10) rfl (zc_i (o := 0) n_a0 rfl) rfl rfl dX9_wants_20 rfl ?_
      refine z_cV (pc' := 26) C hf (As := [.int (-2 : Int32), .int q_9.2]) (fun hq => c_X9_fails (a := a) (zc_i (o := 0) n_a0 rfl) hq) (fun q_23 => (zu h a [(0, .inr (9, [.int m_thrown, .ref (zo w + (a + 1)), .ref (zo w + (a + 2)), .ref (zo w + (a + 3)), .int m_now, .int m_undoable, .ref (zo w + (a + 4)), .int m_bytes, .int m_errorAt, .int m_size, .int q_9.2, .int q_23.1, .int q_23.2, .int m_began, .int m_nested, .int m_once, .ref (zo w + (a + 5))]))])) (fun q_23 => []) (fun _ => zu_sh (d := 0) rfl rfl) (fun _ => rfl) zy_X9_fails zw_1278 zw_1280 zv_29 (ci := 9) rfl (zc_i (o := 0) n_a0 rfl) ⟨rfl, rfl⟩ rfl rfl rfl rfl rfl dX9_wants_23 rfl (fun q_23 hf => ?_)
      refine z_goto C 39 dX9_wants_26 rfl ?_
      cases hf
      exact z_vret C rfl rfl dX9_wants_39
  · cases hf
    exact z_vret C rfl rfl dX9_wants_7
set_option maxRecDepth 20000 in
theorem c_X9_isDigit {w : zV} {N : Nat} {h : zH} {a : Nat} {m_thrown : Int32} {m_next : Int32} {m_error : Int32} {m_place : Int32} {m_began : Int32} {m_nested : Int32} {m_once : Int32} {m_now : Int32} {m_undoable : Int32} {m_bytes : Int32} {m_errorAt : Int32} {m_size : Int32} {m_text : Nat → Int32} (h_a0 : zc N h (a + 0) (.inr (9, [.int m_thrown, .ref (zo w + (a + 1)), .ref (zo w + (a + 2)), .ref (zo w + (a + 3)), .int m_now, .int m_undoable, .ref (zo w + (a + 4)), .int m_bytes, .int m_errorAt, .int m_size, .int m_next, .int m_error, .int m_place, .int m_began, .int m_nested, .int m_once, .ref (zo w + (a + 5))]))) (h_a4 : zc N h (a + 4) (.inl (w.2.2.1 0, 900, .inl m_text))) {r : Int32 × Int32} (hf : f_X9_isDigit m_size m_next m_text = some r) : zM w yX9_isDigit cX9_isDigit 1 (some .boolean) (zr 1 28) false N N h [.ref (zo w + a)] (some (.int r.1)) (zu h a [(0, .inr (9, [.int m_thrown, .ref (zo w + (a + 1)), .ref (zo w + (a + 2)), .ref (zo w + (a + 3)), .int m_now, .int m_undoable, .ref (zo w + (a + 4)), .int m_bytes, .int m_errorAt, .int m_size, .int r.2, .int m_error, .int m_place, .int m_began, .int m_nested, .int m_once, .ref (zo w + (a + 5))]))]) := by
  unfold f_X9_isDigit at hf
  refine zM_of (by decide) rfl (fun X C _ => ?_)
  refine z_eq (h' := (zu h a [(0, .inr (9, [.int m_thrown, .ref (zo w + (a + 1)), .ref (zo w + (a + 2)), .ref (zo w + (a + 3)), .int m_now, .int m_undoable, .ref (zo w + (a + 4)), .int m_bytes, .int m_errorAt, .int m_size, .int m_next, .int m_error, .int m_place, .int m_began, .int m_nested, .int m_once, .ref (zo w + (a + 5))]))])) (zu_s h_a0 zu_0).symm ?_
  have n_a0 := h_a0.1
  refine z_pick (lv' := [(0, .ref (zo w + a))]) [0] rfl ?_
  refine z_aload_n (pc' := 1) C 0 dX9_isDigit_0 rfl rfl rfl ?_
  refine z_cV (pc' := 4) C hf (As := []) (fun hq => c_X9_sees (a := a) (zc_i (o := 0) n_a0 rfl) (zc_o (o := 4) h_a4 rfl) hq) (fun q_1 => (zu h a [(0, .inr (9, [.int m_thrown, .ref (zo w + (a + 1)), .ref (zo w + (a + 2)), .ref (zo w + (a + 3)), .int m_now, .int m_undoable, .ref (zo w + (a + 4)), .int m_bytes, .int m_errorAt, .int m_size, .int q_1.2, .int m_error, .int m_place, .int m_began, .int m_nested, .int m_once, .ref (zo w + (a + 5))]))])) (fun q_1 => [.int q_1.1]) (fun _ => zu_sh (d := 0) rfl rfl) (fun _ => rfl) zy_X9_sees zw_1272 zw_1274 zv_28 (ci := 9) rfl (zc_i (o := 0) n_a0 rfl) ⟨rfl, rfl⟩ rfl rfl rfl rfl rfl dX9_isDigit_1 rfl (fun q_1 hf => ?_)
  refine z_bipush (pc' := 6) C dX9_isDigit_4 zk_bipush_48 rfl ?_
  refine z_icmp_lt (pc' := 9) C 22 hf dX9_isDigit_6 rfl rfl (fun g_6 hf => ?_) (fun g_6 hf => ?_)
  · refine z_iconst (pc' := 23) C dX9_isDigit_22 zk_iconst_0 rfl ?_
    cases hf
    exact z_zret C zb_0 rfl rfl dX9_isDigit_23
  · refine z_aload_n (pc' := 10) C 0 dX9_isDigit_9 rfl rfl rfl ?_
    refine z_cV (pc' := 13) C hf (As := []) (fun hq => c_X9_sees (a := a) (zc_i (o := 0) n_a0 rfl) (zc_o (o := 4) h_a4 rfl) hq) (fun q_10 => (zu h a [(0, .inr (9, [.int m_thrown, .ref (zo w + (a + 1)), .ref (zo w + (a + 2)), .ref (zo w + (a + 3)), .int m_now, .int m_undoable, .ref (zo w + (a + 4)), .int m_bytes, .int m_errorAt, .int m_size, .int q_10.2, .int m_error, .int m_place, .int m_began, .int m_nested, .int m_once, .ref (zo w + (a + 5))]))])) (fun q_10 => [.int q_10.1]) (fun _ => zu_sh (d := 0) rfl rfl) (fun _ => rfl) zy_X9_sees zw_1272 zw_1274 zv_28 (ci := 9) rfl (zc_i (o := 0) n_a0 rfl) ⟨rfl, rfl⟩ rfl rfl rfl rfl rfl dX9_isDigit_10 rfl (fun q_10 hf => ?_)
    refine z_bipush (pc' := 15) C dX9_isDigit_13 zk_bipush_57 rfl ?_
    refine z_icmp_gt (pc' := 18) C 22 hf dX9_isDigit_15 rfl rfl (fun g_15 hf => ?_) (fun g_15 hf => ?_)
    · refine z_iconst (pc' := 23) C dX9_isDigit_22 zk_iconst_0 rfl ?_
      cases hf
      exact z_zret C zb_0 rfl rfl dX9_isDigit_23
    · refine z_iconst (pc' := 19) C dX9_isDigit_18 zk_iconst_1 rfl ?_
      refine z_goto C 23 dX9_isDigit_19 rfl ?_
      cases hf
      exact z_zret C zb_1 rfl rfl dX9_isDigit_23
set_option maxRecDepth 20000 in
theorem w_X9_reads_135 {X : zC} {w : zV} {N : Nat} {h : zH} {a : Nat} {m_thrown : Int32} {m_nested : Int32} {m_once : Int32} {m_now : Int32} {m_undoable : Int32} {m_bytes : Int32} {m_errorAt : Int32} {m_size : Int32} {m_text : Nat → Int32} (C : zK X w RX9 cX9_reads 4 (some .int) (zr 2 56)) (n_a0 : a + 0 < N) (h_a4 : zc N h (a + 4) (.inl (w.2.2.1 0, 900, .inl m_text))) {r : Int32 × Int32 × Int32 × Int32 × Int32} {m_next : Int32} {m_error : Int32} {m_place : Int32} {m_began : Int32} {x3 : Int32} (hf : f_X9_reads_135  m_next m_error m_place m_began x3 = some r) : zZ X w (zQ X w (zr 2 56) (some (.int r.1)) false N (zu h a [(0, .inr (9, [.int m_thrown, .ref (zo w + (a + 1)), .ref (zo w + (a + 2)), .ref (zo w + (a + 3)), .int m_now, .int m_undoable, .ref (zo w + (a + 4)), .int m_bytes, .int m_errorAt, .int m_size, .int r.2.1, .int r.2.2.1, .int r.2.2.2.1, .int r.2.2.2.2, .int m_nested, .int m_once, .ref (zo w + (a + 5))]))])) 0 0 false N (zu h a [(0, .inr (9, [.int m_thrown, .ref (zo w + (a + 1)), .ref (zo w + (a + 2)), .ref (zo w + (a + 3)), .int m_now, .int m_undoable, .ref (zo w + (a + 4)), .int m_bytes, .int m_errorAt, .int m_size, .int m_next, .int m_error, .int m_place, .int m_began, .int m_nested, .int m_once, .ref (zo w + (a + 5))]))]) 135 [(0, .ref (zo w + a)), (3, .int x3)] [] := by
  unfold f_X9_reads_135 at hf
  refine z_aload_n (pc' := 136) C 0 dX9_reads_135 rfl rfl rfl ?_
  refine z_getf (pc' := 139) C zci_9 zw_1195 (j := 11) rfl (zc_i (o := 0) n_a0 rfl) rfl rfl dX9_reads_136 rfl ?_
  refine z_if_ne (pc' := 142) C 146 hf dX9_reads_139 rfl rfl (fun g_139 hf => ?_) (fun g_139 hf => ?_)
  · refine z_iconst (pc' := 147) C dX9_reads_146 zk_iconst_0 rfl ?_
    cases hf
    exact z_iret C rfl rfl dX9_reads_147
  · refine z_iload_n (pc' := 143) C 1 dX9_reads_142 rfl rfl rfl ?_
    refine z_goto C 147 dX9_reads_143 rfl ?_
    cases hf
    exact z_iret C rfl rfl dX9_reads_147
set_option maxRecDepth 20000 in
theorem w_X9_reads_113 {X : zC} {w : zV} {N : Nat} {h : zH} {a : Nat} {m_thrown : Int32} {m_nested : Int32} {m_once : Int32} {m_now : Int32} {m_undoable : Int32} {m_bytes : Int32} {m_errorAt : Int32} {m_size : Int32} {m_text : Nat → Int32} (C : zK X w RX9 cX9_reads 4 (some .int) (zr 2 56)) (n_a0 : a + 0 < N) (h_a4 : zc N h (a + 4) (.inl (w.2.2.1 0, 900, .inl m_text))) {r : Int32 × Int32 × Int32 × Int32 × Int32} {m_next : Int32} {m_error : Int32} {m_place : Int32} {m_began : Int32} {x1 : Int32} {x2 : Int32} {x3 : Int32} (hf : f_X9_reads_113  m_next m_error m_place m_began x1 x2 x3 = some r) : zZ X w (zQ X w (zr 2 56) (some (.int r.1)) false N (zu h a [(0, .inr (9, [.int m_thrown, .ref (zo w + (a + 1)), .ref (zo w + (a + 2)), .ref (zo w + (a + 3)), .int m_now, .int m_undoable, .ref (zo w + (a + 4)), .int m_bytes, .int m_errorAt, .int m_size, .int r.2.1, .int r.2.2.1, .int r.2.2.2.1, .int r.2.2.2.2, .int m_nested, .int m_once, .ref (zo w + (a + 5))]))])) 0 0 false N (zu h a [(0, .inr (9, [.int m_thrown, .ref (zo w + (a + 1)), .ref (zo w + (a + 2)), .ref (zo w + (a + 3)), .int m_now, .int m_undoable, .ref (zo w + (a + 4)), .int m_bytes, .int m_errorAt, .int m_size, .int m_next, .int m_error, .int m_place, .int m_began, .int m_nested, .int m_once, .ref (zo w + (a + 5))]))]) 113 [(0, .ref (zo w + a)), (1, .int x1), (2, .int x2), (3, .int x3)] [] := by
  unfold f_X9_reads_113 at hf
  refine z_iload_n (pc' := 114) C 3 dX9_reads_113 rfl rfl rfl ?_
  refine z_i2l (pc' := 115) C dX9_reads_114 rfl ?_
  refine z_iload_n (pc' := 116) C 1 dX9_reads_115 rfl rfl rfl ?_
  refine z_i2l (pc' := 117) C dX9_reads_116 rfl ?_
  refine z_iload_n (pc' := 118) C 2 dX9_reads_117 rfl rfl rfl ?_
  refine z_i2l (pc' := 119) C dX9_reads_118 rfl ?_
  refine z_cS (pc' := 122) C hf (As := [.long (x3).toInt64, .long (x1).toInt64, .long (x2).toInt64]) (fun hq => c_X9_isIn  hq) (fun _ => (zu h a [(0, .inr (9, [.int m_thrown, .ref (zo w + (a + 1)), .ref (zo w + (a + 2)), .ref (zo w + (a + 3)), .int m_now, .int m_undoable, .ref (zo w + (a + 4)), .int m_bytes, .int m_errorAt, .int m_size, .int m_next, .int m_error, .int m_place, .int m_began, .int m_nested, .int m_once, .ref (zo w + (a + 5))]))])) (fun q_119 => [.int q_119]) (fun _ => rfl) (fun _ => rfl) zy_X9_isIn zw_1248 zw_1249 ⟨rfl, rfl⟩ rfl rfl rfl rfl rfl dX9_reads_119 rfl (fun q_119 hf => ?_)
  refine z_if_ne (pc' := 125) C 135 hf dX9_reads_122 rfl rfl (fun g_122 hf => ?_) (fun g_122 hf => ?_)
  · refine z_pick (lv' := [(0, .ref (zo w + a)), (3, .int x3)]) [0, 3] rfl ?_
    exact w_X9_reads_135 C n_a0 h_a4  hf
  · refine z_aload_n (pc' := 126) C 0 dX9_reads_125 rfl rfl rfl ?_
    refine z_bipush (pc' := 128) C dX9_reads_126 zk_bipush_m3 rfl ?_
    refine z_aload_n (pc' := 129) C 0 dX9_reads_128 rfl rfl rfl ?_
    refine z_getf (pc' := 132) C zci_9 zw_1197 (j := 13) rfl (zc_i (o := 0) n_a0 rfl) rfl rfl dX9_reads_129 rfl ?_
    refine z_cV (pc' := 135) C hf (As := [.int (-3 : Int32), .int m_began]) (fun hq => c_X9_fails (a := a) (zc_i (o := 0) n_a0 rfl) hq) (fun q_132 => (zu h a [(0, .inr (9, [.int m_thrown, .ref (zo w + (a + 1)), .ref (zo w + (a + 2)), .ref (zo w + (a + 3)), .int m_now, .int m_undoable, .ref (zo w + (a + 4)), .int m_bytes, .int m_errorAt, .int m_size, .int m_next, .int q_132.1, .int q_132.2, .int m_began, .int m_nested, .int m_once, .ref (zo w + (a + 5))]))])) (fun q_132 => []) (fun _ => zu_sh (d := 0) rfl rfl) (fun _ => rfl) zy_X9_fails zw_1278 zw_1280 zv_29 (ci := 9) rfl (zc_i (o := 0) n_a0 rfl) ⟨rfl, rfl⟩ rfl rfl rfl rfl rfl dX9_reads_132 rfl (fun q_132 hf => ?_)
    refine z_pick (lv' := [(0, .ref (zo w + a)), (3, .int x3)]) [0, 3] rfl ?_
    exact w_X9_reads_135 C n_a0 h_a4  hf
set_option maxRecDepth 20000 in
theorem w_X9_reads_38 {X : zC} {w : zV} {N : Nat} {h : zH} {a : Nat} {m_thrown : Int32} {m_nested : Int32} {m_once : Int32} {m_now : Int32} {m_undoable : Int32} {m_bytes : Int32} {m_errorAt : Int32} {m_size : Int32} {m_text : Nat → Int32} (C : zK X w RX9 cX9_reads 4 (some .int) (zr 2 56)) (n_a0 : a + 0 < N) (h_a4 : zc N h (a + 4) (.inl (w.2.2.1 0, 900, .inl m_text))) {r : Int32 × Int32 × Int32 × Int32 × Int32} (n : Nat) : ∀ {m_next : Int32} {m_error : Int32} {m_place : Int32} {m_began : Int32} {x1 : Int32} {x2 : Int32} {x3 : Int32}, f_X9_reads_38  n m_size m_next m_error m_place m_began m_text x1 x2 x3 = some r → zZ X w (zQ X w (zr 2 56) (some (.int r.1)) false N (zu h a [(0, .inr (9, [.int m_thrown, .ref (zo w + (a + 1)), .ref (zo w + (a + 2)), .ref (zo w + (a + 3)), .int m_now, .int m_undoable, .ref (zo w + (a + 4)), .int m_bytes, .int m_errorAt, .int m_size, .int r.2.1, .int r.2.2.1, .int r.2.2.2.1, .int r.2.2.2.2, .int m_nested, .int m_once, .ref (zo w + (a + 5))]))])) 0 0 false N (zu h a [(0, .inr (9, [.int m_thrown, .ref (zo w + (a + 1)), .ref (zo w + (a + 2)), .ref (zo w + (a + 3)), .int m_now, .int m_undoable, .ref (zo w + (a + 4)), .int m_bytes, .int m_errorAt, .int m_size, .int m_next, .int m_error, .int m_place, .int m_began, .int m_nested, .int m_once, .ref (zo w + (a + 5))]))]) 38 [(0, .ref (zo w + a)), (1, .int x1), (2, .int x2), (3, .int x3)] [] := by
  induction n with
  | zero =>
    intro m_next m_error m_place m_began x1 x2 x3 hf
    have hf : (none : Option (Int32 × Int32 × Int32 × Int32 × Int32)) = some r := hf
    cases hf
  | succ z ih =>
    intro m_next m_error m_place m_began x1 x2 x3 hf
    rw [f_X9_reads_38] at hf
    refine z_aload_n (pc' := 39) C 0 dX9_reads_38 rfl rfl rfl ?_
    refine z_getf (pc' := 42) C zci_9 zw_1194 (j := 10) rfl (zc_i (o := 0) n_a0 rfl) rfl rfl dX9_reads_39 rfl ?_
    refine z_aload_n (pc' := 43) C 0 dX9_reads_42 rfl rfl rfl ?_
    refine z_getf (pc' := 46) C zci_9 zw_1193 (j := 9) rfl (zc_i (o := 0) n_a0 rfl) rfl rfl dX9_reads_43 rfl ?_
    refine z_icmp_ge (pc' := 49) C 113 hf dX9_reads_46 rfl rfl (fun g_46 hf => ?_) (fun g_46 hf => ?_)
    · exact w_X9_reads_113 C n_a0 h_a4  hf
    · refine z_aload_n (pc' := 50) C 0 dX9_reads_49 rfl rfl rfl ?_
      refine z_getf (pc' := 53) C zci_9 zw_1190 (j := 6) rfl (zc_i (o := 0) n_a0 rfl) rfl rfl dX9_reads_50 rfl ?_
      refine z_aload_n (pc' := 54) C 0 dX9_reads_53 rfl rfl rfl ?_
      refine z_getf (pc' := 57) C zci_9 zw_1194 (j := 10) rfl (zc_i (o := 0) n_a0 rfl) rfl rfl dX9_reads_54 rfl ?_
      refine z_iald (pc' := 58) C hf (zc_o (o := 4) h_a4 rfl) dX9_reads_57 rfl (fun v_57 hf => ?_)
      refine z_bipush (pc' := 60) C dX9_reads_58 zk_bipush_48 rfl ?_
      refine z_icmp_lt (pc' := 63) C 113 hf dX9_reads_60 rfl rfl (fun g_60 hf => ?_) (fun g_60 hf => ?_)
      · exact w_X9_reads_113 C n_a0 h_a4  hf
      · refine z_aload_n (pc' := 64) C 0 dX9_reads_63 rfl rfl rfl ?_
        refine z_getf (pc' := 67) C zci_9 zw_1190 (j := 6) rfl (zc_i (o := 0) n_a0 rfl) rfl rfl dX9_reads_64 rfl ?_
        refine z_aload_n (pc' := 68) C 0 dX9_reads_67 rfl rfl rfl ?_
        refine z_getf (pc' := 71) C zci_9 zw_1194 (j := 10) rfl (zc_i (o := 0) n_a0 rfl) rfl rfl dX9_reads_68 rfl ?_
        refine z_iald (pc' := 72) C hf (zc_o (o := 4) h_a4 rfl) dX9_reads_71 rfl (fun v_71 hf => ?_)
        refine z_bipush (pc' := 74) C dX9_reads_72 zk_bipush_57 rfl ?_
        refine z_icmp_gt (pc' := 77) C 113 hf dX9_reads_74 rfl rfl (fun g_74 hf => ?_) (fun g_74 hf => ?_)
        · exact w_X9_reads_113 C n_a0 h_a4  hf
        · refine z_ldc (pc' := 79) C zw_1291 dX9_reads_77 rfl ?_
          refine z_bipush (pc' := 81) C dX9_reads_79 zk_bipush_10 rfl ?_
          refine z_iload_n (pc' := 82) C 3 dX9_reads_81 rfl rfl rfl ?_
          refine z_imul (pc' := 83) C dX9_reads_82 rfl ?_
          refine z_aload_n (pc' := 84) C 0 dX9_reads_83 rfl rfl rfl ?_
          refine z_getf (pc' := 87) C zci_9 zw_1190 (j := 6) rfl (zc_i (o := 0) n_a0 rfl) rfl rfl dX9_reads_84 rfl ?_
          refine z_aload_n (pc' := 88) C 0 dX9_reads_87 rfl rfl rfl ?_
          refine z_getf (pc' := 91) C zci_9 zw_1194 (j := 10) rfl (zc_i (o := 0) n_a0 rfl) rfl rfl dX9_reads_88 rfl ?_
          refine z_iald (pc' := 92) C hf (zc_o (o := 4) h_a4 rfl) dX9_reads_91 rfl (fun v_91 hf => ?_)
          refine z_iadd (pc' := 93) C dX9_reads_92 rfl ?_
          refine z_bipush (pc' := 95) C dX9_reads_93 zk_bipush_48 rfl ?_
          refine z_isub (pc' := 96) C dX9_reads_95 rfl ?_
          refine z_imin (pc' := 99) C zw_1292 rfl rfl dX9_reads_96 rfl ?_
          refine z_istore_n (pc' := 100) C [(3, .int (if ((((10 : Int32) * x3) + v_91) - (48 : Int32)) < (100000000 : Int32) then ((((10 : Int32) * x3) + v_91) - (48 : Int32)) else (100000000 : Int32))), (0, .ref (zo w + a)), (1, .int x1), (2, .int x2)] dX9_reads_99 rfl rfl rfl rfl ?_
          refine z_aload_n (pc' := 101) C 1 dX9_reads_100 rfl rfl rfl ?_
          refine z_dup (pc' := 102) C dX9_reads_101 rfl rfl ?_
          refine z_getf (pc' := 105) C zci_9 zw_1194 (j := 10) rfl (zc_i (o := 0) n_a0 rfl) rfl rfl dX9_reads_102 rfl ?_
          refine z_iconst (pc' := 106) C dX9_reads_105 zk_iconst_1 rfl ?_
          refine z_iadd (pc' := 107) C dX9_reads_106 rfl ?_
          refine z_putf (pc' := 110) C zci_9 zw_1194 (j := 10) rfl (zc_i (o := 0) n_a0 rfl) (fs' := [.int m_thrown, .ref (zo w + (a + 1)), .ref (zo w + (a + 2)), .ref (zo w + (a + 3)), .int m_now, .int m_undoable, .ref (zo w + (a + 4)), .int m_bytes, .int m_errorAt, .int m_size, .int (m_next + (1 : Int32)), .int m_error, .int m_place, .int m_began, .int m_nested, .int m_once, .ref (zo w + (a + 5))]) rfl rfl rfl rfl rfl (zu_put (o := 0) (L' := [(0, .inr (9, [.int m_thrown, .ref (zo w + (a + 1)), .ref (zo w + (a + 2)), .ref (zo w + (a + 3)), .int m_now, .int m_undoable, .ref (zo w + (a + 4)), .int m_bytes, .int m_errorAt, .int m_size, .int (m_next + (1 : Int32)), .int m_error, .int m_place, .int m_began, .int m_nested, .int m_once, .ref (zo w + (a + 5))]))]) rfl) dX9_reads_107 rfl ?_
          refine z_goto C 38 dX9_reads_110 rfl ?_
          refine z_pick (lv' := [(0, .ref (zo w + a)), (1, .int x1), (2, .int x2), (3, .int (if ((((10 : Int32) * x3) + v_91) - (48 : Int32)) < (100000000 : Int32) then ((((10 : Int32) * x3) + v_91) - (48 : Int32)) else (100000000 : Int32)))]) [1, 2, 3, 0] rfl ?_
          exact ih hf
set_option maxRecDepth 20000 in
theorem c_X9_reads {w : zV} {N : Nat} {h : zH} {a : Nat} {m_thrown : Int32} {m_next : Int32} {m_error : Int32} {m_place : Int32} {m_began : Int32} {m_nested : Int32} {m_once : Int32} {m_now : Int32} {m_undoable : Int32} {m_bytes : Int32} {m_errorAt : Int32} {m_size : Int32} {m_text : Nat → Int32} {p1 : Int32} {p2 : Int32} (h_a0 : zc N h (a + 0) (.inr (9, [.int m_thrown, .ref (zo w + (a + 1)), .ref (zo w + (a + 2)), .ref (zo w + (a + 3)), .int m_now, .int m_undoable, .ref (zo w + (a + 4)), .int m_bytes, .int m_errorAt, .int m_size, .int m_next, .int m_error, .int m_place, .int m_began, .int m_nested, .int m_once, .ref (zo w + (a + 5))]))) (h_a4 : zc N h (a + 4) (.inl (w.2.2.1 0, 900, .inl m_text))) {r : Int32 × Int32 × Int32 × Int32 × Int32} (hf : f_X9_reads m_size m_next m_error m_place m_began m_text p1 p2 = some r) : zM w yX9_reads cX9_reads 4 (some .int) (zr 2 56) false N N h [.ref (zo w + a), .int p1, .int p2] (some (.int r.1)) (zu h a [(0, .inr (9, [.int m_thrown, .ref (zo w + (a + 1)), .ref (zo w + (a + 2)), .ref (zo w + (a + 3)), .int m_now, .int m_undoable, .ref (zo w + (a + 4)), .int m_bytes, .int m_errorAt, .int m_size, .int r.2.1, .int r.2.2.1, .int r.2.2.2.1, .int r.2.2.2.2, .int m_nested, .int m_once, .ref (zo w + (a + 5))]))]) := by
  unfold f_X9_reads at hf
  refine zM_of (by decide) rfl (fun X C _ => ?_)
  refine z_eq (h' := (zu h a [(0, .inr (9, [.int m_thrown, .ref (zo w + (a + 1)), .ref (zo w + (a + 2)), .ref (zo w + (a + 3)), .int m_now, .int m_undoable, .ref (zo w + (a + 4)), .int m_bytes, .int m_errorAt, .int m_size, .int m_next, .int m_error, .int m_place, .int m_began, .int m_nested, .int m_once, .ref (zo w + (a + 5))]))])) (zu_s h_a0 zu_0).symm ?_
  have n_a0 := h_a0.1
  refine z_pick (lv' := [(0, .ref (zo w + a)), (1, .int p1), (2, .int p2)]) [0, 1, 2] rfl ?_
  refine z_aload_n (pc' := 1) C 0 dX9_reads_0 rfl rfl rfl ?_
  refine z_getf (pc' := 4) C zci_9 zw_1195 (j := 11) rfl (zc_i (o := 0) n_a0 rfl) rfl rfl dX9_reads_1 rfl ?_
  refine z_if_eq (pc' := 7) C 9 hf dX9_reads_4 rfl rfl (fun g_4 hf => ?_) (fun g_4 hf => ?_)
  · refine z_aload_n (pc' := 10) C 0 dX9_reads_9 rfl rfl rfl ?_
    refine z_cV (pc' := 13) C hf (As := []) (fun hq => c_X9_isDigit (a := a) (zc_i (o := 0) n_a0 rfl) (zc_o (o := 4) h_a4 rfl) hq) (fun q_10 => (zu h a [(0, .inr (9, [.int m_thrown, .ref (zo w + (a + 1)), .ref (zo w + (a + 2)), .ref (zo w + (a + 3)), .int m_now, .int m_undoable, .ref (zo w + (a + 4)), .int m_bytes, .int m_errorAt, .int m_size, .int q_10.2, .int m_error, .int m_place, .int m_began, .int m_nested, .int m_once, .ref (zo w + (a + 5))]))])) (fun q_10 => [.int q_10.1]) (fun _ => zu_sh (d := 0) rfl rfl) (fun _ => rfl) zy_X9_isDigit zw_1287 zw_1289 zv_31 (ci := 9) rfl (zc_i (o := 0) n_a0 rfl) ⟨rfl, rfl⟩ rfl rfl rfl rfl rfl dX9_reads_10 rfl (fun q_10 hf => ?_)
    refine z_if_ne (pc' := 16) C 28 hf dX9_reads_13 rfl rfl (fun g_13 hf => ?_) (fun g_13 hf => ?_)
    · refine z_aload_n (pc' := 29) C 0 dX9_reads_28 rfl rfl rfl ?_
      refine z_aload_n (pc' := 30) C 0 dX9_reads_29 rfl rfl rfl ?_
      refine z_getf (pc' := 33) C zci_9 zw_1194 (j := 10) rfl (zc_i (o := 0) n_a0 rfl) rfl rfl dX9_reads_30 rfl ?_
      refine z_putf (pc' := 36) C zci_9 zw_1197 (j := 13) rfl (zc_i (o := 0) n_a0 rfl) (fs' := [.int m_thrown, .ref (zo w + (a + 1)), .ref (zo w + (a + 2)), .ref (zo w + (a + 3)), .int m_now, .int m_undoable, .ref (zo w + (a + 4)), .int m_bytes, .int m_errorAt, .int m_size, .int q_10.2, .int m_error, .int m_place, .int q_10.2, .int m_nested, .int m_once, .ref (zo w + (a + 5))]) rfl rfl rfl rfl rfl (zu_put (o := 0) (L' := [(0, .inr (9, [.int m_thrown, .ref (zo w + (a + 1)), .ref (zo w + (a + 2)), .ref (zo w + (a + 3)), .int m_now, .int m_undoable, .ref (zo w + (a + 4)), .int m_bytes, .int m_errorAt, .int m_size, .int q_10.2, .int m_error, .int m_place, .int q_10.2, .int m_nested, .int m_once, .ref (zo w + (a + 5))]))]) rfl) dX9_reads_33 rfl ?_
      refine z_iconst (pc' := 37) C dX9_reads_36 zk_iconst_0 rfl ?_
      refine z_istore_n (pc' := 38) C [(3, .int (0 : Int32)), (0, .ref (zo w + a)), (1, .int p1), (2, .int p2)] dX9_reads_37 rfl rfl rfl rfl ?_
      refine z_pick (lv' := [(0, .ref (zo w + a)), (1, .int p1), (2, .int p2), (3, .int (0 : Int32))]) [1, 2, 3, 0] rfl ?_
      exact w_X9_reads_38 C n_a0 h_a4  FU hf
    · refine z_aload_n (pc' := 17) C 0 dX9_reads_16 rfl rfl rfl ?_
      refine z_bipush (pc' := 19) C dX9_reads_17 zk_bipush_m2 rfl ?_
      refine z_aload_n (pc' := 20) C 0 dX9_reads_19 rfl rfl rfl ?_
      refine z_getf (pc' := 23) C zci_9 zw_1194 (j := 10) rfl (zc_i (o := 0) n_a0 rfl) rfl rfl dX9_reads_20 rfl ?_
      refine z_cV (pc' := 26) C hf (As := [.int (-2 : Int32), .int q_10.2]) (fun hq => c_X9_fails (a := a) (zc_i (o := 0) n_a0 rfl) hq) (fun q_23 => (zu h a [(0, .inr (9, [.int m_thrown, .ref (zo w + (a + 1)), .ref (zo w + (a + 2)), .ref (zo w + (a + 3)), .int m_now, .int m_undoable, .ref (zo w + (a + 4)), .int m_bytes, .int m_errorAt, .int m_size, .int q_10.2, .int q_23.1, .int q_23.2, .int m_began, .int m_nested, .int m_once, .ref (zo w + (a + 5))]))])) (fun q_23 => []) (fun _ => zu_sh (d := 0) rfl rfl) (fun _ => rfl) zy_X9_fails zw_1278 zw_1280 zv_29 (ci := 9) rfl (zc_i (o := 0) n_a0 rfl) ⟨rfl, rfl⟩ rfl rfl rfl rfl rfl dX9_reads_23 rfl (fun q_23 hf => ?_)
      refine z_iconst (pc' := 27) C dX9_reads_26 zk_iconst_0 rfl ?_
      cases hf
      exact z_iret C rfl rfl dX9_reads_27
  · refine z_iconst (pc' := 8) C dX9_reads_7 zk_iconst_0 rfl ?_
    cases hf
    exact z_iret C rfl rfl dX9_reads_8
set_option maxRecDepth 20000 in
theorem c_X9_codes {w : zV} {N : Nat} {h : zH} {a : Nat} {m_thrown : Int32} {m_next : Int32} {m_error : Int32} {m_place : Int32} {m_began : Int32} {m_nested : Int32} {m_once : Int32} {m_now : Int32} {m_undoable : Int32} {m_bytes : Int32} {m_errorAt : Int32} {m_size : Int32} {m_read : Nat → Int64} {p1 : Int32} {p2 : Int32} (h_a0 : zc N h (a + 0) (.inr (9, [.int m_thrown, .ref (zo w + (a + 1)), .ref (zo w + (a + 2)), .ref (zo w + (a + 3)), .int m_now, .int m_undoable, .ref (zo w + (a + 4)), .int m_bytes, .int m_errorAt, .int m_size, .int m_next, .int m_error, .int m_place, .int m_began, .int m_nested, .int m_once, .ref (zo w + (a + 5))]))) (h_a2 : zc N h (a + 2) (.inl (w.2.2.1 1, 2500, .inr (.inl m_read)))) {r : (Nat → Int64)} (hf : f_X9_codes m_error m_read p1 p2 = some r) : zM w yX9_codes cX9_codes 3 none (zr 0 0) false N N h [.ref (zo w + a), .int p1, .int p2] (none) (zu h a [(2, .inl (w.2.2.1 1, 2500, .inr (.inl r)))]) := by
  unfold f_X9_codes at hf
  refine zM_of (by decide) rfl (fun X C _ => ?_)
  refine z_eq (h' := (zu h a [(2, .inl (w.2.2.1 1, 2500, .inr (.inl m_read)))])) (zu_s h_a2 zu_0).symm ?_
  have n_a2 := h_a2.1
  refine z_pick (lv' := [(0, .ref (zo w + a)), (1, .int p1), (2, .int p2)]) [0, 1, 2] rfl ?_
  refine z_aload_n (pc' := 1) C 0 dX9_codes_0 rfl rfl rfl ?_
  refine z_getf (pc' := 4) C zci_9 zw_1195 (j := 11) rfl (zc_o (o := 0) h_a0 rfl) rfl rfl dX9_codes_1 rfl ?_
  refine z_if_eq (pc' := 7) C 8 hf dX9_codes_4 rfl rfl (fun g_4 hf => ?_) (fun g_4 hf => ?_)
  · refine z_aload_n (pc' := 9) C 0 dX9_codes_8 rfl rfl rfl ?_
    refine z_getf (pc' := 12) C zci_9 zw_1186 (j := 2) rfl (zc_o (o := 0) h_a0 rfl) rfl rfl dX9_codes_9 rfl ?_
    refine z_sipush (pc' := 15) C dX9_codes_12 zk_sipush_600 rfl ?_
    refine z_aload_n (pc' := 16) C 0 dX9_codes_15 rfl rfl rfl ?_
    refine z_getf (pc' := 19) C zci_9 zw_1186 (j := 2) rfl (zc_o (o := 0) h_a0 rfl) rfl rfl dX9_codes_16 rfl ?_
    refine z_iconst (pc' := 20) C dX9_codes_19 zk_iconst_3 rfl ?_
    refine z_lald (pc' := 21) C hf (zc_i (o := 2) n_a2 rfl) dX9_codes_20 rfl (fun v_20 hf => ?_)
    refine z_l2i (pc' := 22) C dX9_codes_21 rfl ?_
    refine z_iadd (pc' := 23) C dX9_codes_22 rfl ?_
    refine z_iload_n (pc' := 24) C 1 dX9_codes_23 rfl rfl rfl ?_
    refine z_i2l (pc' := 25) C dX9_codes_24 rfl ?_
    refine z_last (pc' := 26) C hf (zc_i (o := 2) n_a2 rfl) (h' := fun v_25 => (zu h a [(2, .inl (w.2.2.1 1, 2500, .inr (.inl v_25)))])) (fun _ => zu_put (o := 2) rfl) dX9_codes_25 rfl (fun v_25 hf => ?_)
    refine z_aload_n (pc' := 27) C 0 dX9_codes_26 rfl rfl rfl ?_
    refine z_getf (pc' := 30) C zci_9 zw_1186 (j := 2) rfl (zc_o (o := 0) h_a0 rfl) rfl rfl dX9_codes_27 rfl ?_
    refine z_sipush (pc' := 33) C dX9_codes_30 zk_sipush_600 rfl ?_
    refine z_aload_n (pc' := 34) C 0 dX9_codes_33 rfl rfl rfl ?_
    refine z_getf (pc' := 37) C zci_9 zw_1186 (j := 2) rfl (zc_o (o := 0) h_a0 rfl) rfl rfl dX9_codes_34 rfl ?_
    refine z_iconst (pc' := 38) C dX9_codes_37 zk_iconst_3 rfl ?_
    refine z_lald (pc' := 39) C hf (zc_i (o := 2) n_a2 rfl) dX9_codes_38 rfl (fun v_38 hf => ?_)
    refine z_l2i (pc' := 40) C dX9_codes_39 rfl ?_
    refine z_iadd (pc' := 41) C dX9_codes_40 rfl ?_
    refine z_iconst (pc' := 42) C dX9_codes_41 zk_iconst_1 rfl ?_
    refine z_iadd (pc' := 43) C dX9_codes_42 rfl ?_
    refine z_iload_n (pc' := 44) C 2 dX9_codes_43 rfl rfl rfl ?_
    refine z_i2l (pc' := 45) C dX9_codes_44 rfl ?_
    refine z_last (pc' := 46) C hf (zc_i (o := 2) n_a2 rfl) (h' := fun v_45 => (zu h a [(2, .inl (w.2.2.1 1, 2500, .inr (.inl v_45)))])) (fun _ => zu_put (o := 2) rfl) dX9_codes_45 rfl (fun v_45 hf => ?_)
    refine z_aload_n (pc' := 47) C 0 dX9_codes_46 rfl rfl rfl ?_
    refine z_getf (pc' := 50) C zci_9 zw_1186 (j := 2) rfl (zc_o (o := 0) h_a0 rfl) rfl rfl dX9_codes_47 rfl ?_
    refine z_iconst (pc' := 51) C dX9_codes_50 zk_iconst_3 rfl ?_
    refine z_dup2 (pc' := 52) C dX9_codes_51 rfl rfl rfl ?_
    refine z_lald (pc' := 53) C hf (zc_i (o := 2) n_a2 rfl) dX9_codes_52 rfl (fun v_52 hf => ?_)
    refine z_ldc2 (pc' := 56) C zw_1341 dX9_codes_53 rfl ?_
    refine z_ladd (pc' := 57) C dX9_codes_56 rfl ?_
    refine z_last (pc' := 58) C hf (zc_i (o := 2) n_a2 rfl) (h' := fun v_57 => (zu h a [(2, .inl (w.2.2.1 1, 2500, .inr (.inl v_57)))])) (fun _ => zu_put (o := 2) rfl) dX9_codes_57 rfl (fun v_57 hf => ?_)
    cases hf
    exact z_vret C rfl rfl dX9_codes_58
  · cases hf
    exact z_vret C rfl rfl dX9_codes_7
set_option maxRecDepth 20000 in
theorem w_X9_sum_29 {X : zC} {w : zV} {N : Nat} {h : zH} {a : Nat} {d : Nat} {R : Nat → Int32 → Int32 → Int32 → Int32 → Int32 → Int32 → (Nat → Int64) → (Nat → Int32) → Option (Int32 × Int32 × Int32 × Int32 × Int32 × (Nat → Int64))} {m_thrown : Int32} {m_once : Int32} {m_now : Int32} {m_undoable : Int32} {m_bytes : Int32} {m_errorAt : Int32} {m_size : Int32} {m_text : Nat → Int32} (C : zK X w RX9 cX9_sum 2 none (zrd (d + 1))) (n_a0 : a + 0 < N) (n_a2 : a + 2 < N) (h_a4 : zc N h (a + 4) (.inl (w.2.2.1 0, 900, .inl m_text))) (hR0 : ∀ {h : zH} {a : Nat} {m_thrown : Int32} {m_next : Int32} {m_error : Int32} {m_place : Int32} {m_began : Int32} {m_nested : Int32} {m_once : Int32} {m_now : Int32} {m_undoable : Int32} {m_bytes : Int32} {m_errorAt : Int32} {m_size : Int32} {m_read : Nat → Int64} {m_text : Nat → Int32} {r : Int32 × Int32 × Int32 × Int32 × Int32 × (Nat → Int64)}, zc N h (a + 0) (.inr (9, [.int m_thrown, .ref (zo w + (a + 1)), .ref (zo w + (a + 2)), .ref (zo w + (a + 3)), .int m_now, .int m_undoable, .ref (zo w + (a + 4)), .int m_bytes, .int m_errorAt, .int m_size, .int m_next, .int m_error, .int m_place, .int m_began, .int m_nested, .int m_once, .ref (zo w + (a + 5))])) → zc N h (a + 2) (.inl (w.2.2.1 1, 2500, .inr (.inl m_read))) → zc N h (a + 4) (.inl (w.2.2.1 0, 900, .inl m_text)) → R 0 m_size m_next m_error m_place m_began m_nested m_read m_text = some r → zM w yX9_sum cX9_sum 2 none (zrd d) false N N h [.ref (zo w + a)] (none) (zu h a [(0, .inr (9, [.int m_thrown, .ref (zo w + (a + 1)), .ref (zo w + (a + 2)), .ref (zo w + (a + 3)), .int m_now, .int m_undoable, .ref (zo w + (a + 4)), .int m_bytes, .int m_errorAt, .int m_size, .int r.1, .int r.2.1, .int r.2.2.1, .int r.2.2.2.1, .int r.2.2.2.2.1, .int m_once, .ref (zo w + (a + 5))])), (2, .inl (w.2.2.1 1, 2500, .inr (.inl r.2.2.2.2.2)))])) (hR1 : ∀ {h : zH} {a : Nat} {m_thrown : Int32} {m_next : Int32} {m_error : Int32} {m_place : Int32} {m_began : Int32} {m_nested : Int32} {m_once : Int32} {m_now : Int32} {m_undoable : Int32} {m_bytes : Int32} {m_errorAt : Int32} {m_size : Int32} {m_read : Nat → Int64} {m_text : Nat → Int32} {r : Int32 × Int32 × Int32 × Int32 × Int32 × (Nat → Int64)}, zc N h (a + 0) (.inr (9, [.int m_thrown, .ref (zo w + (a + 1)), .ref (zo w + (a + 2)), .ref (zo w + (a + 3)), .int m_now, .int m_undoable, .ref (zo w + (a + 4)), .int m_bytes, .int m_errorAt, .int m_size, .int m_next, .int m_error, .int m_place, .int m_began, .int m_nested, .int m_once, .ref (zo w + (a + 5))])) → zc N h (a + 2) (.inl (w.2.2.1 1, 2500, .inr (.inl m_read))) → zc N h (a + 4) (.inl (w.2.2.1 0, 900, .inl m_text)) → R 1 m_size m_next m_error m_place m_began m_nested m_read m_text = some r → zM w yX9_term cX9_term 2 none (zrd d) false N N h [.ref (zo w + a)] (none) (zu h a [(0, .inr (9, [.int m_thrown, .ref (zo w + (a + 1)), .ref (zo w + (a + 2)), .ref (zo w + (a + 3)), .int m_now, .int m_undoable, .ref (zo w + (a + 4)), .int m_bytes, .int m_errorAt, .int m_size, .int r.1, .int r.2.1, .int r.2.2.1, .int r.2.2.2.1, .int r.2.2.2.2.1, .int m_once, .ref (zo w + (a + 5))])), (2, .inl (w.2.2.1 1, 2500, .inr (.inl r.2.2.2.2.2)))])) (hR2 : ∀ {h : zH} {a : Nat} {m_thrown : Int32} {m_next : Int32} {m_error : Int32} {m_place : Int32} {m_began : Int32} {m_nested : Int32} {m_once : Int32} {m_now : Int32} {m_undoable : Int32} {m_bytes : Int32} {m_errorAt : Int32} {m_size : Int32} {m_read : Nat → Int64} {m_text : Nat → Int32} {r : Int32 × Int32 × Int32 × Int32 × Int32 × (Nat → Int64)}, zc N h (a + 0) (.inr (9, [.int m_thrown, .ref (zo w + (a + 1)), .ref (zo w + (a + 2)), .ref (zo w + (a + 3)), .int m_now, .int m_undoable, .ref (zo w + (a + 4)), .int m_bytes, .int m_errorAt, .int m_size, .int m_next, .int m_error, .int m_place, .int m_began, .int m_nested, .int m_once, .ref (zo w + (a + 5))])) → zc N h (a + 2) (.inl (w.2.2.1 1, 2500, .inr (.inl m_read))) → zc N h (a + 4) (.inl (w.2.2.1 0, 900, .inl m_text)) → R 2 m_size m_next m_error m_place m_began m_nested m_read m_text = some r → zM w yX9_factor cX9_factor 1 none (zrd d) false N N h [.ref (zo w + a)] (none) (zu h a [(0, .inr (9, [.int m_thrown, .ref (zo w + (a + 1)), .ref (zo w + (a + 2)), .ref (zo w + (a + 3)), .int m_now, .int m_undoable, .ref (zo w + (a + 4)), .int m_bytes, .int m_errorAt, .int m_size, .int r.1, .int r.2.1, .int r.2.2.1, .int r.2.2.2.1, .int r.2.2.2.2.1, .int m_once, .ref (zo w + (a + 5))])), (2, .inl (w.2.2.1 1, 2500, .inr (.inl r.2.2.2.2.2)))])) {r : Int32 × Int32 × Int32 × Int32 × Int32 × (Nat → Int64)} {k4 : Int32 → Int32 → Int32 → Int32 → Int32 → Int32 → (Nat → Int64) → (Nat → Int32) → Option (Int32 × Int32 × Int32 × Int32 × Int32 × (Nat → Int64))} (hk4 : ∀ {m_next : Int32} {m_error : Int32} {m_place : Int32} {m_began : Int32} {m_nested : Int32} {m_read : Nat → Int64}, k4 m_size m_next m_error m_place m_began m_nested m_read m_text = some r → zZ X w (zQ X w (zrd (d + 1)) (none) false N (zu h a [(0, .inr (9, [.int m_thrown, .ref (zo w + (a + 1)), .ref (zo w + (a + 2)), .ref (zo w + (a + 3)), .int m_now, .int m_undoable, .ref (zo w + (a + 4)), .int m_bytes, .int m_errorAt, .int m_size, .int r.1, .int r.2.1, .int r.2.2.1, .int r.2.2.2.1, .int r.2.2.2.2.1, .int m_once, .ref (zo w + (a + 5))])), (2, .inl (w.2.2.1 1, 2500, .inr (.inl r.2.2.2.2.2)))])) 0 0 false N (zu h a [(0, .inr (9, [.int m_thrown, .ref (zo w + (a + 1)), .ref (zo w + (a + 2)), .ref (zo w + (a + 3)), .int m_now, .int m_undoable, .ref (zo w + (a + 4)), .int m_bytes, .int m_errorAt, .int m_size, .int m_next, .int m_error, .int m_place, .int m_began, .int m_nested, .int m_once, .ref (zo w + (a + 5))])), (2, .inl (w.2.2.1 1, 2500, .inr (.inl m_read)))]) 4 [(0, .ref (zo w + a))] []) {m_next : Int32} {m_error : Int32} {m_place : Int32} {m_began : Int32} {m_nested : Int32} {m_read : Nat → Int64} (hf : f_X9_sum_29 R k4 m_size m_next m_error m_place m_began m_nested m_read m_text = some r) : zZ X w (zQ X w (zrd (d + 1)) (none) false N (zu h a [(0, .inr (9, [.int m_thrown, .ref (zo w + (a + 1)), .ref (zo w + (a + 2)), .ref (zo w + (a + 3)), .int m_now, .int m_undoable, .ref (zo w + (a + 4)), .int m_bytes, .int m_errorAt, .int m_size, .int r.1, .int r.2.1, .int r.2.2.1, .int r.2.2.2.1, .int r.2.2.2.2.1, .int m_once, .ref (zo w + (a + 5))])), (2, .inl (w.2.2.1 1, 2500, .inr (.inl r.2.2.2.2.2)))])) 0 0 false N (zu h a [(0, .inr (9, [.int m_thrown, .ref (zo w + (a + 1)), .ref (zo w + (a + 2)), .ref (zo w + (a + 3)), .int m_now, .int m_undoable, .ref (zo w + (a + 4)), .int m_bytes, .int m_errorAt, .int m_size, .int m_next, .int m_error, .int m_place, .int m_began, .int m_nested, .int m_once, .ref (zo w + (a + 5))])), (2, .inl (w.2.2.1 1, 2500, .inr (.inl m_read)))]) 29 [(0, .ref (zo w + a))] [] := by
  unfold f_X9_sum_29 at hf
  refine z_aload_n (pc' := 30) C 0 dX9_sum_29 rfl rfl rfl ?_
  refine z_getf (pc' := 33) C zci_9 zw_1190 (j := 6) rfl (zc_i (o := 0) n_a0 rfl) rfl rfl dX9_sum_30 rfl ?_
  refine z_aload_n (pc' := 34) C 0 dX9_sum_33 rfl rfl rfl ?_
  refine z_getf (pc' := 37) C zci_9 zw_1194 (j := 10) rfl (zc_i (o := 0) n_a0 rfl) rfl rfl dX9_sum_34 rfl ?_
  refine z_iald (pc' := 38) C hf (zc_o (o := 4) h_a4 rfl) dX9_sum_37 rfl (fun v_37 hf => ?_)
  refine z_istore_n (pc' := 39) C [(1, .int v_37), (0, .ref (zo w + a))] dX9_sum_38 rfl rfl rfl rfl ?_
  refine z_aload_n (pc' := 40) C 1 dX9_sum_39 rfl rfl rfl ?_
  refine z_dup (pc' := 41) C dX9_sum_40 rfl rfl ?_
  refine z_getf (pc' := 44) C zci_9 zw_1194 (j := 10) rfl (zc_i (o := 0) n_a0 rfl) rfl rfl dX9_sum_41 rfl ?_
  refine z_iconst (pc' := 45) C dX9_sum_44 zk_iconst_1 rfl ?_
  refine z_iadd (pc' := 46) C dX9_sum_45 rfl ?_
  refine z_putf (pc' := 49) C zci_9 zw_1194 (j := 10) rfl (zc_i (o := 0) n_a0 rfl) (fs' := [.int m_thrown, .ref (zo w + (a + 1)), .ref (zo w + (a + 2)), .ref (zo w + (a + 3)), .int m_now, .int m_undoable, .ref (zo w + (a + 4)), .int m_bytes, .int m_errorAt, .int m_size, .int (m_next + (1 : Int32)), .int m_error, .int m_place, .int m_began, .int m_nested, .int m_once, .ref (zo w + (a + 5))]) rfl rfl rfl rfl rfl (zu_put (o := 0) (L' := [(0, .inr (9, [.int m_thrown, .ref (zo w + (a + 1)), .ref (zo w + (a + 2)), .ref (zo w + (a + 3)), .int m_now, .int m_undoable, .ref (zo w + (a + 4)), .int m_bytes, .int m_errorAt, .int m_size, .int (m_next + (1 : Int32)), .int m_error, .int m_place, .int m_began, .int m_nested, .int m_once, .ref (zo w + (a + 5))])), (2, .inl (w.2.2.1 1, 2500, .inr (.inl m_read)))]) rfl) dX9_sum_46 rfl ?_
  refine z_aload_n (pc' := 50) C 1 dX9_sum_49 rfl rfl rfl ?_
  refine z_cV (pc' := 53) C hf (As := []) (fun hq => hR1 (a := a) (zc_i (o := 0) n_a0 rfl) (zc_i (o := 2) n_a2 rfl) (zc_o (o := 4) h_a4 rfl) hq) (fun q_50 => (zu h a [(0, .inr (9, [.int m_thrown, .ref (zo w + (a + 1)), .ref (zo w + (a + 2)), .ref (zo w + (a + 3)), .int m_now, .int m_undoable, .ref (zo w + (a + 4)), .int m_bytes, .int m_errorAt, .int m_size, .int q_50.1, .int q_50.2.1, .int q_50.2.2.1, .int q_50.2.2.2.1, .int q_50.2.2.2.2.1, .int m_once, .ref (zo w + (a + 5))])), (2, .inl (w.2.2.1 1, 2500, .inr (.inl q_50.2.2.2.2.2)))])) (fun q_50 => []) (fun _ => zu_sh (d := 0) rfl rfl) (fun _ => rfl) zy_X9_term zw_1329 zw_1331 zv_39 (ci := 9) rfl (zc_i (o := 0) n_a0 rfl) ⟨rfl, rfl⟩ zRm_r rfl rfl rfl rfl dX9_sum_50 rfl (fun q_50 hf => ?_)
  refine z_aload_n (pc' := 54) C 1 dX9_sum_53 rfl rfl rfl ?_
  refine z_iload_n (pc' := 55) C 0 dX9_sum_54 rfl rfl rfl ?_
  refine z_iconst (pc' := 56) C dX9_sum_55 zk_iconst_0 rfl ?_
  refine z_cV (pc' := 59) C hf (As := [.int v_37, .int (0 : Int32)]) (fun hq => c_X9_codes (a := a) (zc_i (o := 0) n_a0 rfl) (zc_i (o := 2) n_a2 rfl) hq) (fun q_56 => (zu h a [(0, .inr (9, [.int m_thrown, .ref (zo w + (a + 1)), .ref (zo w + (a + 2)), .ref (zo w + (a + 3)), .int m_now, .int m_undoable, .ref (zo w + (a + 4)), .int m_bytes, .int m_errorAt, .int m_size, .int q_50.1, .int q_50.2.1, .int q_50.2.2.1, .int q_50.2.2.2.1, .int q_50.2.2.2.2.1, .int m_once, .ref (zo w + (a + 5))])), (2, .inl (w.2.2.1 1, 2500, .inr (.inl q_56)))])) (fun q_56 => []) (fun _ => zu_sh (d := 0) rfl rfl) (fun _ => rfl) zy_X9_codes zw_1337 zw_1339 zv_41 (ci := 9) rfl (zc_i (o := 0) n_a0 rfl) ⟨rfl, rfl⟩ (zRm_c rfl) rfl rfl rfl rfl dX9_sum_56 rfl (fun q_56 hf => ?_)
  refine z_goto C 4 dX9_sum_59 rfl ?_
  refine z_pick (lv' := [(0, .ref (zo w + a))]) [1] rfl ?_
  exact hk4 hf
set_option maxRecDepth 20000 in
theorem w_X9_sum_4 {X : zC} {w : zV} {N : Nat} {h : zH} {a : Nat} {d : Nat} {R : Nat → Int32 → Int32 → Int32 → Int32 → Int32 → Int32 → (Nat → Int64) → (Nat → Int32) → Option (Int32 × Int32 × Int32 × Int32 × Int32 × (Nat → Int64))} {m_thrown : Int32} {m_once : Int32} {m_now : Int32} {m_undoable : Int32} {m_bytes : Int32} {m_errorAt : Int32} {m_size : Int32} {m_text : Nat → Int32} (C : zK X w RX9 cX9_sum 2 none (zrd (d + 1))) (n_a0 : a + 0 < N) (n_a2 : a + 2 < N) (h_a4 : zc N h (a + 4) (.inl (w.2.2.1 0, 900, .inl m_text))) (hR0 : ∀ {h : zH} {a : Nat} {m_thrown : Int32} {m_next : Int32} {m_error : Int32} {m_place : Int32} {m_began : Int32} {m_nested : Int32} {m_once : Int32} {m_now : Int32} {m_undoable : Int32} {m_bytes : Int32} {m_errorAt : Int32} {m_size : Int32} {m_read : Nat → Int64} {m_text : Nat → Int32} {r : Int32 × Int32 × Int32 × Int32 × Int32 × (Nat → Int64)}, zc N h (a + 0) (.inr (9, [.int m_thrown, .ref (zo w + (a + 1)), .ref (zo w + (a + 2)), .ref (zo w + (a + 3)), .int m_now, .int m_undoable, .ref (zo w + (a + 4)), .int m_bytes, .int m_errorAt, .int m_size, .int m_next, .int m_error, .int m_place, .int m_began, .int m_nested, .int m_once, .ref (zo w + (a + 5))])) → zc N h (a + 2) (.inl (w.2.2.1 1, 2500, .inr (.inl m_read))) → zc N h (a + 4) (.inl (w.2.2.1 0, 900, .inl m_text)) → R 0 m_size m_next m_error m_place m_began m_nested m_read m_text = some r → zM w yX9_sum cX9_sum 2 none (zrd d) false N N h [.ref (zo w + a)] (none) (zu h a [(0, .inr (9, [.int m_thrown, .ref (zo w + (a + 1)), .ref (zo w + (a + 2)), .ref (zo w + (a + 3)), .int m_now, .int m_undoable, .ref (zo w + (a + 4)), .int m_bytes, .int m_errorAt, .int m_size, .int r.1, .int r.2.1, .int r.2.2.1, .int r.2.2.2.1, .int r.2.2.2.2.1, .int m_once, .ref (zo w + (a + 5))])), (2, .inl (w.2.2.1 1, 2500, .inr (.inl r.2.2.2.2.2)))])) (hR1 : ∀ {h : zH} {a : Nat} {m_thrown : Int32} {m_next : Int32} {m_error : Int32} {m_place : Int32} {m_began : Int32} {m_nested : Int32} {m_once : Int32} {m_now : Int32} {m_undoable : Int32} {m_bytes : Int32} {m_errorAt : Int32} {m_size : Int32} {m_read : Nat → Int64} {m_text : Nat → Int32} {r : Int32 × Int32 × Int32 × Int32 × Int32 × (Nat → Int64)}, zc N h (a + 0) (.inr (9, [.int m_thrown, .ref (zo w + (a + 1)), .ref (zo w + (a + 2)), .ref (zo w + (a + 3)), .int m_now, .int m_undoable, .ref (zo w + (a + 4)), .int m_bytes, .int m_errorAt, .int m_size, .int m_next, .int m_error, .int m_place, .int m_began, .int m_nested, .int m_once, .ref (zo w + (a + 5))])) → zc N h (a + 2) (.inl (w.2.2.1 1, 2500, .inr (.inl m_read))) → zc N h (a + 4) (.inl (w.2.2.1 0, 900, .inl m_text)) → R 1 m_size m_next m_error m_place m_began m_nested m_read m_text = some r → zM w yX9_term cX9_term 2 none (zrd d) false N N h [.ref (zo w + a)] (none) (zu h a [(0, .inr (9, [.int m_thrown, .ref (zo w + (a + 1)), .ref (zo w + (a + 2)), .ref (zo w + (a + 3)), .int m_now, .int m_undoable, .ref (zo w + (a + 4)), .int m_bytes, .int m_errorAt, .int m_size, .int r.1, .int r.2.1, .int r.2.2.1, .int r.2.2.2.1, .int r.2.2.2.2.1, .int m_once, .ref (zo w + (a + 5))])), (2, .inl (w.2.2.1 1, 2500, .inr (.inl r.2.2.2.2.2)))])) (hR2 : ∀ {h : zH} {a : Nat} {m_thrown : Int32} {m_next : Int32} {m_error : Int32} {m_place : Int32} {m_began : Int32} {m_nested : Int32} {m_once : Int32} {m_now : Int32} {m_undoable : Int32} {m_bytes : Int32} {m_errorAt : Int32} {m_size : Int32} {m_read : Nat → Int64} {m_text : Nat → Int32} {r : Int32 × Int32 × Int32 × Int32 × Int32 × (Nat → Int64)}, zc N h (a + 0) (.inr (9, [.int m_thrown, .ref (zo w + (a + 1)), .ref (zo w + (a + 2)), .ref (zo w + (a + 3)), .int m_now, .int m_undoable, .ref (zo w + (a + 4)), .int m_bytes, .int m_errorAt, .int m_size, .int m_next, .int m_error, .int m_place, .int m_began, .int m_nested, .int m_once, .ref (zo w + (a + 5))])) → zc N h (a + 2) (.inl (w.2.2.1 1, 2500, .inr (.inl m_read))) → zc N h (a + 4) (.inl (w.2.2.1 0, 900, .inl m_text)) → R 2 m_size m_next m_error m_place m_began m_nested m_read m_text = some r → zM w yX9_factor cX9_factor 1 none (zrd d) false N N h [.ref (zo w + a)] (none) (zu h a [(0, .inr (9, [.int m_thrown, .ref (zo w + (a + 1)), .ref (zo w + (a + 2)), .ref (zo w + (a + 3)), .int m_now, .int m_undoable, .ref (zo w + (a + 4)), .int m_bytes, .int m_errorAt, .int m_size, .int r.1, .int r.2.1, .int r.2.2.1, .int r.2.2.2.1, .int r.2.2.2.2.1, .int m_once, .ref (zo w + (a + 5))])), (2, .inl (w.2.2.1 1, 2500, .inr (.inl r.2.2.2.2.2)))])) {r : Int32 × Int32 × Int32 × Int32 × Int32 × (Nat → Int64)} (n : Nat) : ∀ {m_next : Int32} {m_error : Int32} {m_place : Int32} {m_began : Int32} {m_nested : Int32} {m_read : Nat → Int64}, f_X9_sum_4 R  n m_size m_next m_error m_place m_began m_nested m_read m_text = some r → zZ X w (zQ X w (zrd (d + 1)) (none) false N (zu h a [(0, .inr (9, [.int m_thrown, .ref (zo w + (a + 1)), .ref (zo w + (a + 2)), .ref (zo w + (a + 3)), .int m_now, .int m_undoable, .ref (zo w + (a + 4)), .int m_bytes, .int m_errorAt, .int m_size, .int r.1, .int r.2.1, .int r.2.2.1, .int r.2.2.2.1, .int r.2.2.2.2.1, .int m_once, .ref (zo w + (a + 5))])), (2, .inl (w.2.2.1 1, 2500, .inr (.inl r.2.2.2.2.2)))])) 0 0 false N (zu h a [(0, .inr (9, [.int m_thrown, .ref (zo w + (a + 1)), .ref (zo w + (a + 2)), .ref (zo w + (a + 3)), .int m_now, .int m_undoable, .ref (zo w + (a + 4)), .int m_bytes, .int m_errorAt, .int m_size, .int m_next, .int m_error, .int m_place, .int m_began, .int m_nested, .int m_once, .ref (zo w + (a + 5))])), (2, .inl (w.2.2.1 1, 2500, .inr (.inl m_read)))]) 4 [(0, .ref (zo w + a))] [] := by
  induction n with
  | zero =>
    intro m_next m_error m_place m_began m_nested m_read hf
    have hf : (none : Option (Int32 × Int32 × Int32 × Int32 × Int32 × (Nat → Int64))) = some r := hf
    cases hf
  | succ z ih =>
    intro m_next m_error m_place m_began m_nested m_read hf
    rw [f_X9_sum_4] at hf
    refine z_aload_n (pc' := 5) C 0 dX9_sum_4 rfl rfl rfl ?_
    refine z_getf (pc' := 8) C zci_9 zw_1195 (j := 11) rfl (zc_i (o := 0) n_a0 rfl) rfl rfl dX9_sum_5 rfl ?_
    refine z_if_ne (pc' := 11) C 62 hf dX9_sum_8 rfl rfl (fun g_8 hf => ?_) (fun g_8 hf => ?_)
    · cases hf
      exact z_vret C rfl rfl dX9_sum_62
    · refine z_aload_n (pc' := 12) C 0 dX9_sum_11 rfl rfl rfl ?_
      refine z_cV (pc' := 15) C hf (As := []) (fun hq => c_X9_sees (a := a) (zc_i (o := 0) n_a0 rfl) (zc_o (o := 4) h_a4 rfl) hq) (fun q_12 => (zu h a [(0, .inr (9, [.int m_thrown, .ref (zo w + (a + 1)), .ref (zo w + (a + 2)), .ref (zo w + (a + 3)), .int m_now, .int m_undoable, .ref (zo w + (a + 4)), .int m_bytes, .int m_errorAt, .int m_size, .int q_12.2, .int m_error, .int m_place, .int m_began, .int m_nested, .int m_once, .ref (zo w + (a + 5))])), (2, .inl (w.2.2.1 1, 2500, .inr (.inl m_read)))])) (fun q_12 => [.int q_12.1]) (fun _ => zu_sh (d := 0) rfl rfl) (fun _ => rfl) zy_X9_sees zw_1272 zw_1274 zv_28 (ci := 9) rfl (zc_i (o := 0) n_a0 rfl) ⟨rfl, rfl⟩ (zRm_c rfl) rfl rfl rfl rfl dX9_sum_12 rfl (fun q_12 hf => ?_)
      refine z_bipush (pc' := 17) C dX9_sum_15 zk_bipush_43 rfl ?_
      refine z_icmp_eq (pc' := 20) C 29 hf dX9_sum_17 rfl rfl (fun g_17 hf => ?_) (fun g_17 hf => ?_)
      · exact w_X9_sum_29 C n_a0 n_a2 h_a4 hR0 hR1 hR2 (fun hf => ih hf) hf
      · refine z_aload_n (pc' := 21) C 0 dX9_sum_20 rfl rfl rfl ?_
        refine z_cV (pc' := 24) C hf (As := []) (fun hq => c_X9_sees (a := a) (zc_i (o := 0) n_a0 rfl) (zc_o (o := 4) h_a4 rfl) hq) (fun q_21 => (zu h a [(0, .inr (9, [.int m_thrown, .ref (zo w + (a + 1)), .ref (zo w + (a + 2)), .ref (zo w + (a + 3)), .int m_now, .int m_undoable, .ref (zo w + (a + 4)), .int m_bytes, .int m_errorAt, .int m_size, .int q_21.2, .int m_error, .int m_place, .int m_began, .int m_nested, .int m_once, .ref (zo w + (a + 5))])), (2, .inl (w.2.2.1 1, 2500, .inr (.inl m_read)))])) (fun q_21 => [.int q_21.1]) (fun _ => zu_sh (d := 0) rfl rfl) (fun _ => rfl) zy_X9_sees zw_1272 zw_1274 zv_28 (ci := 9) rfl (zc_i (o := 0) n_a0 rfl) ⟨rfl, rfl⟩ (zRm_c rfl) rfl rfl rfl rfl dX9_sum_21 rfl (fun q_21 hf => ?_)
        refine z_bipush (pc' := 26) C dX9_sum_24 zk_bipush_45 rfl ?_
        refine z_icmp_ne (pc' := 29) C 62 hf dX9_sum_26 rfl rfl (fun g_26 hf => ?_) (fun g_26 hf => ?_)
        · cases hf
          exact z_vret C rfl rfl dX9_sum_62
        · exact w_X9_sum_29 C n_a0 n_a2 h_a4 hR0 hR1 hR2 (fun hf => ih hf) hf
set_option maxRecDepth 20000 in
theorem cb_X9_sum {w : zV} {N : Nat} {h : zH} {a : Nat} {d : Nat} {R : Nat → Int32 → Int32 → Int32 → Int32 → Int32 → Int32 → (Nat → Int64) → (Nat → Int32) → Option (Int32 × Int32 × Int32 × Int32 × Int32 × (Nat → Int64))} {m_thrown : Int32} {m_next : Int32} {m_error : Int32} {m_place : Int32} {m_began : Int32} {m_nested : Int32} {m_once : Int32} {m_now : Int32} {m_undoable : Int32} {m_bytes : Int32} {m_errorAt : Int32} {m_size : Int32} {m_read : Nat → Int64} {m_text : Nat → Int32} (h_a0 : zc N h (a + 0) (.inr (9, [.int m_thrown, .ref (zo w + (a + 1)), .ref (zo w + (a + 2)), .ref (zo w + (a + 3)), .int m_now, .int m_undoable, .ref (zo w + (a + 4)), .int m_bytes, .int m_errorAt, .int m_size, .int m_next, .int m_error, .int m_place, .int m_began, .int m_nested, .int m_once, .ref (zo w + (a + 5))]))) (h_a2 : zc N h (a + 2) (.inl (w.2.2.1 1, 2500, .inr (.inl m_read)))) (h_a4 : zc N h (a + 4) (.inl (w.2.2.1 0, 900, .inl m_text))) (hR0 : ∀ {h : zH} {a : Nat} {m_thrown : Int32} {m_next : Int32} {m_error : Int32} {m_place : Int32} {m_began : Int32} {m_nested : Int32} {m_once : Int32} {m_now : Int32} {m_undoable : Int32} {m_bytes : Int32} {m_errorAt : Int32} {m_size : Int32} {m_read : Nat → Int64} {m_text : Nat → Int32} {r : Int32 × Int32 × Int32 × Int32 × Int32 × (Nat → Int64)}, zc N h (a + 0) (.inr (9, [.int m_thrown, .ref (zo w + (a + 1)), .ref (zo w + (a + 2)), .ref (zo w + (a + 3)), .int m_now, .int m_undoable, .ref (zo w + (a + 4)), .int m_bytes, .int m_errorAt, .int m_size, .int m_next, .int m_error, .int m_place, .int m_began, .int m_nested, .int m_once, .ref (zo w + (a + 5))])) → zc N h (a + 2) (.inl (w.2.2.1 1, 2500, .inr (.inl m_read))) → zc N h (a + 4) (.inl (w.2.2.1 0, 900, .inl m_text)) → R 0 m_size m_next m_error m_place m_began m_nested m_read m_text = some r → zM w yX9_sum cX9_sum 2 none (zrd d) false N N h [.ref (zo w + a)] (none) (zu h a [(0, .inr (9, [.int m_thrown, .ref (zo w + (a + 1)), .ref (zo w + (a + 2)), .ref (zo w + (a + 3)), .int m_now, .int m_undoable, .ref (zo w + (a + 4)), .int m_bytes, .int m_errorAt, .int m_size, .int r.1, .int r.2.1, .int r.2.2.1, .int r.2.2.2.1, .int r.2.2.2.2.1, .int m_once, .ref (zo w + (a + 5))])), (2, .inl (w.2.2.1 1, 2500, .inr (.inl r.2.2.2.2.2)))])) (hR1 : ∀ {h : zH} {a : Nat} {m_thrown : Int32} {m_next : Int32} {m_error : Int32} {m_place : Int32} {m_began : Int32} {m_nested : Int32} {m_once : Int32} {m_now : Int32} {m_undoable : Int32} {m_bytes : Int32} {m_errorAt : Int32} {m_size : Int32} {m_read : Nat → Int64} {m_text : Nat → Int32} {r : Int32 × Int32 × Int32 × Int32 × Int32 × (Nat → Int64)}, zc N h (a + 0) (.inr (9, [.int m_thrown, .ref (zo w + (a + 1)), .ref (zo w + (a + 2)), .ref (zo w + (a + 3)), .int m_now, .int m_undoable, .ref (zo w + (a + 4)), .int m_bytes, .int m_errorAt, .int m_size, .int m_next, .int m_error, .int m_place, .int m_began, .int m_nested, .int m_once, .ref (zo w + (a + 5))])) → zc N h (a + 2) (.inl (w.2.2.1 1, 2500, .inr (.inl m_read))) → zc N h (a + 4) (.inl (w.2.2.1 0, 900, .inl m_text)) → R 1 m_size m_next m_error m_place m_began m_nested m_read m_text = some r → zM w yX9_term cX9_term 2 none (zrd d) false N N h [.ref (zo w + a)] (none) (zu h a [(0, .inr (9, [.int m_thrown, .ref (zo w + (a + 1)), .ref (zo w + (a + 2)), .ref (zo w + (a + 3)), .int m_now, .int m_undoable, .ref (zo w + (a + 4)), .int m_bytes, .int m_errorAt, .int m_size, .int r.1, .int r.2.1, .int r.2.2.1, .int r.2.2.2.1, .int r.2.2.2.2.1, .int m_once, .ref (zo w + (a + 5))])), (2, .inl (w.2.2.1 1, 2500, .inr (.inl r.2.2.2.2.2)))])) (hR2 : ∀ {h : zH} {a : Nat} {m_thrown : Int32} {m_next : Int32} {m_error : Int32} {m_place : Int32} {m_began : Int32} {m_nested : Int32} {m_once : Int32} {m_now : Int32} {m_undoable : Int32} {m_bytes : Int32} {m_errorAt : Int32} {m_size : Int32} {m_read : Nat → Int64} {m_text : Nat → Int32} {r : Int32 × Int32 × Int32 × Int32 × Int32 × (Nat → Int64)}, zc N h (a + 0) (.inr (9, [.int m_thrown, .ref (zo w + (a + 1)), .ref (zo w + (a + 2)), .ref (zo w + (a + 3)), .int m_now, .int m_undoable, .ref (zo w + (a + 4)), .int m_bytes, .int m_errorAt, .int m_size, .int m_next, .int m_error, .int m_place, .int m_began, .int m_nested, .int m_once, .ref (zo w + (a + 5))])) → zc N h (a + 2) (.inl (w.2.2.1 1, 2500, .inr (.inl m_read))) → zc N h (a + 4) (.inl (w.2.2.1 0, 900, .inl m_text)) → R 2 m_size m_next m_error m_place m_began m_nested m_read m_text = some r → zM w yX9_factor cX9_factor 1 none (zrd d) false N N h [.ref (zo w + a)] (none) (zu h a [(0, .inr (9, [.int m_thrown, .ref (zo w + (a + 1)), .ref (zo w + (a + 2)), .ref (zo w + (a + 3)), .int m_now, .int m_undoable, .ref (zo w + (a + 4)), .int m_bytes, .int m_errorAt, .int m_size, .int r.1, .int r.2.1, .int r.2.2.1, .int r.2.2.2.1, .int r.2.2.2.2.1, .int m_once, .ref (zo w + (a + 5))])), (2, .inl (w.2.2.1 1, 2500, .inr (.inl r.2.2.2.2.2)))])) {r : Int32 × Int32 × Int32 × Int32 × Int32 × (Nat → Int64)} (hf : f_X9_sum R m_size m_next m_error m_place m_began m_nested m_read m_text = some r) : zM w yX9_sum cX9_sum 2 none (zrd (d + 1)) false N N h [.ref (zo w + a)] (none) (zu h a [(0, .inr (9, [.int m_thrown, .ref (zo w + (a + 1)), .ref (zo w + (a + 2)), .ref (zo w + (a + 3)), .int m_now, .int m_undoable, .ref (zo w + (a + 4)), .int m_bytes, .int m_errorAt, .int m_size, .int r.1, .int r.2.1, .int r.2.2.1, .int r.2.2.2.1, .int r.2.2.2.2.1, .int m_once, .ref (zo w + (a + 5))])), (2, .inl (w.2.2.1 1, 2500, .inr (.inl r.2.2.2.2.2)))]) := by
  unfold f_X9_sum at hf
  refine zM_of (by decide) rfl (fun X C _ => ?_)
  refine z_eq (h' := (zu h a [(0, .inr (9, [.int m_thrown, .ref (zo w + (a + 1)), .ref (zo w + (a + 2)), .ref (zo w + (a + 3)), .int m_now, .int m_undoable, .ref (zo w + (a + 4)), .int m_bytes, .int m_errorAt, .int m_size, .int m_next, .int m_error, .int m_place, .int m_began, .int m_nested, .int m_once, .ref (zo w + (a + 5))])), (2, .inl (w.2.2.1 1, 2500, .inr (.inl m_read)))])) (zu_s h_a0 (zu_s h_a2 zu_0)).symm ?_
  have n_a0 := h_a0.1
  have n_a2 := h_a2.1
  refine z_pick (lv' := [(0, .ref (zo w + a))]) [0] rfl ?_
  refine z_aload_n (pc' := 1) C 0 dX9_sum_0 rfl rfl rfl ?_
  refine z_cV (pc' := 4) C hf (As := []) (fun hq => hR1 (a := a) (zc_i (o := 0) n_a0 rfl) (zc_i (o := 2) n_a2 rfl) (zc_o (o := 4) h_a4 rfl) hq) (fun q_1 => (zu h a [(0, .inr (9, [.int m_thrown, .ref (zo w + (a + 1)), .ref (zo w + (a + 2)), .ref (zo w + (a + 3)), .int m_now, .int m_undoable, .ref (zo w + (a + 4)), .int m_bytes, .int m_errorAt, .int m_size, .int q_1.1, .int q_1.2.1, .int q_1.2.2.1, .int q_1.2.2.2.1, .int q_1.2.2.2.2.1, .int m_once, .ref (zo w + (a + 5))])), (2, .inl (w.2.2.1 1, 2500, .inr (.inl q_1.2.2.2.2.2)))])) (fun q_1 => []) (fun _ => zu_sh (d := 0) rfl rfl) (fun _ => rfl) zy_X9_term zw_1329 zw_1331 zv_39 (ci := 9) rfl (zc_i (o := 0) n_a0 rfl) ⟨rfl, rfl⟩ zRm_r rfl rfl rfl rfl dX9_sum_1 rfl (fun q_1 hf => ?_)
  exact w_X9_sum_4 C n_a0 n_a2 h_a4 hR0 hR1 hR2  FU hf
set_option maxRecDepth 20000 in
theorem w_X9_term_29 {X : zC} {w : zV} {N : Nat} {h : zH} {a : Nat} {d : Nat} {R : Nat → Int32 → Int32 → Int32 → Int32 → Int32 → Int32 → (Nat → Int64) → (Nat → Int32) → Option (Int32 × Int32 × Int32 × Int32 × Int32 × (Nat → Int64))} {m_thrown : Int32} {m_once : Int32} {m_now : Int32} {m_undoable : Int32} {m_bytes : Int32} {m_errorAt : Int32} {m_size : Int32} {m_text : Nat → Int32} (C : zK X w RX9 cX9_term 2 none (zrd (d + 1))) (n_a0 : a + 0 < N) (n_a2 : a + 2 < N) (h_a4 : zc N h (a + 4) (.inl (w.2.2.1 0, 900, .inl m_text))) (hR0 : ∀ {h : zH} {a : Nat} {m_thrown : Int32} {m_next : Int32} {m_error : Int32} {m_place : Int32} {m_began : Int32} {m_nested : Int32} {m_once : Int32} {m_now : Int32} {m_undoable : Int32} {m_bytes : Int32} {m_errorAt : Int32} {m_size : Int32} {m_read : Nat → Int64} {m_text : Nat → Int32} {r : Int32 × Int32 × Int32 × Int32 × Int32 × (Nat → Int64)}, zc N h (a + 0) (.inr (9, [.int m_thrown, .ref (zo w + (a + 1)), .ref (zo w + (a + 2)), .ref (zo w + (a + 3)), .int m_now, .int m_undoable, .ref (zo w + (a + 4)), .int m_bytes, .int m_errorAt, .int m_size, .int m_next, .int m_error, .int m_place, .int m_began, .int m_nested, .int m_once, .ref (zo w + (a + 5))])) → zc N h (a + 2) (.inl (w.2.2.1 1, 2500, .inr (.inl m_read))) → zc N h (a + 4) (.inl (w.2.2.1 0, 900, .inl m_text)) → R 0 m_size m_next m_error m_place m_began m_nested m_read m_text = some r → zM w yX9_sum cX9_sum 2 none (zrd d) false N N h [.ref (zo w + a)] (none) (zu h a [(0, .inr (9, [.int m_thrown, .ref (zo w + (a + 1)), .ref (zo w + (a + 2)), .ref (zo w + (a + 3)), .int m_now, .int m_undoable, .ref (zo w + (a + 4)), .int m_bytes, .int m_errorAt, .int m_size, .int r.1, .int r.2.1, .int r.2.2.1, .int r.2.2.2.1, .int r.2.2.2.2.1, .int m_once, .ref (zo w + (a + 5))])), (2, .inl (w.2.2.1 1, 2500, .inr (.inl r.2.2.2.2.2)))])) (hR1 : ∀ {h : zH} {a : Nat} {m_thrown : Int32} {m_next : Int32} {m_error : Int32} {m_place : Int32} {m_began : Int32} {m_nested : Int32} {m_once : Int32} {m_now : Int32} {m_undoable : Int32} {m_bytes : Int32} {m_errorAt : Int32} {m_size : Int32} {m_read : Nat → Int64} {m_text : Nat → Int32} {r : Int32 × Int32 × Int32 × Int32 × Int32 × (Nat → Int64)}, zc N h (a + 0) (.inr (9, [.int m_thrown, .ref (zo w + (a + 1)), .ref (zo w + (a + 2)), .ref (zo w + (a + 3)), .int m_now, .int m_undoable, .ref (zo w + (a + 4)), .int m_bytes, .int m_errorAt, .int m_size, .int m_next, .int m_error, .int m_place, .int m_began, .int m_nested, .int m_once, .ref (zo w + (a + 5))])) → zc N h (a + 2) (.inl (w.2.2.1 1, 2500, .inr (.inl m_read))) → zc N h (a + 4) (.inl (w.2.2.1 0, 900, .inl m_text)) → R 1 m_size m_next m_error m_place m_began m_nested m_read m_text = some r → zM w yX9_term cX9_term 2 none (zrd d) false N N h [.ref (zo w + a)] (none) (zu h a [(0, .inr (9, [.int m_thrown, .ref (zo w + (a + 1)), .ref (zo w + (a + 2)), .ref (zo w + (a + 3)), .int m_now, .int m_undoable, .ref (zo w + (a + 4)), .int m_bytes, .int m_errorAt, .int m_size, .int r.1, .int r.2.1, .int r.2.2.1, .int r.2.2.2.1, .int r.2.2.2.2.1, .int m_once, .ref (zo w + (a + 5))])), (2, .inl (w.2.2.1 1, 2500, .inr (.inl r.2.2.2.2.2)))])) (hR2 : ∀ {h : zH} {a : Nat} {m_thrown : Int32} {m_next : Int32} {m_error : Int32} {m_place : Int32} {m_began : Int32} {m_nested : Int32} {m_once : Int32} {m_now : Int32} {m_undoable : Int32} {m_bytes : Int32} {m_errorAt : Int32} {m_size : Int32} {m_read : Nat → Int64} {m_text : Nat → Int32} {r : Int32 × Int32 × Int32 × Int32 × Int32 × (Nat → Int64)}, zc N h (a + 0) (.inr (9, [.int m_thrown, .ref (zo w + (a + 1)), .ref (zo w + (a + 2)), .ref (zo w + (a + 3)), .int m_now, .int m_undoable, .ref (zo w + (a + 4)), .int m_bytes, .int m_errorAt, .int m_size, .int m_next, .int m_error, .int m_place, .int m_began, .int m_nested, .int m_once, .ref (zo w + (a + 5))])) → zc N h (a + 2) (.inl (w.2.2.1 1, 2500, .inr (.inl m_read))) → zc N h (a + 4) (.inl (w.2.2.1 0, 900, .inl m_text)) → R 2 m_size m_next m_error m_place m_began m_nested m_read m_text = some r → zM w yX9_factor cX9_factor 1 none (zrd d) false N N h [.ref (zo w + a)] (none) (zu h a [(0, .inr (9, [.int m_thrown, .ref (zo w + (a + 1)), .ref (zo w + (a + 2)), .ref (zo w + (a + 3)), .int m_now, .int m_undoable, .ref (zo w + (a + 4)), .int m_bytes, .int m_errorAt, .int m_size, .int r.1, .int r.2.1, .int r.2.2.1, .int r.2.2.2.1, .int r.2.2.2.2.1, .int m_once, .ref (zo w + (a + 5))])), (2, .inl (w.2.2.1 1, 2500, .inr (.inl r.2.2.2.2.2)))])) {r : Int32 × Int32 × Int32 × Int32 × Int32 × (Nat → Int64)} {k4 : Int32 → Int32 → Int32 → Int32 → Int32 → Int32 → (Nat → Int64) → (Nat → Int32) → Option (Int32 × Int32 × Int32 × Int32 × Int32 × (Nat → Int64))} (hk4 : ∀ {m_next : Int32} {m_error : Int32} {m_place : Int32} {m_began : Int32} {m_nested : Int32} {m_read : Nat → Int64}, k4 m_size m_next m_error m_place m_began m_nested m_read m_text = some r → zZ X w (zQ X w (zrd (d + 1)) (none) false N (zu h a [(0, .inr (9, [.int m_thrown, .ref (zo w + (a + 1)), .ref (zo w + (a + 2)), .ref (zo w + (a + 3)), .int m_now, .int m_undoable, .ref (zo w + (a + 4)), .int m_bytes, .int m_errorAt, .int m_size, .int r.1, .int r.2.1, .int r.2.2.1, .int r.2.2.2.1, .int r.2.2.2.2.1, .int m_once, .ref (zo w + (a + 5))])), (2, .inl (w.2.2.1 1, 2500, .inr (.inl r.2.2.2.2.2)))])) 0 0 false N (zu h a [(0, .inr (9, [.int m_thrown, .ref (zo w + (a + 1)), .ref (zo w + (a + 2)), .ref (zo w + (a + 3)), .int m_now, .int m_undoable, .ref (zo w + (a + 4)), .int m_bytes, .int m_errorAt, .int m_size, .int m_next, .int m_error, .int m_place, .int m_began, .int m_nested, .int m_once, .ref (zo w + (a + 5))])), (2, .inl (w.2.2.1 1, 2500, .inr (.inl m_read)))]) 4 [(0, .ref (zo w + a))] []) {m_next : Int32} {m_error : Int32} {m_place : Int32} {m_began : Int32} {m_nested : Int32} {m_read : Nat → Int64} (hf : f_X9_term_29 R k4 m_size m_next m_error m_place m_began m_nested m_read m_text = some r) : zZ X w (zQ X w (zrd (d + 1)) (none) false N (zu h a [(0, .inr (9, [.int m_thrown, .ref (zo w + (a + 1)), .ref (zo w + (a + 2)), .ref (zo w + (a + 3)), .int m_now, .int m_undoable, .ref (zo w + (a + 4)), .int m_bytes, .int m_errorAt, .int m_size, .int r.1, .int r.2.1, .int r.2.2.1, .int r.2.2.2.1, .int r.2.2.2.2.1, .int m_once, .ref (zo w + (a + 5))])), (2, .inl (w.2.2.1 1, 2500, .inr (.inl r.2.2.2.2.2)))])) 0 0 false N (zu h a [(0, .inr (9, [.int m_thrown, .ref (zo w + (a + 1)), .ref (zo w + (a + 2)), .ref (zo w + (a + 3)), .int m_now, .int m_undoable, .ref (zo w + (a + 4)), .int m_bytes, .int m_errorAt, .int m_size, .int m_next, .int m_error, .int m_place, .int m_began, .int m_nested, .int m_once, .ref (zo w + (a + 5))])), (2, .inl (w.2.2.1 1, 2500, .inr (.inl m_read)))]) 29 [(0, .ref (zo w + a))] [] := by
  unfold f_X9_term_29 at hf
  refine z_aload_n (pc' := 30) C 0 dX9_term_29 rfl rfl rfl ?_
  refine z_getf (pc' := 33) C zci_9 zw_1190 (j := 6) rfl (zc_i (o := 0) n_a0 rfl) rfl rfl dX9_term_30 rfl ?_
  refine z_aload_n (pc' := 34) C 0 dX9_term_33 rfl rfl rfl ?_
  refine z_getf (pc' := 37) C zci_9 zw_1194 (j := 10) rfl (zc_i (o := 0) n_a0 rfl) rfl rfl dX9_term_34 rfl ?_
  refine z_iald (pc' := 38) C hf (zc_o (o := 4) h_a4 rfl) dX9_term_37 rfl (fun v_37 hf => ?_)
  refine z_istore_n (pc' := 39) C [(1, .int v_37), (0, .ref (zo w + a))] dX9_term_38 rfl rfl rfl rfl ?_
  refine z_aload_n (pc' := 40) C 1 dX9_term_39 rfl rfl rfl ?_
  refine z_dup (pc' := 41) C dX9_term_40 rfl rfl ?_
  refine z_getf (pc' := 44) C zci_9 zw_1194 (j := 10) rfl (zc_i (o := 0) n_a0 rfl) rfl rfl dX9_term_41 rfl ?_
  refine z_iconst (pc' := 45) C dX9_term_44 zk_iconst_1 rfl ?_
  refine z_iadd (pc' := 46) C dX9_term_45 rfl ?_
  refine z_putf (pc' := 49) C zci_9 zw_1194 (j := 10) rfl (zc_i (o := 0) n_a0 rfl) (fs' := [.int m_thrown, .ref (zo w + (a + 1)), .ref (zo w + (a + 2)), .ref (zo w + (a + 3)), .int m_now, .int m_undoable, .ref (zo w + (a + 4)), .int m_bytes, .int m_errorAt, .int m_size, .int (m_next + (1 : Int32)), .int m_error, .int m_place, .int m_began, .int m_nested, .int m_once, .ref (zo w + (a + 5))]) rfl rfl rfl rfl rfl (zu_put (o := 0) (L' := [(0, .inr (9, [.int m_thrown, .ref (zo w + (a + 1)), .ref (zo w + (a + 2)), .ref (zo w + (a + 3)), .int m_now, .int m_undoable, .ref (zo w + (a + 4)), .int m_bytes, .int m_errorAt, .int m_size, .int (m_next + (1 : Int32)), .int m_error, .int m_place, .int m_began, .int m_nested, .int m_once, .ref (zo w + (a + 5))])), (2, .inl (w.2.2.1 1, 2500, .inr (.inl m_read)))]) rfl) dX9_term_46 rfl ?_
  refine z_aload_n (pc' := 50) C 1 dX9_term_49 rfl rfl rfl ?_
  refine z_cV (pc' := 53) C hf (As := []) (fun hq => hR2 (a := a) (zc_i (o := 0) n_a0 rfl) (zc_i (o := 2) n_a2 rfl) (zc_o (o := 4) h_a4 rfl) hq) (fun q_50 => (zu h a [(0, .inr (9, [.int m_thrown, .ref (zo w + (a + 1)), .ref (zo w + (a + 2)), .ref (zo w + (a + 3)), .int m_now, .int m_undoable, .ref (zo w + (a + 4)), .int m_bytes, .int m_errorAt, .int m_size, .int q_50.1, .int q_50.2.1, .int q_50.2.2.1, .int q_50.2.2.2.1, .int q_50.2.2.2.2.1, .int m_once, .ref (zo w + (a + 5))])), (2, .inl (w.2.2.1 1, 2500, .inr (.inl q_50.2.2.2.2.2)))])) (fun q_50 => []) (fun _ => zu_sh (d := 0) rfl rfl) (fun _ => rfl) zy_X9_factor zw_1333 zw_1335 zv_40 (ci := 9) rfl (zc_i (o := 0) n_a0 rfl) ⟨rfl, rfl⟩ zRm_r rfl rfl rfl rfl dX9_term_50 rfl (fun q_50 hf => ?_)
  refine z_aload_n (pc' := 54) C 1 dX9_term_53 rfl rfl rfl ?_
  refine z_iload_n (pc' := 55) C 0 dX9_term_54 rfl rfl rfl ?_
  refine z_iconst (pc' := 56) C dX9_term_55 zk_iconst_0 rfl ?_
  refine z_cV (pc' := 59) C hf (As := [.int v_37, .int (0 : Int32)]) (fun hq => c_X9_codes (a := a) (zc_i (o := 0) n_a0 rfl) (zc_i (o := 2) n_a2 rfl) hq) (fun q_56 => (zu h a [(0, .inr (9, [.int m_thrown, .ref (zo w + (a + 1)), .ref (zo w + (a + 2)), .ref (zo w + (a + 3)), .int m_now, .int m_undoable, .ref (zo w + (a + 4)), .int m_bytes, .int m_errorAt, .int m_size, .int q_50.1, .int q_50.2.1, .int q_50.2.2.1, .int q_50.2.2.2.1, .int q_50.2.2.2.2.1, .int m_once, .ref (zo w + (a + 5))])), (2, .inl (w.2.2.1 1, 2500, .inr (.inl q_56)))])) (fun q_56 => []) (fun _ => zu_sh (d := 0) rfl rfl) (fun _ => rfl) zy_X9_codes zw_1337 zw_1339 zv_41 (ci := 9) rfl (zc_i (o := 0) n_a0 rfl) ⟨rfl, rfl⟩ (zRm_c rfl) rfl rfl rfl rfl dX9_term_56 rfl (fun q_56 hf => ?_)
  refine z_goto C 4 dX9_term_59 rfl ?_
  refine z_pick (lv' := [(0, .ref (zo w + a))]) [1] rfl ?_
  exact hk4 hf
set_option maxRecDepth 20000 in
theorem w_X9_term_4 {X : zC} {w : zV} {N : Nat} {h : zH} {a : Nat} {d : Nat} {R : Nat → Int32 → Int32 → Int32 → Int32 → Int32 → Int32 → (Nat → Int64) → (Nat → Int32) → Option (Int32 × Int32 × Int32 × Int32 × Int32 × (Nat → Int64))} {m_thrown : Int32} {m_once : Int32} {m_now : Int32} {m_undoable : Int32} {m_bytes : Int32} {m_errorAt : Int32} {m_size : Int32} {m_text : Nat → Int32} (C : zK X w RX9 cX9_term 2 none (zrd (d + 1))) (n_a0 : a + 0 < N) (n_a2 : a + 2 < N) (h_a4 : zc N h (a + 4) (.inl (w.2.2.1 0, 900, .inl m_text))) (hR0 : ∀ {h : zH} {a : Nat} {m_thrown : Int32} {m_next : Int32} {m_error : Int32} {m_place : Int32} {m_began : Int32} {m_nested : Int32} {m_once : Int32} {m_now : Int32} {m_undoable : Int32} {m_bytes : Int32} {m_errorAt : Int32} {m_size : Int32} {m_read : Nat → Int64} {m_text : Nat → Int32} {r : Int32 × Int32 × Int32 × Int32 × Int32 × (Nat → Int64)}, zc N h (a + 0) (.inr (9, [.int m_thrown, .ref (zo w + (a + 1)), .ref (zo w + (a + 2)), .ref (zo w + (a + 3)), .int m_now, .int m_undoable, .ref (zo w + (a + 4)), .int m_bytes, .int m_errorAt, .int m_size, .int m_next, .int m_error, .int m_place, .int m_began, .int m_nested, .int m_once, .ref (zo w + (a + 5))])) → zc N h (a + 2) (.inl (w.2.2.1 1, 2500, .inr (.inl m_read))) → zc N h (a + 4) (.inl (w.2.2.1 0, 900, .inl m_text)) → R 0 m_size m_next m_error m_place m_began m_nested m_read m_text = some r → zM w yX9_sum cX9_sum 2 none (zrd d) false N N h [.ref (zo w + a)] (none) (zu h a [(0, .inr (9, [.int m_thrown, .ref (zo w + (a + 1)), .ref (zo w + (a + 2)), .ref (zo w + (a + 3)), .int m_now, .int m_undoable, .ref (zo w + (a + 4)), .int m_bytes, .int m_errorAt, .int m_size, .int r.1, .int r.2.1, .int r.2.2.1, .int r.2.2.2.1, .int r.2.2.2.2.1, .int m_once, .ref (zo w + (a + 5))])), (2, .inl (w.2.2.1 1, 2500, .inr (.inl r.2.2.2.2.2)))])) (hR1 : ∀ {h : zH} {a : Nat} {m_thrown : Int32} {m_next : Int32} {m_error : Int32} {m_place : Int32} {m_began : Int32} {m_nested : Int32} {m_once : Int32} {m_now : Int32} {m_undoable : Int32} {m_bytes : Int32} {m_errorAt : Int32} {m_size : Int32} {m_read : Nat → Int64} {m_text : Nat → Int32} {r : Int32 × Int32 × Int32 × Int32 × Int32 × (Nat → Int64)}, zc N h (a + 0) (.inr (9, [.int m_thrown, .ref (zo w + (a + 1)), .ref (zo w + (a + 2)), .ref (zo w + (a + 3)), .int m_now, .int m_undoable, .ref (zo w + (a + 4)), .int m_bytes, .int m_errorAt, .int m_size, .int m_next, .int m_error, .int m_place, .int m_began, .int m_nested, .int m_once, .ref (zo w + (a + 5))])) → zc N h (a + 2) (.inl (w.2.2.1 1, 2500, .inr (.inl m_read))) → zc N h (a + 4) (.inl (w.2.2.1 0, 900, .inl m_text)) → R 1 m_size m_next m_error m_place m_began m_nested m_read m_text = some r → zM w yX9_term cX9_term 2 none (zrd d) false N N h [.ref (zo w + a)] (none) (zu h a [(0, .inr (9, [.int m_thrown, .ref (zo w + (a + 1)), .ref (zo w + (a + 2)), .ref (zo w + (a + 3)), .int m_now, .int m_undoable, .ref (zo w + (a + 4)), .int m_bytes, .int m_errorAt, .int m_size, .int r.1, .int r.2.1, .int r.2.2.1, .int r.2.2.2.1, .int r.2.2.2.2.1, .int m_once, .ref (zo w + (a + 5))])), (2, .inl (w.2.2.1 1, 2500, .inr (.inl r.2.2.2.2.2)))])) (hR2 : ∀ {h : zH} {a : Nat} {m_thrown : Int32} {m_next : Int32} {m_error : Int32} {m_place : Int32} {m_began : Int32} {m_nested : Int32} {m_once : Int32} {m_now : Int32} {m_undoable : Int32} {m_bytes : Int32} {m_errorAt : Int32} {m_size : Int32} {m_read : Nat → Int64} {m_text : Nat → Int32} {r : Int32 × Int32 × Int32 × Int32 × Int32 × (Nat → Int64)}, zc N h (a + 0) (.inr (9, [.int m_thrown, .ref (zo w + (a + 1)), .ref (zo w + (a + 2)), .ref (zo w + (a + 3)), .int m_now, .int m_undoable, .ref (zo w + (a + 4)), .int m_bytes, .int m_errorAt, .int m_size, .int m_next, .int m_error, .int m_place, .int m_began, .int m_nested, .int m_once, .ref (zo w + (a + 5))])) → zc N h (a + 2) (.inl (w.2.2.1 1, 2500, .inr (.inl m_read))) → zc N h (a + 4) (.inl (w.2.2.1 0, 900, .inl m_text)) → R 2 m_size m_next m_error m_place m_began m_nested m_read m_text = some r → zM w yX9_factor cX9_factor 1 none (zrd d) false N N h [.ref (zo w + a)] (none) (zu h a [(0, .inr (9, [.int m_thrown, .ref (zo w + (a + 1)), .ref (zo w + (a + 2)), .ref (zo w + (a + 3)), .int m_now, .int m_undoable, .ref (zo w + (a + 4)), .int m_bytes, .int m_errorAt, .int m_size, .int r.1, .int r.2.1, .int r.2.2.1, .int r.2.2.2.1, .int r.2.2.2.2.1, .int m_once, .ref (zo w + (a + 5))])), (2, .inl (w.2.2.1 1, 2500, .inr (.inl r.2.2.2.2.2)))])) {r : Int32 × Int32 × Int32 × Int32 × Int32 × (Nat → Int64)} (n : Nat) : ∀ {m_next : Int32} {m_error : Int32} {m_place : Int32} {m_began : Int32} {m_nested : Int32} {m_read : Nat → Int64}, f_X9_term_4 R  n m_size m_next m_error m_place m_began m_nested m_read m_text = some r → zZ X w (zQ X w (zrd (d + 1)) (none) false N (zu h a [(0, .inr (9, [.int m_thrown, .ref (zo w + (a + 1)), .ref (zo w + (a + 2)), .ref (zo w + (a + 3)), .int m_now, .int m_undoable, .ref (zo w + (a + 4)), .int m_bytes, .int m_errorAt, .int m_size, .int r.1, .int r.2.1, .int r.2.2.1, .int r.2.2.2.1, .int r.2.2.2.2.1, .int m_once, .ref (zo w + (a + 5))])), (2, .inl (w.2.2.1 1, 2500, .inr (.inl r.2.2.2.2.2)))])) 0 0 false N (zu h a [(0, .inr (9, [.int m_thrown, .ref (zo w + (a + 1)), .ref (zo w + (a + 2)), .ref (zo w + (a + 3)), .int m_now, .int m_undoable, .ref (zo w + (a + 4)), .int m_bytes, .int m_errorAt, .int m_size, .int m_next, .int m_error, .int m_place, .int m_began, .int m_nested, .int m_once, .ref (zo w + (a + 5))])), (2, .inl (w.2.2.1 1, 2500, .inr (.inl m_read)))]) 4 [(0, .ref (zo w + a))] [] := by
  induction n with
  | zero =>
    intro m_next m_error m_place m_began m_nested m_read hf
    have hf : (none : Option (Int32 × Int32 × Int32 × Int32 × Int32 × (Nat → Int64))) = some r := hf
    cases hf
  | succ z ih =>
    intro m_next m_error m_place m_began m_nested m_read hf
    rw [f_X9_term_4] at hf
    refine z_aload_n (pc' := 5) C 0 dX9_term_4 rfl rfl rfl ?_
    refine z_getf (pc' := 8) C zci_9 zw_1195 (j := 11) rfl (zc_i (o := 0) n_a0 rfl) rfl rfl dX9_term_5 rfl ?_
    refine z_if_ne (pc' := 11) C 62 hf dX9_term_8 rfl rfl (fun g_8 hf => ?_) (fun g_8 hf => ?_)
    · cases hf
      exact z_vret C rfl rfl dX9_term_62
    · refine z_aload_n (pc' := 12) C 0 dX9_term_11 rfl rfl rfl ?_
      refine z_cV (pc' := 15) C hf (As := []) (fun hq => c_X9_sees (a := a) (zc_i (o := 0) n_a0 rfl) (zc_o (o := 4) h_a4 rfl) hq) (fun q_12 => (zu h a [(0, .inr (9, [.int m_thrown, .ref (zo w + (a + 1)), .ref (zo w + (a + 2)), .ref (zo w + (a + 3)), .int m_now, .int m_undoable, .ref (zo w + (a + 4)), .int m_bytes, .int m_errorAt, .int m_size, .int q_12.2, .int m_error, .int m_place, .int m_began, .int m_nested, .int m_once, .ref (zo w + (a + 5))])), (2, .inl (w.2.2.1 1, 2500, .inr (.inl m_read)))])) (fun q_12 => [.int q_12.1]) (fun _ => zu_sh (d := 0) rfl rfl) (fun _ => rfl) zy_X9_sees zw_1272 zw_1274 zv_28 (ci := 9) rfl (zc_i (o := 0) n_a0 rfl) ⟨rfl, rfl⟩ (zRm_c rfl) rfl rfl rfl rfl dX9_term_12 rfl (fun q_12 hf => ?_)
      refine z_bipush (pc' := 17) C dX9_term_15 zk_bipush_42 rfl ?_
      refine z_icmp_eq (pc' := 20) C 29 hf dX9_term_17 rfl rfl (fun g_17 hf => ?_) (fun g_17 hf => ?_)
      · exact w_X9_term_29 C n_a0 n_a2 h_a4 hR0 hR1 hR2 (fun hf => ih hf) hf
      · refine z_aload_n (pc' := 21) C 0 dX9_term_20 rfl rfl rfl ?_
        refine z_cV (pc' := 24) C hf (As := []) (fun hq => c_X9_sees (a := a) (zc_i (o := 0) n_a0 rfl) (zc_o (o := 4) h_a4 rfl) hq) (fun q_21 => (zu h a [(0, .inr (9, [.int m_thrown, .ref (zo w + (a + 1)), .ref (zo w + (a + 2)), .ref (zo w + (a + 3)), .int m_now, .int m_undoable, .ref (zo w + (a + 4)), .int m_bytes, .int m_errorAt, .int m_size, .int q_21.2, .int m_error, .int m_place, .int m_began, .int m_nested, .int m_once, .ref (zo w + (a + 5))])), (2, .inl (w.2.2.1 1, 2500, .inr (.inl m_read)))])) (fun q_21 => [.int q_21.1]) (fun _ => zu_sh (d := 0) rfl rfl) (fun _ => rfl) zy_X9_sees zw_1272 zw_1274 zv_28 (ci := 9) rfl (zc_i (o := 0) n_a0 rfl) ⟨rfl, rfl⟩ (zRm_c rfl) rfl rfl rfl rfl dX9_term_21 rfl (fun q_21 hf => ?_)
        refine z_bipush (pc' := 26) C dX9_term_24 zk_bipush_47 rfl ?_
        refine z_icmp_ne (pc' := 29) C 62 hf dX9_term_26 rfl rfl (fun g_26 hf => ?_) (fun g_26 hf => ?_)
        · cases hf
          exact z_vret C rfl rfl dX9_term_62
        · exact w_X9_term_29 C n_a0 n_a2 h_a4 hR0 hR1 hR2 (fun hf => ih hf) hf
set_option maxRecDepth 20000 in
theorem cb_X9_term {w : zV} {N : Nat} {h : zH} {a : Nat} {d : Nat} {R : Nat → Int32 → Int32 → Int32 → Int32 → Int32 → Int32 → (Nat → Int64) → (Nat → Int32) → Option (Int32 × Int32 × Int32 × Int32 × Int32 × (Nat → Int64))} {m_thrown : Int32} {m_next : Int32} {m_error : Int32} {m_place : Int32} {m_began : Int32} {m_nested : Int32} {m_once : Int32} {m_now : Int32} {m_undoable : Int32} {m_bytes : Int32} {m_errorAt : Int32} {m_size : Int32} {m_read : Nat → Int64} {m_text : Nat → Int32} (h_a0 : zc N h (a + 0) (.inr (9, [.int m_thrown, .ref (zo w + (a + 1)), .ref (zo w + (a + 2)), .ref (zo w + (a + 3)), .int m_now, .int m_undoable, .ref (zo w + (a + 4)), .int m_bytes, .int m_errorAt, .int m_size, .int m_next, .int m_error, .int m_place, .int m_began, .int m_nested, .int m_once, .ref (zo w + (a + 5))]))) (h_a2 : zc N h (a + 2) (.inl (w.2.2.1 1, 2500, .inr (.inl m_read)))) (h_a4 : zc N h (a + 4) (.inl (w.2.2.1 0, 900, .inl m_text))) (hR0 : ∀ {h : zH} {a : Nat} {m_thrown : Int32} {m_next : Int32} {m_error : Int32} {m_place : Int32} {m_began : Int32} {m_nested : Int32} {m_once : Int32} {m_now : Int32} {m_undoable : Int32} {m_bytes : Int32} {m_errorAt : Int32} {m_size : Int32} {m_read : Nat → Int64} {m_text : Nat → Int32} {r : Int32 × Int32 × Int32 × Int32 × Int32 × (Nat → Int64)}, zc N h (a + 0) (.inr (9, [.int m_thrown, .ref (zo w + (a + 1)), .ref (zo w + (a + 2)), .ref (zo w + (a + 3)), .int m_now, .int m_undoable, .ref (zo w + (a + 4)), .int m_bytes, .int m_errorAt, .int m_size, .int m_next, .int m_error, .int m_place, .int m_began, .int m_nested, .int m_once, .ref (zo w + (a + 5))])) → zc N h (a + 2) (.inl (w.2.2.1 1, 2500, .inr (.inl m_read))) → zc N h (a + 4) (.inl (w.2.2.1 0, 900, .inl m_text)) → R 0 m_size m_next m_error m_place m_began m_nested m_read m_text = some r → zM w yX9_sum cX9_sum 2 none (zrd d) false N N h [.ref (zo w + a)] (none) (zu h a [(0, .inr (9, [.int m_thrown, .ref (zo w + (a + 1)), .ref (zo w + (a + 2)), .ref (zo w + (a + 3)), .int m_now, .int m_undoable, .ref (zo w + (a + 4)), .int m_bytes, .int m_errorAt, .int m_size, .int r.1, .int r.2.1, .int r.2.2.1, .int r.2.2.2.1, .int r.2.2.2.2.1, .int m_once, .ref (zo w + (a + 5))])), (2, .inl (w.2.2.1 1, 2500, .inr (.inl r.2.2.2.2.2)))])) (hR1 : ∀ {h : zH} {a : Nat} {m_thrown : Int32} {m_next : Int32} {m_error : Int32} {m_place : Int32} {m_began : Int32} {m_nested : Int32} {m_once : Int32} {m_now : Int32} {m_undoable : Int32} {m_bytes : Int32} {m_errorAt : Int32} {m_size : Int32} {m_read : Nat → Int64} {m_text : Nat → Int32} {r : Int32 × Int32 × Int32 × Int32 × Int32 × (Nat → Int64)}, zc N h (a + 0) (.inr (9, [.int m_thrown, .ref (zo w + (a + 1)), .ref (zo w + (a + 2)), .ref (zo w + (a + 3)), .int m_now, .int m_undoable, .ref (zo w + (a + 4)), .int m_bytes, .int m_errorAt, .int m_size, .int m_next, .int m_error, .int m_place, .int m_began, .int m_nested, .int m_once, .ref (zo w + (a + 5))])) → zc N h (a + 2) (.inl (w.2.2.1 1, 2500, .inr (.inl m_read))) → zc N h (a + 4) (.inl (w.2.2.1 0, 900, .inl m_text)) → R 1 m_size m_next m_error m_place m_began m_nested m_read m_text = some r → zM w yX9_term cX9_term 2 none (zrd d) false N N h [.ref (zo w + a)] (none) (zu h a [(0, .inr (9, [.int m_thrown, .ref (zo w + (a + 1)), .ref (zo w + (a + 2)), .ref (zo w + (a + 3)), .int m_now, .int m_undoable, .ref (zo w + (a + 4)), .int m_bytes, .int m_errorAt, .int m_size, .int r.1, .int r.2.1, .int r.2.2.1, .int r.2.2.2.1, .int r.2.2.2.2.1, .int m_once, .ref (zo w + (a + 5))])), (2, .inl (w.2.2.1 1, 2500, .inr (.inl r.2.2.2.2.2)))])) (hR2 : ∀ {h : zH} {a : Nat} {m_thrown : Int32} {m_next : Int32} {m_error : Int32} {m_place : Int32} {m_began : Int32} {m_nested : Int32} {m_once : Int32} {m_now : Int32} {m_undoable : Int32} {m_bytes : Int32} {m_errorAt : Int32} {m_size : Int32} {m_read : Nat → Int64} {m_text : Nat → Int32} {r : Int32 × Int32 × Int32 × Int32 × Int32 × (Nat → Int64)}, zc N h (a + 0) (.inr (9, [.int m_thrown, .ref (zo w + (a + 1)), .ref (zo w + (a + 2)), .ref (zo w + (a + 3)), .int m_now, .int m_undoable, .ref (zo w + (a + 4)), .int m_bytes, .int m_errorAt, .int m_size, .int m_next, .int m_error, .int m_place, .int m_began, .int m_nested, .int m_once, .ref (zo w + (a + 5))])) → zc N h (a + 2) (.inl (w.2.2.1 1, 2500, .inr (.inl m_read))) → zc N h (a + 4) (.inl (w.2.2.1 0, 900, .inl m_text)) → R 2 m_size m_next m_error m_place m_began m_nested m_read m_text = some r → zM w yX9_factor cX9_factor 1 none (zrd d) false N N h [.ref (zo w + a)] (none) (zu h a [(0, .inr (9, [.int m_thrown, .ref (zo w + (a + 1)), .ref (zo w + (a + 2)), .ref (zo w + (a + 3)), .int m_now, .int m_undoable, .ref (zo w + (a + 4)), .int m_bytes, .int m_errorAt, .int m_size, .int r.1, .int r.2.1, .int r.2.2.1, .int r.2.2.2.1, .int r.2.2.2.2.1, .int m_once, .ref (zo w + (a + 5))])), (2, .inl (w.2.2.1 1, 2500, .inr (.inl r.2.2.2.2.2)))])) {r : Int32 × Int32 × Int32 × Int32 × Int32 × (Nat → Int64)} (hf : f_X9_term R m_size m_next m_error m_place m_began m_nested m_read m_text = some r) : zM w yX9_term cX9_term 2 none (zrd (d + 1)) false N N h [.ref (zo w + a)] (none) (zu h a [(0, .inr (9, [.int m_thrown, .ref (zo w + (a + 1)), .ref (zo w + (a + 2)), .ref (zo w + (a + 3)), .int m_now, .int m_undoable, .ref (zo w + (a + 4)), .int m_bytes, .int m_errorAt, .int m_size, .int r.1, .int r.2.1, .int r.2.2.1, .int r.2.2.2.1, .int r.2.2.2.2.1, .int m_once, .ref (zo w + (a + 5))])), (2, .inl (w.2.2.1 1, 2500, .inr (.inl r.2.2.2.2.2)))]) := by
  unfold f_X9_term at hf
  refine zM_of (by decide) rfl (fun X C _ => ?_)
  refine z_eq (h' := (zu h a [(0, .inr (9, [.int m_thrown, .ref (zo w + (a + 1)), .ref (zo w + (a + 2)), .ref (zo w + (a + 3)), .int m_now, .int m_undoable, .ref (zo w + (a + 4)), .int m_bytes, .int m_errorAt, .int m_size, .int m_next, .int m_error, .int m_place, .int m_began, .int m_nested, .int m_once, .ref (zo w + (a + 5))])), (2, .inl (w.2.2.1 1, 2500, .inr (.inl m_read)))])) (zu_s h_a0 (zu_s h_a2 zu_0)).symm ?_
  have n_a0 := h_a0.1
  have n_a2 := h_a2.1
  refine z_pick (lv' := [(0, .ref (zo w + a))]) [0] rfl ?_
  refine z_aload_n (pc' := 1) C 0 dX9_term_0 rfl rfl rfl ?_
  refine z_cV (pc' := 4) C hf (As := []) (fun hq => hR2 (a := a) (zc_i (o := 0) n_a0 rfl) (zc_i (o := 2) n_a2 rfl) (zc_o (o := 4) h_a4 rfl) hq) (fun q_1 => (zu h a [(0, .inr (9, [.int m_thrown, .ref (zo w + (a + 1)), .ref (zo w + (a + 2)), .ref (zo w + (a + 3)), .int m_now, .int m_undoable, .ref (zo w + (a + 4)), .int m_bytes, .int m_errorAt, .int m_size, .int q_1.1, .int q_1.2.1, .int q_1.2.2.1, .int q_1.2.2.2.1, .int q_1.2.2.2.2.1, .int m_once, .ref (zo w + (a + 5))])), (2, .inl (w.2.2.1 1, 2500, .inr (.inl q_1.2.2.2.2.2)))])) (fun q_1 => []) (fun _ => zu_sh (d := 0) rfl rfl) (fun _ => rfl) zy_X9_factor zw_1333 zw_1335 zv_40 (ci := 9) rfl (zc_i (o := 0) n_a0 rfl) ⟨rfl, rfl⟩ zRm_r rfl rfl rfl rfl dX9_term_1 rfl (fun q_1 hf => ?_)
  exact w_X9_term_4 C n_a0 n_a2 h_a4 hR0 hR1 hR2  FU hf
set_option maxRecDepth 20000 in
theorem cb_X9_factor {w : zV} {N : Nat} {h : zH} {a : Nat} {d : Nat} {R : Nat → Int32 → Int32 → Int32 → Int32 → Int32 → Int32 → (Nat → Int64) → (Nat → Int32) → Option (Int32 × Int32 × Int32 × Int32 × Int32 × (Nat → Int64))} {m_thrown : Int32} {m_next : Int32} {m_error : Int32} {m_place : Int32} {m_began : Int32} {m_nested : Int32} {m_once : Int32} {m_now : Int32} {m_undoable : Int32} {m_bytes : Int32} {m_errorAt : Int32} {m_size : Int32} {m_read : Nat → Int64} {m_text : Nat → Int32} (h_a0 : zc N h (a + 0) (.inr (9, [.int m_thrown, .ref (zo w + (a + 1)), .ref (zo w + (a + 2)), .ref (zo w + (a + 3)), .int m_now, .int m_undoable, .ref (zo w + (a + 4)), .int m_bytes, .int m_errorAt, .int m_size, .int m_next, .int m_error, .int m_place, .int m_began, .int m_nested, .int m_once, .ref (zo w + (a + 5))]))) (h_a2 : zc N h (a + 2) (.inl (w.2.2.1 1, 2500, .inr (.inl m_read)))) (h_a4 : zc N h (a + 4) (.inl (w.2.2.1 0, 900, .inl m_text))) (hR0 : ∀ {h : zH} {a : Nat} {m_thrown : Int32} {m_next : Int32} {m_error : Int32} {m_place : Int32} {m_began : Int32} {m_nested : Int32} {m_once : Int32} {m_now : Int32} {m_undoable : Int32} {m_bytes : Int32} {m_errorAt : Int32} {m_size : Int32} {m_read : Nat → Int64} {m_text : Nat → Int32} {r : Int32 × Int32 × Int32 × Int32 × Int32 × (Nat → Int64)}, zc N h (a + 0) (.inr (9, [.int m_thrown, .ref (zo w + (a + 1)), .ref (zo w + (a + 2)), .ref (zo w + (a + 3)), .int m_now, .int m_undoable, .ref (zo w + (a + 4)), .int m_bytes, .int m_errorAt, .int m_size, .int m_next, .int m_error, .int m_place, .int m_began, .int m_nested, .int m_once, .ref (zo w + (a + 5))])) → zc N h (a + 2) (.inl (w.2.2.1 1, 2500, .inr (.inl m_read))) → zc N h (a + 4) (.inl (w.2.2.1 0, 900, .inl m_text)) → R 0 m_size m_next m_error m_place m_began m_nested m_read m_text = some r → zM w yX9_sum cX9_sum 2 none (zrd d) false N N h [.ref (zo w + a)] (none) (zu h a [(0, .inr (9, [.int m_thrown, .ref (zo w + (a + 1)), .ref (zo w + (a + 2)), .ref (zo w + (a + 3)), .int m_now, .int m_undoable, .ref (zo w + (a + 4)), .int m_bytes, .int m_errorAt, .int m_size, .int r.1, .int r.2.1, .int r.2.2.1, .int r.2.2.2.1, .int r.2.2.2.2.1, .int m_once, .ref (zo w + (a + 5))])), (2, .inl (w.2.2.1 1, 2500, .inr (.inl r.2.2.2.2.2)))])) (hR1 : ∀ {h : zH} {a : Nat} {m_thrown : Int32} {m_next : Int32} {m_error : Int32} {m_place : Int32} {m_began : Int32} {m_nested : Int32} {m_once : Int32} {m_now : Int32} {m_undoable : Int32} {m_bytes : Int32} {m_errorAt : Int32} {m_size : Int32} {m_read : Nat → Int64} {m_text : Nat → Int32} {r : Int32 × Int32 × Int32 × Int32 × Int32 × (Nat → Int64)}, zc N h (a + 0) (.inr (9, [.int m_thrown, .ref (zo w + (a + 1)), .ref (zo w + (a + 2)), .ref (zo w + (a + 3)), .int m_now, .int m_undoable, .ref (zo w + (a + 4)), .int m_bytes, .int m_errorAt, .int m_size, .int m_next, .int m_error, .int m_place, .int m_began, .int m_nested, .int m_once, .ref (zo w + (a + 5))])) → zc N h (a + 2) (.inl (w.2.2.1 1, 2500, .inr (.inl m_read))) → zc N h (a + 4) (.inl (w.2.2.1 0, 900, .inl m_text)) → R 1 m_size m_next m_error m_place m_began m_nested m_read m_text = some r → zM w yX9_term cX9_term 2 none (zrd d) false N N h [.ref (zo w + a)] (none) (zu h a [(0, .inr (9, [.int m_thrown, .ref (zo w + (a + 1)), .ref (zo w + (a + 2)), .ref (zo w + (a + 3)), .int m_now, .int m_undoable, .ref (zo w + (a + 4)), .int m_bytes, .int m_errorAt, .int m_size, .int r.1, .int r.2.1, .int r.2.2.1, .int r.2.2.2.1, .int r.2.2.2.2.1, .int m_once, .ref (zo w + (a + 5))])), (2, .inl (w.2.2.1 1, 2500, .inr (.inl r.2.2.2.2.2)))])) (hR2 : ∀ {h : zH} {a : Nat} {m_thrown : Int32} {m_next : Int32} {m_error : Int32} {m_place : Int32} {m_began : Int32} {m_nested : Int32} {m_once : Int32} {m_now : Int32} {m_undoable : Int32} {m_bytes : Int32} {m_errorAt : Int32} {m_size : Int32} {m_read : Nat → Int64} {m_text : Nat → Int32} {r : Int32 × Int32 × Int32 × Int32 × Int32 × (Nat → Int64)}, zc N h (a + 0) (.inr (9, [.int m_thrown, .ref (zo w + (a + 1)), .ref (zo w + (a + 2)), .ref (zo w + (a + 3)), .int m_now, .int m_undoable, .ref (zo w + (a + 4)), .int m_bytes, .int m_errorAt, .int m_size, .int m_next, .int m_error, .int m_place, .int m_began, .int m_nested, .int m_once, .ref (zo w + (a + 5))])) → zc N h (a + 2) (.inl (w.2.2.1 1, 2500, .inr (.inl m_read))) → zc N h (a + 4) (.inl (w.2.2.1 0, 900, .inl m_text)) → R 2 m_size m_next m_error m_place m_began m_nested m_read m_text = some r → zM w yX9_factor cX9_factor 1 none (zrd d) false N N h [.ref (zo w + a)] (none) (zu h a [(0, .inr (9, [.int m_thrown, .ref (zo w + (a + 1)), .ref (zo w + (a + 2)), .ref (zo w + (a + 3)), .int m_now, .int m_undoable, .ref (zo w + (a + 4)), .int m_bytes, .int m_errorAt, .int m_size, .int r.1, .int r.2.1, .int r.2.2.1, .int r.2.2.2.1, .int r.2.2.2.2.1, .int m_once, .ref (zo w + (a + 5))])), (2, .inl (w.2.2.1 1, 2500, .inr (.inl r.2.2.2.2.2)))])) {r : Int32 × Int32 × Int32 × Int32 × Int32 × (Nat → Int64)} (hf : f_X9_factor R m_size m_next m_error m_place m_began m_nested m_read m_text = some r) : zM w yX9_factor cX9_factor 1 none (zrd (d + 1)) false N N h [.ref (zo w + a)] (none) (zu h a [(0, .inr (9, [.int m_thrown, .ref (zo w + (a + 1)), .ref (zo w + (a + 2)), .ref (zo w + (a + 3)), .int m_now, .int m_undoable, .ref (zo w + (a + 4)), .int m_bytes, .int m_errorAt, .int m_size, .int r.1, .int r.2.1, .int r.2.2.1, .int r.2.2.2.1, .int r.2.2.2.2.1, .int m_once, .ref (zo w + (a + 5))])), (2, .inl (w.2.2.1 1, 2500, .inr (.inl r.2.2.2.2.2)))]) := by
  unfold f_X9_factor at hf
  refine zM_of (by decide) rfl (fun X C _ => ?_)
  refine z_eq (h' := (zu h a [(0, .inr (9, [.int m_thrown, .ref (zo w + (a + 1)), .ref (zo w + (a + 2)), .ref (zo w + (a + 3)), .int m_now, .int m_undoable, .ref (zo w + (a + 4)), .int m_bytes, .int m_errorAt, .int m_size, .int m_next, .int m_error, .int m_place, .int m_began, .int m_nested, .int m_once, .ref (zo w + (a + 5))])), (2, .inl (w.2.2.1 1, 2500, .inr (.inl m_read)))])) (zu_s h_a0 (zu_s h_a2 zu_0)).symm ?_
  have n_a0 := h_a0.1
  have n_a2 := h_a2.1
  refine z_pick (lv' := [(0, .ref (zo w + a))]) [0] rfl ?_
  refine z_aload_n (pc' := 1) C 0 dX9_factor_0 rfl rfl rfl ?_
  refine z_getf (pc' := 4) C zci_9 zw_1195 (j := 11) rfl (zc_i (o := 0) n_a0 rfl) rfl rfl dX9_factor_1 rfl ?_
  refine z_if_eq (pc' := 7) C 8 hf dX9_factor_4 rfl rfl (fun g_4 hf => ?_) (fun g_4 hf => ?_)
  · refine z_aload_n (pc' := 9) C 0 dX9_factor_8 rfl rfl rfl ?_
    refine z_cV (pc' := 12) C hf (As := []) (fun hq => c_X9_sees (a := a) (zc_i (o := 0) n_a0 rfl) (zc_o (o := 4) h_a4 rfl) hq) (fun q_9 => (zu h a [(0, .inr (9, [.int m_thrown, .ref (zo w + (a + 1)), .ref (zo w + (a + 2)), .ref (zo w + (a + 3)), .int m_now, .int m_undoable, .ref (zo w + (a + 4)), .int m_bytes, .int m_errorAt, .int m_size, .int q_9.2, .int m_error, .int m_place, .int m_began, .int m_nested, .int m_once, .ref (zo w + (a + 5))])), (2, .inl (w.2.2.1 1, 2500, .inr (.inl m_read)))])) (fun q_9 => [.int q_9.1]) (fun _ => zu_sh (d := 0) rfl rfl) (fun _ => rfl) zy_X9_sees zw_1272 zw_1274 zv_28 (ci := 9) rfl (zc_i (o := 0) n_a0 rfl) ⟨rfl, rfl⟩ (zRm_c rfl) rfl rfl rfl rfl dX9_factor_9 rfl (fun q_9 hf => ?_)
    refine z_bipush (pc' := 14) C dX9_factor_12 zk_bipush_40 rfl ?_
    refine z_icmp_ne (pc' := 17) C 79 hf dX9_factor_14 rfl rfl (fun g_14 hf => ?_) (fun g_14 hf => ?_)
    · refine z_aload_n (pc' := 80) C 0 dX9_factor_79 rfl rfl rfl ?_
      refine z_cV (pc' := 83) C hf (As := []) (fun hq => c_X9_isDigit (a := a) (zc_i (o := 0) n_a0 rfl) (zc_o (o := 4) h_a4 rfl) hq) (fun q_80 => (zu h a [(0, .inr (9, [.int m_thrown, .ref (zo w + (a + 1)), .ref (zo w + (a + 2)), .ref (zo w + (a + 3)), .int m_now, .int m_undoable, .ref (zo w + (a + 4)), .int m_bytes, .int m_errorAt, .int m_size, .int q_80.2, .int m_error, .int m_place, .int m_began, .int m_nested, .int m_once, .ref (zo w + (a + 5))])), (2, .inl (w.2.2.1 1, 2500, .inr (.inl m_read)))])) (fun q_80 => [.int q_80.1]) (fun _ => zu_sh (d := 0) rfl rfl) (fun _ => rfl) zy_X9_isDigit zw_1287 zw_1289 zv_31 (ci := 9) rfl (zc_i (o := 0) n_a0 rfl) ⟨rfl, rfl⟩ (zRm_c rfl) rfl rfl rfl rfl dX9_factor_80 rfl (fun q_80 hf => ?_)
      refine z_if_eq (pc' := 86) C 102 hf dX9_factor_83 rfl rfl (fun g_83 hf => ?_) (fun g_83 hf => ?_)
      · refine z_aload_n (pc' := 103) C 0 dX9_factor_102 rfl rfl rfl ?_
        refine z_ldcS (pc' := 105) C 22 rfl dX9_factor_103 rfl ?_
        refine z_cV (pc' := 108) C hf (As := [.ref (zsa w 22)]) (fun hq => c_X9_takes (a := a) (zc_i (o := 0) n_a0 rfl) (zc_o (o := 4) h_a4 rfl) (by decide) hq) (fun q_105 => (zu h a [(0, .inr (9, [.int m_thrown, .ref (zo w + (a + 1)), .ref (zo w + (a + 2)), .ref (zo w + (a + 3)), .int m_now, .int m_undoable, .ref (zo w + (a + 4)), .int m_bytes, .int m_errorAt, .int m_size, .int q_105.2, .int m_error, .int m_place, .int m_began, .int m_nested, .int m_once, .ref (zo w + (a + 5))])), (2, .inl (w.2.2.1 1, 2500, .inr (.inl m_read)))])) (fun q_105 => [.int q_105.1]) (fun _ => zu_sh (d := 0) rfl rfl) (fun _ => rfl) zy_X9_takes zw_1264 zw_1266 zv_26 (ci := 9) rfl (zc_i (o := 0) n_a0 rfl) ⟨rfl, rfl⟩ (zRm_c rfl) rfl rfl rfl rfl dX9_factor_105 rfl (fun q_105 hf => ?_)
        refine z_if_eq (pc' := 111) C 120 hf dX9_factor_108 rfl rfl (fun g_108 hf => ?_) (fun g_108 hf => ?_)
        · refine z_aload_n (pc' := 121) C 0 dX9_factor_120 rfl rfl rfl ?_
          refine z_ldcS (pc' := 123) C 23 rfl dX9_factor_121 rfl ?_
          refine z_cV (pc' := 126) C hf (As := [.ref (zsa w 23)]) (fun hq => c_X9_takes (a := a) (zc_i (o := 0) n_a0 rfl) (zc_o (o := 4) h_a4 rfl) (by decide) hq) (fun q_123 => (zu h a [(0, .inr (9, [.int m_thrown, .ref (zo w + (a + 1)), .ref (zo w + (a + 2)), .ref (zo w + (a + 3)), .int m_now, .int m_undoable, .ref (zo w + (a + 4)), .int m_bytes, .int m_errorAt, .int m_size, .int q_123.2, .int m_error, .int m_place, .int m_began, .int m_nested, .int m_once, .ref (zo w + (a + 5))])), (2, .inl (w.2.2.1 1, 2500, .inr (.inl m_read)))])) (fun q_123 => [.int q_123.1]) (fun _ => zu_sh (d := 0) rfl rfl) (fun _ => rfl) zy_X9_takes zw_1264 zw_1266 zv_26 (ci := 9) rfl (zc_i (o := 0) n_a0 rfl) ⟨rfl, rfl⟩ (zRm_c rfl) rfl rfl rfl rfl dX9_factor_123 rfl (fun q_123 hf => ?_)
          refine z_if_eq (pc' := 129) C 138 hf dX9_factor_126 rfl rfl (fun g_126 hf => ?_) (fun g_126 hf => ?_)
          · refine z_aload_n (pc' := 139) C 0 dX9_factor_138 rfl rfl rfl ?_
            refine z_ldcS (pc' := 141) C 24 rfl dX9_factor_139 rfl ?_
            refine z_cV (pc' := 144) C hf (As := [.ref (zsa w 24)]) (fun hq => c_X9_takes (a := a) (zc_i (o := 0) n_a0 rfl) (zc_o (o := 4) h_a4 rfl) (by decide) hq) (fun q_141 => (zu h a [(0, .inr (9, [.int m_thrown, .ref (zo w + (a + 1)), .ref (zo w + (a + 2)), .ref (zo w + (a + 3)), .int m_now, .int m_undoable, .ref (zo w + (a + 4)), .int m_bytes, .int m_errorAt, .int m_size, .int q_141.2, .int m_error, .int m_place, .int m_began, .int m_nested, .int m_once, .ref (zo w + (a + 5))])), (2, .inl (w.2.2.1 1, 2500, .inr (.inl m_read)))])) (fun q_141 => [.int q_141.1]) (fun _ => zu_sh (d := 0) rfl rfl) (fun _ => rfl) zy_X9_takes zw_1264 zw_1266 zv_26 (ci := 9) rfl (zc_i (o := 0) n_a0 rfl) ⟨rfl, rfl⟩ (zRm_c rfl) rfl rfl rfl rfl dX9_factor_141 rfl (fun q_141 hf => ?_)
            refine z_if_eq (pc' := 147) C 156 hf dX9_factor_144 rfl rfl (fun g_144 hf => ?_) (fun g_144 hf => ?_)
            · refine z_aload_n (pc' := 157) C 0 dX9_factor_156 rfl rfl rfl ?_
              refine z_bipush (pc' := 159) C dX9_factor_157 zk_bipush_m2 rfl ?_
              refine z_aload_n (pc' := 160) C 0 dX9_factor_159 rfl rfl rfl ?_
              refine z_getf (pc' := 163) C zci_9 zw_1194 (j := 10) rfl (zc_i (o := 0) n_a0 rfl) rfl rfl dX9_factor_160 rfl ?_
              refine z_cV (pc' := 166) C hf (As := [.int (-2 : Int32), .int q_141.2]) (fun hq => c_X9_fails (a := a) (zc_i (o := 0) n_a0 rfl) hq) (fun q_163 => (zu h a [(0, .inr (9, [.int m_thrown, .ref (zo w + (a + 1)), .ref (zo w + (a + 2)), .ref (zo w + (a + 3)), .int m_now, .int m_undoable, .ref (zo w + (a + 4)), .int m_bytes, .int m_errorAt, .int m_size, .int q_141.2, .int q_163.1, .int q_163.2, .int m_began, .int m_nested, .int m_once, .ref (zo w + (a + 5))])), (2, .inl (w.2.2.1 1, 2500, .inr (.inl m_read)))])) (fun q_163 => []) (fun _ => zu_sh (d := 0) rfl rfl) (fun _ => rfl) zy_X9_fails zw_1278 zw_1280 zv_29 (ci := 9) rfl (zc_i (o := 0) n_a0 rfl) ⟨rfl, rfl⟩ (zRm_c rfl) rfl rfl rfl rfl dX9_factor_163 rfl (fun q_163 hf => ?_)
              cases hf
              exact z_vret C rfl rfl dX9_factor_166
            · refine z_aload_n (pc' := 148) C 0 dX9_factor_147 rfl rfl rfl ?_
              refine z_iconst (pc' := 149) C dX9_factor_148 zk_iconst_1 rfl ?_
              refine z_iconst (pc' := 150) C dX9_factor_149 zk_iconst_2 rfl ?_
              refine z_cV (pc' := 153) C hf (As := [.int (1 : Int32), .int (2 : Int32)]) (fun hq => c_X9_codes (a := a) (zc_i (o := 0) n_a0 rfl) (zc_i (o := 2) n_a2 rfl) hq) (fun q_150 => (zu h a [(0, .inr (9, [.int m_thrown, .ref (zo w + (a + 1)), .ref (zo w + (a + 2)), .ref (zo w + (a + 3)), .int m_now, .int m_undoable, .ref (zo w + (a + 4)), .int m_bytes, .int m_errorAt, .int m_size, .int q_141.2, .int m_error, .int m_place, .int m_began, .int m_nested, .int m_once, .ref (zo w + (a + 5))])), (2, .inl (w.2.2.1 1, 2500, .inr (.inl q_150)))])) (fun q_150 => []) (fun _ => zu_sh (d := 0) rfl rfl) (fun _ => rfl) zy_X9_codes zw_1337 zw_1339 zv_41 (ci := 9) rfl (zc_i (o := 0) n_a0 rfl) ⟨rfl, rfl⟩ (zRm_c rfl) rfl rfl rfl rfl dX9_factor_150 rfl (fun q_150 hf => ?_)
              refine z_goto C 166 dX9_factor_153 rfl ?_
              cases hf
              exact z_vret C rfl rfl dX9_factor_166
          · refine z_aload_n (pc' := 130) C 0 dX9_factor_129 rfl rfl rfl ?_
            refine z_iconst (pc' := 131) C dX9_factor_130 zk_iconst_1 rfl ?_
            refine z_iconst (pc' := 132) C dX9_factor_131 zk_iconst_1 rfl ?_
            refine z_cV (pc' := 135) C hf (As := [.int (1 : Int32), .int (1 : Int32)]) (fun hq => c_X9_codes (a := a) (zc_i (o := 0) n_a0 rfl) (zc_i (o := 2) n_a2 rfl) hq) (fun q_132 => (zu h a [(0, .inr (9, [.int m_thrown, .ref (zo w + (a + 1)), .ref (zo w + (a + 2)), .ref (zo w + (a + 3)), .int m_now, .int m_undoable, .ref (zo w + (a + 4)), .int m_bytes, .int m_errorAt, .int m_size, .int q_123.2, .int m_error, .int m_place, .int m_began, .int m_nested, .int m_once, .ref (zo w + (a + 5))])), (2, .inl (w.2.2.1 1, 2500, .inr (.inl q_132)))])) (fun q_132 => []) (fun _ => zu_sh (d := 0) rfl rfl) (fun _ => rfl) zy_X9_codes zw_1337 zw_1339 zv_41 (ci := 9) rfl (zc_i (o := 0) n_a0 rfl) ⟨rfl, rfl⟩ (zRm_c rfl) rfl rfl rfl rfl dX9_factor_132 rfl (fun q_132 hf => ?_)
            refine z_goto C 166 dX9_factor_135 rfl ?_
            cases hf
            exact z_vret C rfl rfl dX9_factor_166
        · refine z_aload_n (pc' := 112) C 0 dX9_factor_111 rfl rfl rfl ?_
          refine z_iconst (pc' := 113) C dX9_factor_112 zk_iconst_1 rfl ?_
          refine z_iconst (pc' := 114) C dX9_factor_113 zk_iconst_0 rfl ?_
          refine z_cV (pc' := 117) C hf (As := [.int (1 : Int32), .int (0 : Int32)]) (fun hq => c_X9_codes (a := a) (zc_i (o := 0) n_a0 rfl) (zc_i (o := 2) n_a2 rfl) hq) (fun q_114 => (zu h a [(0, .inr (9, [.int m_thrown, .ref (zo w + (a + 1)), .ref (zo w + (a + 2)), .ref (zo w + (a + 3)), .int m_now, .int m_undoable, .ref (zo w + (a + 4)), .int m_bytes, .int m_errorAt, .int m_size, .int q_105.2, .int m_error, .int m_place, .int m_began, .int m_nested, .int m_once, .ref (zo w + (a + 5))])), (2, .inl (w.2.2.1 1, 2500, .inr (.inl q_114)))])) (fun q_114 => []) (fun _ => zu_sh (d := 0) rfl rfl) (fun _ => rfl) zy_X9_codes zw_1337 zw_1339 zv_41 (ci := 9) rfl (zc_i (o := 0) n_a0 rfl) ⟨rfl, rfl⟩ (zRm_c rfl) rfl rfl rfl rfl dX9_factor_114 rfl (fun q_114 hf => ?_)
          refine z_goto C 166 dX9_factor_117 rfl ?_
          cases hf
          exact z_vret C rfl rfl dX9_factor_166
      · refine z_aload_n (pc' := 87) C 0 dX9_factor_86 rfl rfl rfl ?_
        refine z_iconst (pc' := 88) C dX9_factor_87 zk_iconst_0 rfl ?_
        refine z_aload_n (pc' := 89) C 0 dX9_factor_88 rfl rfl rfl ?_
        refine z_iconst (pc' := 90) C dX9_factor_89 zk_iconst_0 rfl ?_
        refine z_sipush (pc' := 93) C dX9_factor_90 zk_sipush_9999 rfl ?_
        refine z_cV (pc' := 96) C hf (As := [.int (0 : Int32), .int (9999 : Int32)]) (fun hq => c_X9_reads (a := a) (zc_i (o := 0) n_a0 rfl) (zc_o (o := 4) h_a4 rfl) hq) (fun q_93 => (zu h a [(0, .inr (9, [.int m_thrown, .ref (zo w + (a + 1)), .ref (zo w + (a + 2)), .ref (zo w + (a + 3)), .int m_now, .int m_undoable, .ref (zo w + (a + 4)), .int m_bytes, .int m_errorAt, .int m_size, .int q_93.2.1, .int q_93.2.2.1, .int q_93.2.2.2.1, .int q_93.2.2.2.2, .int m_nested, .int m_once, .ref (zo w + (a + 5))])), (2, .inl (w.2.2.1 1, 2500, .inr (.inl m_read)))])) (fun q_93 => [.int q_93.1, .int (0 : Int32), .ref (zo w + a)]) (fun _ => zu_sh (d := 0) rfl rfl) (fun _ => rfl) zy_X9_reads zw_1283 zw_1285 zv_30 (ci := 9) rfl (zc_i (o := 0) n_a0 rfl) ⟨rfl, rfl⟩ (zRm_c rfl) rfl rfl rfl rfl dX9_factor_93 rfl (fun q_93 hf => ?_)
        refine z_cV (pc' := 99) C hf (As := [.int (0 : Int32), .int q_93.1]) (fun hq => c_X9_codes (a := a) (zc_i (o := 0) n_a0 rfl) (zc_i (o := 2) n_a2 rfl) hq) (fun q_96 => (zu h a [(0, .inr (9, [.int m_thrown, .ref (zo w + (a + 1)), .ref (zo w + (a + 2)), .ref (zo w + (a + 3)), .int m_now, .int m_undoable, .ref (zo w + (a + 4)), .int m_bytes, .int m_errorAt, .int m_size, .int q_93.2.1, .int q_93.2.2.1, .int q_93.2.2.2.1, .int q_93.2.2.2.2, .int m_nested, .int m_once, .ref (zo w + (a + 5))])), (2, .inl (w.2.2.1 1, 2500, .inr (.inl q_96)))])) (fun q_96 => []) (fun _ => zu_sh (d := 0) rfl rfl) (fun _ => rfl) zy_X9_codes zw_1337 zw_1339 zv_41 (ci := 9) rfl (zc_i (o := 0) n_a0 rfl) ⟨rfl, rfl⟩ (zRm_c rfl) rfl rfl rfl rfl dX9_factor_96 rfl (fun q_96 hf => ?_)
        refine z_goto C 166 dX9_factor_99 rfl ?_
        cases hf
        exact z_vret C rfl rfl dX9_factor_166
    · refine z_aload_n (pc' := 18) C 0 dX9_factor_17 rfl rfl rfl ?_
      refine z_getf (pc' := 21) C zci_9 zw_1198 (j := 14) rfl (zc_i (o := 0) n_a0 rfl) rfl rfl dX9_factor_18 rfl ?_
      refine z_iconst (pc' := 22) C dX9_factor_21 zk_iconst_4 rfl ?_
      refine z_icmp_ne (pc' := 25) C 36 hf dX9_factor_22 rfl rfl (fun g_22 hf => ?_) (fun g_22 hf => ?_)
      · refine z_aload_n (pc' := 37) C 0 dX9_factor_36 rfl rfl rfl ?_
        refine z_dup (pc' := 38) C dX9_factor_37 rfl rfl ?_
        refine z_getf (pc' := 41) C zci_9 zw_1198 (j := 14) rfl (zc_i (o := 0) n_a0 rfl) rfl rfl dX9_factor_38 rfl ?_
        refine z_iconst (pc' := 42) C dX9_factor_41 zk_iconst_1 rfl ?_
        refine z_iadd (pc' := 43) C dX9_factor_42 rfl ?_
        refine z_putf (pc' := 46) C zci_9 zw_1198 (j := 14) rfl (zc_i (o := 0) n_a0 rfl) (fs' := [.int m_thrown, .ref (zo w + (a + 1)), .ref (zo w + (a + 2)), .ref (zo w + (a + 3)), .int m_now, .int m_undoable, .ref (zo w + (a + 4)), .int m_bytes, .int m_errorAt, .int m_size, .int q_9.2, .int m_error, .int m_place, .int m_began, .int (m_nested + (1 : Int32)), .int m_once, .ref (zo w + (a + 5))]) rfl rfl rfl rfl rfl (zu_put (o := 0) (L' := [(0, .inr (9, [.int m_thrown, .ref (zo w + (a + 1)), .ref (zo w + (a + 2)), .ref (zo w + (a + 3)), .int m_now, .int m_undoable, .ref (zo w + (a + 4)), .int m_bytes, .int m_errorAt, .int m_size, .int q_9.2, .int m_error, .int m_place, .int m_began, .int (m_nested + (1 : Int32)), .int m_once, .ref (zo w + (a + 5))])), (2, .inl (w.2.2.1 1, 2500, .inr (.inl m_read)))]) rfl) dX9_factor_43 rfl ?_
        refine z_aload_n (pc' := 47) C 0 dX9_factor_46 rfl rfl rfl ?_
        refine z_dup (pc' := 48) C dX9_factor_47 rfl rfl ?_
        refine z_getf (pc' := 51) C zci_9 zw_1194 (j := 10) rfl (zc_i (o := 0) n_a0 rfl) rfl rfl dX9_factor_48 rfl ?_
        refine z_iconst (pc' := 52) C dX9_factor_51 zk_iconst_1 rfl ?_
        refine z_iadd (pc' := 53) C dX9_factor_52 rfl ?_
        refine z_putf (pc' := 56) C zci_9 zw_1194 (j := 10) rfl (zc_i (o := 0) n_a0 rfl) (fs' := [.int m_thrown, .ref (zo w + (a + 1)), .ref (zo w + (a + 2)), .ref (zo w + (a + 3)), .int m_now, .int m_undoable, .ref (zo w + (a + 4)), .int m_bytes, .int m_errorAt, .int m_size, .int (q_9.2 + (1 : Int32)), .int m_error, .int m_place, .int m_began, .int (m_nested + (1 : Int32)), .int m_once, .ref (zo w + (a + 5))]) rfl rfl rfl rfl rfl (zu_put (o := 0) (L' := [(0, .inr (9, [.int m_thrown, .ref (zo w + (a + 1)), .ref (zo w + (a + 2)), .ref (zo w + (a + 3)), .int m_now, .int m_undoable, .ref (zo w + (a + 4)), .int m_bytes, .int m_errorAt, .int m_size, .int (q_9.2 + (1 : Int32)), .int m_error, .int m_place, .int m_began, .int (m_nested + (1 : Int32)), .int m_once, .ref (zo w + (a + 5))])), (2, .inl (w.2.2.1 1, 2500, .inr (.inl m_read)))]) rfl) dX9_factor_53 rfl ?_
        refine z_aload_n (pc' := 57) C 0 dX9_factor_56 rfl rfl rfl ?_
        refine z_cV (pc' := 60) C hf (As := []) (fun hq => hR0 (a := a) (zc_i (o := 0) n_a0 rfl) (zc_i (o := 2) n_a2 rfl) (zc_o (o := 4) h_a4 rfl) hq) (fun q_57 => (zu h a [(0, .inr (9, [.int m_thrown, .ref (zo w + (a + 1)), .ref (zo w + (a + 2)), .ref (zo w + (a + 3)), .int m_now, .int m_undoable, .ref (zo w + (a + 4)), .int m_bytes, .int m_errorAt, .int m_size, .int q_57.1, .int q_57.2.1, .int q_57.2.2.1, .int q_57.2.2.2.1, .int q_57.2.2.2.2.1, .int m_once, .ref (zo w + (a + 5))])), (2, .inl (w.2.2.1 1, 2500, .inr (.inl q_57.2.2.2.2.2)))])) (fun q_57 => []) (fun _ => zu_sh (d := 0) rfl rfl) (fun _ => rfl) zy_X9_sum zw_1325 zw_1327 zv_38 (ci := 9) rfl (zc_i (o := 0) n_a0 rfl) ⟨rfl, rfl⟩ zRm_r rfl rfl rfl rfl dX9_factor_57 rfl (fun q_57 hf => ?_)
        refine z_aload_n (pc' := 61) C 0 dX9_factor_60 rfl rfl rfl ?_
        refine z_bipush (pc' := 63) C dX9_factor_61 zk_bipush_41 rfl ?_
        refine z_cV (pc' := 66) C hf (As := [.int (41 : Int32)]) (fun hq => c_X9_wants (a := a) (zc_i (o := 0) n_a0 rfl) (zc_o (o := 4) h_a4 rfl) hq) (fun q_63 => (zu h a [(0, .inr (9, [.int m_thrown, .ref (zo w + (a + 1)), .ref (zo w + (a + 2)), .ref (zo w + (a + 3)), .int m_now, .int m_undoable, .ref (zo w + (a + 4)), .int m_bytes, .int m_errorAt, .int m_size, .int q_63.1, .int q_63.2.1, .int q_63.2.2, .int q_57.2.2.2.1, .int q_57.2.2.2.2.1, .int m_once, .ref (zo w + (a + 5))])), (2, .inl (w.2.2.1 1, 2500, .inr (.inl q_57.2.2.2.2.2)))])) (fun q_63 => []) (fun _ => zu_sh (d := 0) rfl rfl) (fun _ => rfl) zy_X9_wants zw_1293 zw_1295 zv_32 (ci := 9) rfl (zc_i (o := 0) n_a0 rfl) ⟨rfl, rfl⟩ (zRm_c rfl) rfl rfl rfl rfl dX9_factor_63 rfl (fun q_63 hf => ?_)
        refine z_aload_n (pc' := 67) C 0 dX9_factor_66 rfl rfl rfl ?_
        refine z_dup (pc' := 68) C dX9_factor_67 rfl rfl ?_
        refine z_getf (pc' := 71) C zci_9 zw_1198 (j := 14) rfl (zc_i (o := 0) n_a0 rfl) rfl rfl dX9_factor_68 rfl ?_
        refine z_iconst (pc' := 72) C dX9_factor_71 zk_iconst_1 rfl ?_
        refine z_isub (pc' := 73) C dX9_factor_72 rfl ?_
        refine z_putf (pc' := 76) C zci_9 zw_1198 (j := 14) rfl (zc_i (o := 0) n_a0 rfl) (fs' := [.int m_thrown, .ref (zo w + (a + 1)), .ref (zo w + (a + 2)), .ref (zo w + (a + 3)), .int m_now, .int m_undoable, .ref (zo w + (a + 4)), .int m_bytes, .int m_errorAt, .int m_size, .int q_63.1, .int q_63.2.1, .int q_63.2.2, .int q_57.2.2.2.1, .int (q_57.2.2.2.2.1 - (1 : Int32)), .int m_once, .ref (zo w + (a + 5))]) rfl rfl rfl rfl rfl (zu_put (o := 0) (L' := [(0, .inr (9, [.int m_thrown, .ref (zo w + (a + 1)), .ref (zo w + (a + 2)), .ref (zo w + (a + 3)), .int m_now, .int m_undoable, .ref (zo w + (a + 4)), .int m_bytes, .int m_errorAt, .int m_size, .int q_63.1, .int q_63.2.1, .int q_63.2.2, .int q_57.2.2.2.1, .int (q_57.2.2.2.2.1 - (1 : Int32)), .int m_once, .ref (zo w + (a + 5))])), (2, .inl (w.2.2.1 1, 2500, .inr (.inl q_57.2.2.2.2.2)))]) rfl) dX9_factor_73 rfl ?_
        refine z_goto C 166 dX9_factor_76 rfl ?_
        cases hf
        exact z_vret C rfl rfl dX9_factor_166
      · refine z_aload_n (pc' := 26) C 0 dX9_factor_25 rfl rfl rfl ?_
        refine z_bipush (pc' := 28) C dX9_factor_26 zk_bipush_m5 rfl ?_
        refine z_aload_n (pc' := 29) C 0 dX9_factor_28 rfl rfl rfl ?_
        refine z_getf (pc' := 32) C zci_9 zw_1194 (j := 10) rfl (zc_i (o := 0) n_a0 rfl) rfl rfl dX9_factor_29 rfl ?_
        refine z_cV (pc' := 35) C hf (As := [.int (-5 : Int32), .int q_9.2]) (fun hq => c_X9_fails (a := a) (zc_i (o := 0) n_a0 rfl) hq) (fun q_32 => (zu h a [(0, .inr (9, [.int m_thrown, .ref (zo w + (a + 1)), .ref (zo w + (a + 2)), .ref (zo w + (a + 3)), .int m_now, .int m_undoable, .ref (zo w + (a + 4)), .int m_bytes, .int m_errorAt, .int m_size, .int q_9.2, .int q_32.1, .int q_32.2, .int m_began, .int m_nested, .int m_once, .ref (zo w + (a + 5))])), (2, .inl (w.2.2.1 1, 2500, .inr (.inl m_read)))])) (fun q_32 => []) (fun _ => zu_sh (d := 0) rfl rfl) (fun _ => rfl) zy_X9_fails zw_1278 zw_1280 zv_29 (ci := 9) rfl (zc_i (o := 0) n_a0 rfl) ⟨rfl, rfl⟩ (zRm_c rfl) rfl rfl rfl rfl dX9_factor_32 rfl (fun q_32 hf => ?_)
        cases hf
        exact z_vret C rfl rfl dX9_factor_35
  · cases hf
    exact z_vret C rfl rfl dX9_factor_7
theorem c_X9_rec {w : zV} {N : Nat} : ∀ d : Nat, (∀ {h : zH} {a : Nat} {m_thrown : Int32} {m_next : Int32} {m_error : Int32} {m_place : Int32} {m_began : Int32} {m_nested : Int32} {m_once : Int32} {m_now : Int32} {m_undoable : Int32} {m_bytes : Int32} {m_errorAt : Int32} {m_size : Int32} {m_read : Nat → Int64} {m_text : Nat → Int32} {r : Int32 × Int32 × Int32 × Int32 × Int32 × (Nat → Int64)}, zc N h (a + 0) (.inr (9, [.int m_thrown, .ref (zo w + (a + 1)), .ref (zo w + (a + 2)), .ref (zo w + (a + 3)), .int m_now, .int m_undoable, .ref (zo w + (a + 4)), .int m_bytes, .int m_errorAt, .int m_size, .int m_next, .int m_error, .int m_place, .int m_began, .int m_nested, .int m_once, .ref (zo w + (a + 5))])) → zc N h (a + 2) (.inl (w.2.2.1 1, 2500, .inr (.inl m_read))) → zc N h (a + 4) (.inl (w.2.2.1 0, 900, .inl m_text)) → f_X9_rec d 0 m_size m_next m_error m_place m_began m_nested m_read m_text = some r → zM w yX9_sum cX9_sum 2 none (zrd d) false N N h [.ref (zo w + a)] (none) (zu h a [(0, .inr (9, [.int m_thrown, .ref (zo w + (a + 1)), .ref (zo w + (a + 2)), .ref (zo w + (a + 3)), .int m_now, .int m_undoable, .ref (zo w + (a + 4)), .int m_bytes, .int m_errorAt, .int m_size, .int r.1, .int r.2.1, .int r.2.2.1, .int r.2.2.2.1, .int r.2.2.2.2.1, .int m_once, .ref (zo w + (a + 5))])), (2, .inl (w.2.2.1 1, 2500, .inr (.inl r.2.2.2.2.2)))])) ∧ (∀ {h : zH} {a : Nat} {m_thrown : Int32} {m_next : Int32} {m_error : Int32} {m_place : Int32} {m_began : Int32} {m_nested : Int32} {m_once : Int32} {m_now : Int32} {m_undoable : Int32} {m_bytes : Int32} {m_errorAt : Int32} {m_size : Int32} {m_read : Nat → Int64} {m_text : Nat → Int32} {r : Int32 × Int32 × Int32 × Int32 × Int32 × (Nat → Int64)}, zc N h (a + 0) (.inr (9, [.int m_thrown, .ref (zo w + (a + 1)), .ref (zo w + (a + 2)), .ref (zo w + (a + 3)), .int m_now, .int m_undoable, .ref (zo w + (a + 4)), .int m_bytes, .int m_errorAt, .int m_size, .int m_next, .int m_error, .int m_place, .int m_began, .int m_nested, .int m_once, .ref (zo w + (a + 5))])) → zc N h (a + 2) (.inl (w.2.2.1 1, 2500, .inr (.inl m_read))) → zc N h (a + 4) (.inl (w.2.2.1 0, 900, .inl m_text)) → f_X9_rec d 1 m_size m_next m_error m_place m_began m_nested m_read m_text = some r → zM w yX9_term cX9_term 2 none (zrd d) false N N h [.ref (zo w + a)] (none) (zu h a [(0, .inr (9, [.int m_thrown, .ref (zo w + (a + 1)), .ref (zo w + (a + 2)), .ref (zo w + (a + 3)), .int m_now, .int m_undoable, .ref (zo w + (a + 4)), .int m_bytes, .int m_errorAt, .int m_size, .int r.1, .int r.2.1, .int r.2.2.1, .int r.2.2.2.1, .int r.2.2.2.2.1, .int m_once, .ref (zo w + (a + 5))])), (2, .inl (w.2.2.1 1, 2500, .inr (.inl r.2.2.2.2.2)))])) ∧ (∀ {h : zH} {a : Nat} {m_thrown : Int32} {m_next : Int32} {m_error : Int32} {m_place : Int32} {m_began : Int32} {m_nested : Int32} {m_once : Int32} {m_now : Int32} {m_undoable : Int32} {m_bytes : Int32} {m_errorAt : Int32} {m_size : Int32} {m_read : Nat → Int64} {m_text : Nat → Int32} {r : Int32 × Int32 × Int32 × Int32 × Int32 × (Nat → Int64)}, zc N h (a + 0) (.inr (9, [.int m_thrown, .ref (zo w + (a + 1)), .ref (zo w + (a + 2)), .ref (zo w + (a + 3)), .int m_now, .int m_undoable, .ref (zo w + (a + 4)), .int m_bytes, .int m_errorAt, .int m_size, .int m_next, .int m_error, .int m_place, .int m_began, .int m_nested, .int m_once, .ref (zo w + (a + 5))])) → zc N h (a + 2) (.inl (w.2.2.1 1, 2500, .inr (.inl m_read))) → zc N h (a + 4) (.inl (w.2.2.1 0, 900, .inl m_text)) → f_X9_rec d 2 m_size m_next m_error m_place m_began m_nested m_read m_text = some r → zM w yX9_factor cX9_factor 1 none (zrd d) false N N h [.ref (zo w + a)] (none) (zu h a [(0, .inr (9, [.int m_thrown, .ref (zo w + (a + 1)), .ref (zo w + (a + 2)), .ref (zo w + (a + 3)), .int m_now, .int m_undoable, .ref (zo w + (a + 4)), .int m_bytes, .int m_errorAt, .int m_size, .int r.1, .int r.2.1, .int r.2.2.1, .int r.2.2.2.1, .int r.2.2.2.2.1, .int m_once, .ref (zo w + (a + 5))])), (2, .inl (w.2.2.1 1, 2500, .inr (.inl r.2.2.2.2.2)))])) := by
  intro d
  induction d with
  | zero => exact ⟨(fun g0 g1 g2 hf => absurd (show (none : Option (Int32 × Int32 × Int32 × Int32 × Int32 × (Nat → Int64))) = some _ from hf) (fun q => by cases q)), (fun g0 g1 g2 hf => absurd (show (none : Option (Int32 × Int32 × Int32 × Int32 × Int32 × (Nat → Int64))) = some _ from hf) (fun q => by cases q)), (fun g0 g1 g2 hf => absurd (show (none : Option (Int32 × Int32 × Int32 × Int32 × Int32 × (Nat → Int64))) = some _ from hf) (fun q => by cases q))⟩
  | succ d ih => exact ⟨(fun g0 g1 g2 hf => cb_X9_sum g0 g1 g2 ih.1 ih.2.1 ih.2.2 hf), (fun g0 g1 g2 hf => cb_X9_term g0 g1 g2 ih.1 ih.2.1 ih.2.2 hf), (fun g0 g1 g2 hf => cb_X9_factor g0 g1 g2 ih.1 ih.2.1 ih.2.2 hf)⟩
theorem c_X9_sum {w : zV} {N : Nat} : ∀ {h : zH} {a : Nat} {m_thrown : Int32} {m_next : Int32} {m_error : Int32} {m_place : Int32} {m_began : Int32} {m_nested : Int32} {m_once : Int32} {m_now : Int32} {m_undoable : Int32} {m_bytes : Int32} {m_errorAt : Int32} {m_size : Int32} {m_read : Nat → Int64} {m_text : Nat → Int32} {r : Int32 × Int32 × Int32 × Int32 × Int32 × (Nat → Int64)}, zc N h (a + 0) (.inr (9, [.int m_thrown, .ref (zo w + (a + 1)), .ref (zo w + (a + 2)), .ref (zo w + (a + 3)), .int m_now, .int m_undoable, .ref (zo w + (a + 4)), .int m_bytes, .int m_errorAt, .int m_size, .int m_next, .int m_error, .int m_place, .int m_began, .int m_nested, .int m_once, .ref (zo w + (a + 5))])) → zc N h (a + 2) (.inl (w.2.2.1 1, 2500, .inr (.inl m_read))) → zc N h (a + 4) (.inl (w.2.2.1 0, 900, .inl m_text)) → f_X9_rec DR 0 m_size m_next m_error m_place m_began m_nested m_read m_text = some r → zM w yX9_sum cX9_sum 2 none (zr 32 1700) false N N h [.ref (zo w + a)] (none) (zu h a [(0, .inr (9, [.int m_thrown, .ref (zo w + (a + 1)), .ref (zo w + (a + 2)), .ref (zo w + (a + 3)), .int m_now, .int m_undoable, .ref (zo w + (a + 4)), .int m_bytes, .int m_errorAt, .int m_size, .int r.1, .int r.2.1, .int r.2.2.1, .int r.2.2.2.1, .int r.2.2.2.2.1, .int m_once, .ref (zo w + (a + 5))])), (2, .inl (w.2.2.1 1, 2500, .inr (.inl r.2.2.2.2.2)))]) := (c_X9_rec DR).1
theorem c_X9_term {w : zV} {N : Nat} : ∀ {h : zH} {a : Nat} {m_thrown : Int32} {m_next : Int32} {m_error : Int32} {m_place : Int32} {m_began : Int32} {m_nested : Int32} {m_once : Int32} {m_now : Int32} {m_undoable : Int32} {m_bytes : Int32} {m_errorAt : Int32} {m_size : Int32} {m_read : Nat → Int64} {m_text : Nat → Int32} {r : Int32 × Int32 × Int32 × Int32 × Int32 × (Nat → Int64)}, zc N h (a + 0) (.inr (9, [.int m_thrown, .ref (zo w + (a + 1)), .ref (zo w + (a + 2)), .ref (zo w + (a + 3)), .int m_now, .int m_undoable, .ref (zo w + (a + 4)), .int m_bytes, .int m_errorAt, .int m_size, .int m_next, .int m_error, .int m_place, .int m_began, .int m_nested, .int m_once, .ref (zo w + (a + 5))])) → zc N h (a + 2) (.inl (w.2.2.1 1, 2500, .inr (.inl m_read))) → zc N h (a + 4) (.inl (w.2.2.1 0, 900, .inl m_text)) → f_X9_rec DR 1 m_size m_next m_error m_place m_began m_nested m_read m_text = some r → zM w yX9_term cX9_term 2 none (zr 32 1700) false N N h [.ref (zo w + a)] (none) (zu h a [(0, .inr (9, [.int m_thrown, .ref (zo w + (a + 1)), .ref (zo w + (a + 2)), .ref (zo w + (a + 3)), .int m_now, .int m_undoable, .ref (zo w + (a + 4)), .int m_bytes, .int m_errorAt, .int m_size, .int r.1, .int r.2.1, .int r.2.2.1, .int r.2.2.2.1, .int r.2.2.2.2.1, .int m_once, .ref (zo w + (a + 5))])), (2, .inl (w.2.2.1 1, 2500, .inr (.inl r.2.2.2.2.2)))]) := (c_X9_rec DR).2.1
theorem c_X9_factor {w : zV} {N : Nat} : ∀ {h : zH} {a : Nat} {m_thrown : Int32} {m_next : Int32} {m_error : Int32} {m_place : Int32} {m_began : Int32} {m_nested : Int32} {m_once : Int32} {m_now : Int32} {m_undoable : Int32} {m_bytes : Int32} {m_errorAt : Int32} {m_size : Int32} {m_read : Nat → Int64} {m_text : Nat → Int32} {r : Int32 × Int32 × Int32 × Int32 × Int32 × (Nat → Int64)}, zc N h (a + 0) (.inr (9, [.int m_thrown, .ref (zo w + (a + 1)), .ref (zo w + (a + 2)), .ref (zo w + (a + 3)), .int m_now, .int m_undoable, .ref (zo w + (a + 4)), .int m_bytes, .int m_errorAt, .int m_size, .int m_next, .int m_error, .int m_place, .int m_began, .int m_nested, .int m_once, .ref (zo w + (a + 5))])) → zc N h (a + 2) (.inl (w.2.2.1 1, 2500, .inr (.inl m_read))) → zc N h (a + 4) (.inl (w.2.2.1 0, 900, .inl m_text)) → f_X9_rec DR 2 m_size m_next m_error m_place m_began m_nested m_read m_text = some r → zM w yX9_factor cX9_factor 1 none (zr 32 1700) false N N h [.ref (zo w + a)] (none) (zu h a [(0, .inr (9, [.int m_thrown, .ref (zo w + (a + 1)), .ref (zo w + (a + 2)), .ref (zo w + (a + 3)), .int m_now, .int m_undoable, .ref (zo w + (a + 4)), .int m_bytes, .int m_errorAt, .int m_size, .int r.1, .int r.2.1, .int r.2.2.1, .int r.2.2.2.1, .int r.2.2.2.2.1, .int m_once, .ref (zo w + (a + 5))])), (2, .inl (w.2.2.1 1, 2500, .inr (.inl r.2.2.2.2.2)))]) := (c_X9_rec DR).2.2
set_option maxRecDepth 20000 in
theorem w_X9_first_19 {X : zC} {w : zV} {N : Nat} {h : zH} {a : Nat} {m_thrown : Int32} {m_next : Int32} {m_began : Int32} {m_nested : Int32} {m_now : Int32} {m_undoable : Int32} {m_bytes : Int32} {m_errorAt : Int32} {m_size : Int32} (C : zK X w RX9 cX9_first 3 (some .boolean) (zr 1 30)) (n_a0 : a + 0 < N) {r : Int32 × Int32 × Int32 × Int32} {m_error : Int32} {m_place : Int32} {m_once : Int32} {x1 : Int32} (hf : f_X9_first_19  m_error m_place m_once x1 = some r) : zZ X w (zQ X w (zr 1 30) (some (.int r.1)) false N (zu h a [(0, .inr (9, [.int m_thrown, .ref (zo w + (a + 1)), .ref (zo w + (a + 2)), .ref (zo w + (a + 3)), .int m_now, .int m_undoable, .ref (zo w + (a + 4)), .int m_bytes, .int m_errorAt, .int m_size, .int m_next, .int r.2.1, .int r.2.2.1, .int m_began, .int m_nested, .int r.2.2.2, .ref (zo w + (a + 5))]))])) 0 0 false N (zu h a [(0, .inr (9, [.int m_thrown, .ref (zo w + (a + 1)), .ref (zo w + (a + 2)), .ref (zo w + (a + 3)), .int m_now, .int m_undoable, .ref (zo w + (a + 4)), .int m_bytes, .int m_errorAt, .int m_size, .int m_next, .int m_error, .int m_place, .int m_began, .int m_nested, .int m_once, .ref (zo w + (a + 5))]))]) 19 [(0, .ref (zo w + a)), (1, .int x1)] [] := by
  unfold f_X9_first_19 at hf
  refine z_aload_n (pc' := 20) C 0 dX9_first_19 rfl rfl rfl ?_
  refine z_dup (pc' := 21) C dX9_first_20 rfl rfl ?_
  refine z_getf (pc' := 24) C zci_9 zw_1199 (j := 15) rfl (zc_i (o := 0) n_a0 rfl) rfl rfl dX9_first_21 rfl ?_
  refine z_iconst (pc' := 25) C dX9_first_24 zk_iconst_1 rfl ?_
  refine z_iload_n (pc' := 26) C 1 dX9_first_25 rfl rfl rfl ?_
  refine z_ishl (pc' := 27) C dX9_first_26 rfl ?_
  refine z_ior (pc' := 28) C dX9_first_27 rfl ?_
  refine z_putf (pc' := 31) C zci_9 zw_1199 (j := 15) rfl (zc_i (o := 0) n_a0 rfl) (fs' := [.int m_thrown, .ref (zo w + (a + 1)), .ref (zo w + (a + 2)), .ref (zo w + (a + 3)), .int m_now, .int m_undoable, .ref (zo w + (a + 4)), .int m_bytes, .int m_errorAt, .int m_size, .int m_next, .int m_error, .int m_place, .int m_began, .int m_nested, .int (m_once ||| ((1 : Int32) <<< (x1 &&& 31))), .ref (zo w + (a + 5))]) rfl rfl rfl rfl rfl (zu_put (o := 0) (L' := [(0, .inr (9, [.int m_thrown, .ref (zo w + (a + 1)), .ref (zo w + (a + 2)), .ref (zo w + (a + 3)), .int m_now, .int m_undoable, .ref (zo w + (a + 4)), .int m_bytes, .int m_errorAt, .int m_size, .int m_next, .int m_error, .int m_place, .int m_began, .int m_nested, .int (m_once ||| ((1 : Int32) <<< (x1 &&& 31))), .ref (zo w + (a + 5))]))]) rfl) dX9_first_28 rfl ?_
  refine z_aload_n (pc' := 32) C 0 dX9_first_31 rfl rfl rfl ?_
  refine z_getf (pc' := 35) C zci_9 zw_1195 (j := 11) rfl (zc_i (o := 0) n_a0 rfl) rfl rfl dX9_first_32 rfl ?_
  refine z_if_ne (pc' := 38) C 42 hf dX9_first_35 rfl rfl (fun g_35 hf => ?_) (fun g_35 hf => ?_)
  · refine z_iconst (pc' := 43) C dX9_first_42 zk_iconst_0 rfl ?_
    cases hf
    exact z_zret C zb_0 rfl rfl dX9_first_43
  · refine z_iconst (pc' := 39) C dX9_first_38 zk_iconst_1 rfl ?_
    refine z_goto C 43 dX9_first_39 rfl ?_
    cases hf
    exact z_zret C zb_1 rfl rfl dX9_first_43
set_option maxRecDepth 20000 in
theorem c_X9_first {w : zV} {N : Nat} {h : zH} {a : Nat} {m_thrown : Int32} {m_next : Int32} {m_error : Int32} {m_place : Int32} {m_began : Int32} {m_nested : Int32} {m_once : Int32} {m_now : Int32} {m_undoable : Int32} {m_bytes : Int32} {m_errorAt : Int32} {m_size : Int32} {p1 : Int32} {p2 : Int32} (h_a0 : zc N h (a + 0) (.inr (9, [.int m_thrown, .ref (zo w + (a + 1)), .ref (zo w + (a + 2)), .ref (zo w + (a + 3)), .int m_now, .int m_undoable, .ref (zo w + (a + 4)), .int m_bytes, .int m_errorAt, .int m_size, .int m_next, .int m_error, .int m_place, .int m_began, .int m_nested, .int m_once, .ref (zo w + (a + 5))]))) {r : Int32 × Int32 × Int32 × Int32} (hf : f_X9_first m_error m_place m_once p1 p2 = some r) : zM w yX9_first cX9_first 3 (some .boolean) (zr 1 30) false N N h [.ref (zo w + a), .int p1, .int p2] (some (.int r.1)) (zu h a [(0, .inr (9, [.int m_thrown, .ref (zo w + (a + 1)), .ref (zo w + (a + 2)), .ref (zo w + (a + 3)), .int m_now, .int m_undoable, .ref (zo w + (a + 4)), .int m_bytes, .int m_errorAt, .int m_size, .int m_next, .int r.2.1, .int r.2.2.1, .int m_began, .int m_nested, .int r.2.2.2, .ref (zo w + (a + 5))]))]) := by
  unfold f_X9_first at hf
  refine zM_of (by decide) rfl (fun X C _ => ?_)
  refine z_eq (h' := (zu h a [(0, .inr (9, [.int m_thrown, .ref (zo w + (a + 1)), .ref (zo w + (a + 2)), .ref (zo w + (a + 3)), .int m_now, .int m_undoable, .ref (zo w + (a + 4)), .int m_bytes, .int m_errorAt, .int m_size, .int m_next, .int m_error, .int m_place, .int m_began, .int m_nested, .int m_once, .ref (zo w + (a + 5))]))])) (zu_s h_a0 zu_0).symm ?_
  have n_a0 := h_a0.1
  refine z_pick (lv' := [(0, .ref (zo w + a)), (1, .int p1), (2, .int p2)]) [0, 1, 2] rfl ?_
  refine z_aload_n (pc' := 1) C 0 dX9_first_0 rfl rfl rfl ?_
  refine z_getf (pc' := 4) C zci_9 zw_1199 (j := 15) rfl (zc_i (o := 0) n_a0 rfl) rfl rfl dX9_first_1 rfl ?_
  refine z_iload_n (pc' := 5) C 1 dX9_first_4 rfl rfl rfl ?_
  refine z_ishr (pc' := 6) C dX9_first_5 rfl ?_
  refine z_iconst (pc' := 7) C dX9_first_6 zk_iconst_1 rfl ?_
  refine z_iand (pc' := 8) C dX9_first_7 rfl ?_
  refine z_iconst (pc' := 9) C dX9_first_8 zk_iconst_1 rfl ?_
  refine z_icmp_ne (pc' := 12) C 19 hf dX9_first_9 rfl rfl (fun g_9 hf => ?_) (fun g_9 hf => ?_)
  · refine z_pick (lv' := [(0, .ref (zo w + a)), (1, .int p1)]) [0, 1] rfl ?_
    exact w_X9_first_19 C n_a0  hf
  · refine z_aload_n (pc' := 13) C 0 dX9_first_12 rfl rfl rfl ?_
    refine z_bipush (pc' := 15) C dX9_first_13 zk_bipush_m2 rfl ?_
    refine z_iload_n (pc' := 16) C 2 dX9_first_15 rfl rfl rfl ?_
    refine z_cV (pc' := 19) C hf (As := [.int (-2 : Int32), .int p2]) (fun hq => c_X9_fails (a := a) (zc_i (o := 0) n_a0 rfl) hq) (fun q_16 => (zu h a [(0, .inr (9, [.int m_thrown, .ref (zo w + (a + 1)), .ref (zo w + (a + 2)), .ref (zo w + (a + 3)), .int m_now, .int m_undoable, .ref (zo w + (a + 4)), .int m_bytes, .int m_errorAt, .int m_size, .int m_next, .int q_16.1, .int q_16.2, .int m_began, .int m_nested, .int m_once, .ref (zo w + (a + 5))]))])) (fun q_16 => []) (fun _ => zu_sh (d := 0) rfl rfl) (fun _ => rfl) zy_X9_fails zw_1278 zw_1280 zv_29 (ci := 9) rfl (zc_i (o := 0) n_a0 rfl) ⟨rfl, rfl⟩ rfl rfl rfl rfl rfl dX9_first_16 rfl (fun q_16 hf => ?_)
    refine z_pick (lv' := [(0, .ref (zo w + a)), (1, .int p1)]) [0, 1] rfl ?_
    exact w_X9_first_19 C n_a0  hf
set_option maxRecDepth 20000 in
theorem c_X9_terms {w : zV} {N : Nat} {h : zH} {a : Nat} {m_thrown : Int32} {m_next : Int32} {m_error : Int32} {m_place : Int32} {m_began : Int32} {m_nested : Int32} {m_once : Int32} {m_now : Int32} {m_undoable : Int32} {m_bytes : Int32} {m_errorAt : Int32} {m_size : Int32} {m_read : Nat → Int64} {m_text : Nat → Int32} {p1 : Int32} (h_a0 : zc N h (a + 0) (.inr (9, [.int m_thrown, .ref (zo w + (a + 1)), .ref (zo w + (a + 2)), .ref (zo w + (a + 3)), .int m_now, .int m_undoable, .ref (zo w + (a + 4)), .int m_bytes, .int m_errorAt, .int m_size, .int m_next, .int m_error, .int m_place, .int m_began, .int m_nested, .int m_once, .ref (zo w + (a + 5))]))) (h_a2 : zc N h (a + 2) (.inl (w.2.2.1 1, 2500, .inr (.inl m_read)))) (h_a4 : zc N h (a + 4) (.inl (w.2.2.1 0, 900, .inl m_text))) {r : Int32 × Int32 × Int32 × Int32 × (Nat → Int64)} (hf : f_X9_terms m_size m_next m_error m_place m_began m_read m_text p1 = some r) : zM w yX9_terms cX9_terms 2 none (zr 3 87) false N N h [.ref (zo w + a), .int p1] (none) (zu h a [(0, .inr (9, [.int m_thrown, .ref (zo w + (a + 1)), .ref (zo w + (a + 2)), .ref (zo w + (a + 3)), .int m_now, .int m_undoable, .ref (zo w + (a + 4)), .int m_bytes, .int m_errorAt, .int m_size, .int r.1, .int r.2.1, .int r.2.2.1, .int r.2.2.2.1, .int m_nested, .int m_once, .ref (zo w + (a + 5))])), (2, .inl (w.2.2.1 1, 2500, .inr (.inl r.2.2.2.2)))]) := by
  unfold f_X9_terms at hf
  refine zM_of (by decide) rfl (fun X C _ => ?_)
  refine z_eq (h' := (zu h a [(0, .inr (9, [.int m_thrown, .ref (zo w + (a + 1)), .ref (zo w + (a + 2)), .ref (zo w + (a + 3)), .int m_now, .int m_undoable, .ref (zo w + (a + 4)), .int m_bytes, .int m_errorAt, .int m_size, .int m_next, .int m_error, .int m_place, .int m_began, .int m_nested, .int m_once, .ref (zo w + (a + 5))])), (2, .inl (w.2.2.1 1, 2500, .inr (.inl m_read)))])) (zu_s h_a0 (zu_s h_a2 zu_0)).symm ?_
  have n_a0 := h_a0.1
  have n_a2 := h_a2.1
  refine z_pick (lv' := [(0, .ref (zo w + a)), (1, .int p1)]) [0, 1] rfl ?_
  refine z_aload_n (pc' := 1) C 0 dX9_terms_0 rfl rfl rfl ?_
  refine z_getf (pc' := 4) C zci_9 zw_1186 (j := 2) rfl (zc_i (o := 0) n_a0 rfl) rfl rfl dX9_terms_1 rfl ?_
  refine z_iload_n (pc' := 5) C 1 dX9_terms_4 rfl rfl rfl ?_
  refine z_iconst (pc' := 6) C dX9_terms_5 zk_iconst_1 rfl ?_
  refine z_iadd (pc' := 7) C dX9_terms_6 rfl ?_
  refine z_aload_n (pc' := 8) C 0 dX9_terms_7 rfl rfl rfl ?_
  refine z_iconst (pc' := 9) C dX9_terms_8 zk_iconst_0 rfl ?_
  refine z_bipush (pc' := 11) C dX9_terms_9 zk_bipush_20 rfl ?_
  refine z_cV (pc' := 14) C hf (As := [.int (0 : Int32), .int (20 : Int32)]) (fun hq => c_X9_reads (a := a) (zc_i (o := 0) n_a0 rfl) (zc_o (o := 4) h_a4 rfl) hq) (fun q_11 => (zu h a [(0, .inr (9, [.int m_thrown, .ref (zo w + (a + 1)), .ref (zo w + (a + 2)), .ref (zo w + (a + 3)), .int m_now, .int m_undoable, .ref (zo w + (a + 4)), .int m_bytes, .int m_errorAt, .int m_size, .int q_11.2.1, .int q_11.2.2.1, .int q_11.2.2.2.1, .int q_11.2.2.2.2, .int m_nested, .int m_once, .ref (zo w + (a + 5))])), (2, .inl (w.2.2.1 1, 2500, .inr (.inl m_read)))])) (fun q_11 => [.int q_11.1, .int (p1 + (1 : Int32)), .ref (zo w + (a + 2))]) (fun _ => zu_sh (d := 0) rfl rfl) (fun _ => rfl) zy_X9_reads zw_1283 zw_1285 zv_30 (ci := 9) rfl (zc_i (o := 0) n_a0 rfl) ⟨rfl, rfl⟩ rfl rfl rfl rfl rfl dX9_terms_11 rfl (fun q_11 hf => ?_)
  refine z_i2l (pc' := 15) C dX9_terms_14 rfl ?_
  refine z_last (pc' := 16) C hf (zc_i (o := 2) n_a2 rfl) (h' := fun v_15 => (zu h a [(0, .inr (9, [.int m_thrown, .ref (zo w + (a + 1)), .ref (zo w + (a + 2)), .ref (zo w + (a + 3)), .int m_now, .int m_undoable, .ref (zo w + (a + 4)), .int m_bytes, .int m_errorAt, .int m_size, .int q_11.2.1, .int q_11.2.2.1, .int q_11.2.2.2.1, .int q_11.2.2.2.2, .int m_nested, .int m_once, .ref (zo w + (a + 5))])), (2, .inl (w.2.2.1 1, 2500, .inr (.inl v_15)))])) (fun _ => zu_put (o := 2) rfl) dX9_terms_15 rfl (fun v_15 hf => ?_)
  refine z_aload_n (pc' := 17) C 0 dX9_terms_16 rfl rfl rfl ?_
  refine z_getf (pc' := 20) C zci_9 zw_1186 (j := 2) rfl (zc_i (o := 0) n_a0 rfl) rfl rfl dX9_terms_17 rfl ?_
  refine z_iload_n (pc' := 21) C 1 dX9_terms_20 rfl rfl rfl ?_
  refine z_iconst (pc' := 22) C dX9_terms_21 zk_iconst_2 rfl ?_
  refine z_iadd (pc' := 23) C dX9_terms_22 rfl ?_
  refine z_aload_n (pc' := 24) C 0 dX9_terms_23 rfl rfl rfl ?_
  refine z_iconst (pc' := 25) C dX9_terms_24 zk_iconst_0 rfl ?_
  refine z_bipush (pc' := 27) C dX9_terms_25 zk_bipush_20 rfl ?_
  refine z_cV (pc' := 30) C hf (As := [.int (0 : Int32), .int (20 : Int32)]) (fun hq => c_X9_reads (a := a) (zc_i (o := 0) n_a0 rfl) (zc_o (o := 4) h_a4 rfl) hq) (fun q_27 => (zu h a [(0, .inr (9, [.int m_thrown, .ref (zo w + (a + 1)), .ref (zo w + (a + 2)), .ref (zo w + (a + 3)), .int m_now, .int m_undoable, .ref (zo w + (a + 4)), .int m_bytes, .int m_errorAt, .int m_size, .int q_27.2.1, .int q_27.2.2.1, .int q_27.2.2.2.1, .int q_27.2.2.2.2, .int m_nested, .int m_once, .ref (zo w + (a + 5))])), (2, .inl (w.2.2.1 1, 2500, .inr (.inl v_15)))])) (fun q_27 => [.int q_27.1, .int (p1 + (2 : Int32)), .ref (zo w + (a + 2))]) (fun _ => zu_sh (d := 0) rfl rfl) (fun _ => rfl) zy_X9_reads zw_1283 zw_1285 zv_30 (ci := 9) rfl (zc_i (o := 0) n_a0 rfl) ⟨rfl, rfl⟩ rfl rfl rfl rfl rfl dX9_terms_27 rfl (fun q_27 hf => ?_)
  refine z_i2l (pc' := 31) C dX9_terms_30 rfl ?_
  refine z_last (pc' := 32) C hf (zc_i (o := 2) n_a2 rfl) (h' := fun v_31 => (zu h a [(0, .inr (9, [.int m_thrown, .ref (zo w + (a + 1)), .ref (zo w + (a + 2)), .ref (zo w + (a + 3)), .int m_now, .int m_undoable, .ref (zo w + (a + 4)), .int m_bytes, .int m_errorAt, .int m_size, .int q_27.2.1, .int q_27.2.2.1, .int q_27.2.2.2.1, .int q_27.2.2.2.2, .int m_nested, .int m_once, .ref (zo w + (a + 5))])), (2, .inl (w.2.2.1 1, 2500, .inr (.inl v_31)))])) (fun _ => zu_put (o := 2) rfl) dX9_terms_31 rfl (fun v_31 hf => ?_)
  refine z_aload_n (pc' := 33) C 0 dX9_terms_32 rfl rfl rfl ?_
  refine z_getf (pc' := 36) C zci_9 zw_1186 (j := 2) rfl (zc_i (o := 0) n_a0 rfl) rfl rfl dX9_terms_33 rfl ?_
  refine z_iload_n (pc' := 37) C 1 dX9_terms_36 rfl rfl rfl ?_
  refine z_iconst (pc' := 38) C dX9_terms_37 zk_iconst_3 rfl ?_
  refine z_iadd (pc' := 39) C dX9_terms_38 rfl ?_
  refine z_aload_n (pc' := 40) C 0 dX9_terms_39 rfl rfl rfl ?_
  refine z_iconst (pc' := 41) C dX9_terms_40 zk_iconst_0 rfl ?_
  refine z_bipush (pc' := 43) C dX9_terms_41 zk_bipush_60 rfl ?_
  refine z_cV (pc' := 46) C hf (As := [.int (0 : Int32), .int (60 : Int32)]) (fun hq => c_X9_reads (a := a) (zc_i (o := 0) n_a0 rfl) (zc_o (o := 4) h_a4 rfl) hq) (fun q_43 => (zu h a [(0, .inr (9, [.int m_thrown, .ref (zo w + (a + 1)), .ref (zo w + (a + 2)), .ref (zo w + (a + 3)), .int m_now, .int m_undoable, .ref (zo w + (a + 4)), .int m_bytes, .int m_errorAt, .int m_size, .int q_43.2.1, .int q_43.2.2.1, .int q_43.2.2.2.1, .int q_43.2.2.2.2, .int m_nested, .int m_once, .ref (zo w + (a + 5))])), (2, .inl (w.2.2.1 1, 2500, .inr (.inl v_31)))])) (fun q_43 => [.int q_43.1, .int (p1 + (3 : Int32)), .ref (zo w + (a + 2))]) (fun _ => zu_sh (d := 0) rfl rfl) (fun _ => rfl) zy_X9_reads zw_1283 zw_1285 zv_30 (ci := 9) rfl (zc_i (o := 0) n_a0 rfl) ⟨rfl, rfl⟩ rfl rfl rfl rfl rfl dX9_terms_43 rfl (fun q_43 hf => ?_)
  refine z_i2l (pc' := 47) C dX9_terms_46 rfl ?_
  refine z_last (pc' := 48) C hf (zc_i (o := 2) n_a2 rfl) (h' := fun v_47 => (zu h a [(0, .inr (9, [.int m_thrown, .ref (zo w + (a + 1)), .ref (zo w + (a + 2)), .ref (zo w + (a + 3)), .int m_now, .int m_undoable, .ref (zo w + (a + 4)), .int m_bytes, .int m_errorAt, .int m_size, .int q_43.2.1, .int q_43.2.2.1, .int q_43.2.2.2.1, .int q_43.2.2.2.2, .int m_nested, .int m_once, .ref (zo w + (a + 5))])), (2, .inl (w.2.2.1 1, 2500, .inr (.inl v_47)))])) (fun _ => zu_put (o := 2) rfl) dX9_terms_47 rfl (fun v_47 hf => ?_)
  cases hf
  exact z_vret C rfl rfl dX9_terms_48
set_option maxRecDepth 20000 in
theorem w_X9_subLine_95 {X : zC} {w : zV} {N : Nat} {h : zH} {a : Nat} {m_thrown : Int32} {m_nested : Int32} {m_once : Int32} {m_now : Int32} {m_undoable : Int32} {m_bytes : Int32} {m_errorAt : Int32} {m_size : Int32} {m_text : Nat → Int32} (C : zK X w RX9 cX9_subLine 4 none (zr 6 211)) (n_a0 : a + 0 < N) (n_a2 : a + 2 < N) (h_a4 : zc N h (a + 4) (.inl (w.2.2.1 0, 900, .inl m_text))) {r : Int32 × Int32 × Int32 × Int32 × (Nat → Int64)} {m_next : Int32} {m_error : Int32} {m_place : Int32} {m_began : Int32} {m_read : Nat → Int64} {s1 : Int32} {s2 : Int64} (hf : f_X9_subLine_95  m_next m_error m_place m_began m_read s1 s2 = some r) : zZ X w (zQ X w (zr 6 211) (none) false N (zu h a [(0, .inr (9, [.int m_thrown, .ref (zo w + (a + 1)), .ref (zo w + (a + 2)), .ref (zo w + (a + 3)), .int m_now, .int m_undoable, .ref (zo w + (a + 4)), .int m_bytes, .int m_errorAt, .int m_size, .int r.1, .int r.2.1, .int r.2.2.1, .int r.2.2.2.1, .int m_nested, .int m_once, .ref (zo w + (a + 5))])), (2, .inl (w.2.2.1 1, 2500, .inr (.inl r.2.2.2.2)))])) 0 0 false N (zu h a [(0, .inr (9, [.int m_thrown, .ref (zo w + (a + 1)), .ref (zo w + (a + 2)), .ref (zo w + (a + 3)), .int m_now, .int m_undoable, .ref (zo w + (a + 4)), .int m_bytes, .int m_errorAt, .int m_size, .int m_next, .int m_error, .int m_place, .int m_began, .int m_nested, .int m_once, .ref (zo w + (a + 5))])), (2, .inl (w.2.2.1 1, 2500, .inr (.inl m_read)))]) 95 [(0, .ref (zo w + a))] [.long s2, .int s1, .ref (zo w + (a + 2))] := by
  unfold f_X9_subLine_95 at hf
  refine z_last (pc' := 96) C hf (zc_i (o := 2) n_a2 rfl) (h' := fun v_95 => (zu h a [(0, .inr (9, [.int m_thrown, .ref (zo w + (a + 1)), .ref (zo w + (a + 2)), .ref (zo w + (a + 3)), .int m_now, .int m_undoable, .ref (zo w + (a + 4)), .int m_bytes, .int m_errorAt, .int m_size, .int m_next, .int m_error, .int m_place, .int m_began, .int m_nested, .int m_once, .ref (zo w + (a + 5))])), (2, .inl (w.2.2.1 1, 2500, .inr (.inl v_95)))])) (fun _ => zu_put (o := 2) rfl) dX9_subLine_95 rfl (fun v_95 hf => ?_)
  refine z_aload_n (pc' := 97) C 0 dX9_subLine_96 rfl rfl rfl ?_
  refine z_getf (pc' := 100) C zci_9 zw_1186 (j := 2) rfl (zc_i (o := 0) n_a0 rfl) rfl rfl dX9_subLine_97 rfl ?_
  refine z_iconst (pc' := 101) C dX9_subLine_100 zk_iconst_0 rfl ?_
  refine z_dup2 (pc' := 102) C dX9_subLine_101 rfl rfl rfl ?_
  refine z_lald (pc' := 103) C hf (zc_i (o := 2) n_a2 rfl) dX9_subLine_102 rfl (fun v_102 hf => ?_)
  refine z_lconst (pc' := 104) C dX9_subLine_103 zl_1 rfl ?_
  refine z_ladd (pc' := 105) C dX9_subLine_104 rfl ?_
  refine z_last (pc' := 106) C hf (zc_i (o := 2) n_a2 rfl) (h' := fun v_105 => (zu h a [(0, .inr (9, [.int m_thrown, .ref (zo w + (a + 1)), .ref (zo w + (a + 2)), .ref (zo w + (a + 3)), .int m_now, .int m_undoable, .ref (zo w + (a + 4)), .int m_bytes, .int m_errorAt, .int m_size, .int m_next, .int m_error, .int m_place, .int m_began, .int m_nested, .int m_once, .ref (zo w + (a + 5))])), (2, .inl (w.2.2.1 1, 2500, .inr (.inl v_105)))])) (fun _ => zu_put (o := 2) rfl) dX9_subLine_105 rfl (fun v_105 hf => ?_)
  cases hf
  exact z_vret C rfl rfl dX9_subLine_106
set_option maxRecDepth 20000 in
theorem w_X9_subLine_21 {X : zC} {w : zV} {N : Nat} {h : zH} {a : Nat} {m_thrown : Int32} {m_nested : Int32} {m_once : Int32} {m_now : Int32} {m_undoable : Int32} {m_bytes : Int32} {m_errorAt : Int32} {m_size : Int32} {m_text : Nat → Int32} (C : zK X w RX9 cX9_subLine 4 none (zr 6 211)) (n_a0 : a + 0 < N) (n_a2 : a + 2 < N) (h_a4 : zc N h (a + 4) (.inl (w.2.2.1 0, 900, .inl m_text))) {r : Int32 × Int32 × Int32 × Int32 × (Nat → Int64)} {m_next : Int32} {m_error : Int32} {m_place : Int32} {m_began : Int32} {m_read : Nat → Int64} {x2 : Int32} (hf : f_X9_subLine_21  m_size m_next m_error m_place m_began m_read m_text x2 = some r) : zZ X w (zQ X w (zr 6 211) (none) false N (zu h a [(0, .inr (9, [.int m_thrown, .ref (zo w + (a + 1)), .ref (zo w + (a + 2)), .ref (zo w + (a + 3)), .int m_now, .int m_undoable, .ref (zo w + (a + 4)), .int m_bytes, .int m_errorAt, .int m_size, .int r.1, .int r.2.1, .int r.2.2.1, .int r.2.2.2.1, .int m_nested, .int m_once, .ref (zo w + (a + 5))])), (2, .inl (w.2.2.1 1, 2500, .inr (.inl r.2.2.2.2)))])) 0 0 false N (zu h a [(0, .inr (9, [.int m_thrown, .ref (zo w + (a + 1)), .ref (zo w + (a + 2)), .ref (zo w + (a + 3)), .int m_now, .int m_undoable, .ref (zo w + (a + 4)), .int m_bytes, .int m_errorAt, .int m_size, .int m_next, .int m_error, .int m_place, .int m_began, .int m_nested, .int m_once, .ref (zo w + (a + 5))])), (2, .inl (w.2.2.1 1, 2500, .inr (.inl m_read)))]) 21 [(0, .ref (zo w + a)), (2, .int x2)] [] := by
  unfold f_X9_subLine_21 at hf
  refine z_aload_n (pc' := 22) C 0 dX9_subLine_21 rfl rfl rfl ?_
  refine z_getf (pc' := 25) C zci_9 zw_1195 (j := 11) rfl (zc_i (o := 0) n_a0 rfl) rfl rfl dX9_subLine_22 rfl ?_
  refine z_if_eq (pc' := 28) C 29 hf dX9_subLine_25 rfl rfl (fun g_25 hf => ?_) (fun g_25 hf => ?_)
  · refine z_bipush (pc' := 31) C dX9_subLine_29 zk_bipush_20 rfl ?_
    refine z_bipush (pc' := 33) C dX9_subLine_31 zk_bipush_26 rfl ?_
    refine z_iload_n (pc' := 34) C 1 dX9_subLine_33 rfl rfl rfl ?_
    refine z_imul (pc' := 35) C dX9_subLine_34 rfl ?_
    refine z_iadd (pc' := 36) C dX9_subLine_35 rfl ?_
    refine z_istore_n (pc' := 37) C [(3, .int ((20 : Int32) + ((26 : Int32) * x2))), (0, .ref (zo w + a)), (2, .int x2)] dX9_subLine_36 rfl rfl rfl rfl ?_
    refine z_aload_n (pc' := 38) C 1 dX9_subLine_37 rfl rfl rfl ?_
    refine z_getf (pc' := 41) C zci_9 zw_1186 (j := 2) rfl (zc_i (o := 0) n_a0 rfl) rfl rfl dX9_subLine_38 rfl ?_
    refine z_iload_n (pc' := 42) C 0 dX9_subLine_41 rfl rfl rfl ?_
    refine z_iconst (pc' := 43) C dX9_subLine_42 zk_iconst_0 rfl ?_
    refine z_iadd (pc' := 44) C dX9_subLine_43 rfl ?_
    refine z_aload_n (pc' := 45) C 1 dX9_subLine_44 rfl rfl rfl ?_
    refine z_iconst (pc' := 46) C dX9_subLine_45 zk_iconst_0 rfl ?_
    refine z_iload_n (pc' := 47) C 2 dX9_subLine_46 rfl rfl rfl ?_
    refine z_iconst (pc' := 48) C dX9_subLine_47 zk_iconst_1 rfl ?_
    refine z_isub (pc' := 49) C dX9_subLine_48 rfl ?_
    refine z_cV (pc' := 52) C hf (As := [.int (0 : Int32), .int (x2 - (1 : Int32))]) (fun hq => c_X9_reads (a := a) (zc_i (o := 0) n_a0 rfl) (zc_o (o := 4) h_a4 rfl) hq) (fun q_49 => (zu h a [(0, .inr (9, [.int m_thrown, .ref (zo w + (a + 1)), .ref (zo w + (a + 2)), .ref (zo w + (a + 3)), .int m_now, .int m_undoable, .ref (zo w + (a + 4)), .int m_bytes, .int m_errorAt, .int m_size, .int q_49.2.1, .int q_49.2.2.1, .int q_49.2.2.2.1, .int q_49.2.2.2.2, .int m_nested, .int m_once, .ref (zo w + (a + 5))])), (2, .inl (w.2.2.1 1, 2500, .inr (.inl m_read)))])) (fun q_49 => [.int q_49.1, .int (((20 : Int32) + ((26 : Int32) * x2)) + (0 : Int32)), .ref (zo w + (a + 2))]) (fun _ => zu_sh (d := 0) rfl rfl) (fun _ => rfl) zy_X9_reads zw_1283 zw_1285 zv_30 (ci := 9) rfl (zc_i (o := 0) n_a0 rfl) ⟨rfl, rfl⟩ rfl rfl rfl rfl rfl dX9_subLine_49 rfl (fun q_49 hf => ?_)
    refine z_i2l (pc' := 53) C dX9_subLine_52 rfl ?_
    refine z_last (pc' := 54) C hf (zc_i (o := 2) n_a2 rfl) (h' := fun v_53 => (zu h a [(0, .inr (9, [.int m_thrown, .ref (zo w + (a + 1)), .ref (zo w + (a + 2)), .ref (zo w + (a + 3)), .int m_now, .int m_undoable, .ref (zo w + (a + 4)), .int m_bytes, .int m_errorAt, .int m_size, .int q_49.2.1, .int q_49.2.2.1, .int q_49.2.2.2.1, .int q_49.2.2.2.2, .int m_nested, .int m_once, .ref (zo w + (a + 5))])), (2, .inl (w.2.2.1 1, 2500, .inr (.inl v_53)))])) (fun _ => zu_put (o := 2) rfl) dX9_subLine_53 rfl (fun v_53 hf => ?_)
    refine z_aload_n (pc' := 55) C 1 dX9_subLine_54 rfl rfl rfl ?_
    refine z_iload_n (pc' := 56) C 0 dX9_subLine_55 rfl rfl rfl ?_
    refine z_cV (pc' := 59) C hf (As := [.int ((20 : Int32) + ((26 : Int32) * x2))]) (fun hq => c_X9_terms (a := a) (zc_i (o := 0) n_a0 rfl) (zc_i (o := 2) n_a2 rfl) (zc_o (o := 4) h_a4 rfl) hq) (fun q_56 => (zu h a [(0, .inr (9, [.int m_thrown, .ref (zo w + (a + 1)), .ref (zo w + (a + 2)), .ref (zo w + (a + 3)), .int m_now, .int m_undoable, .ref (zo w + (a + 4)), .int m_bytes, .int m_errorAt, .int m_size, .int q_56.1, .int q_56.2.1, .int q_56.2.2.1, .int q_56.2.2.2.1, .int m_nested, .int m_once, .ref (zo w + (a + 5))])), (2, .inl (w.2.2.1 1, 2500, .inr (.inl q_56.2.2.2.2)))])) (fun q_56 => []) (fun _ => zu_sh (d := 0) rfl rfl) (fun _ => rfl) zy_X9_terms zw_1299 zw_1301 zv_33 (ci := 9) rfl (zc_i (o := 0) n_a0 rfl) ⟨rfl, rfl⟩ rfl rfl rfl rfl rfl dX9_subLine_56 rfl (fun q_56 hf => ?_)
    refine z_aload_n (pc' := 60) C 1 dX9_subLine_59 rfl rfl rfl ?_
    refine z_getf (pc' := 63) C zci_9 zw_1186 (j := 2) rfl (zc_i (o := 0) n_a0 rfl) rfl rfl dX9_subLine_60 rfl ?_
    refine z_iload_n (pc' := 64) C 0 dX9_subLine_63 rfl rfl rfl ?_
    refine z_iconst (pc' := 65) C dX9_subLine_64 zk_iconst_4 rfl ?_
    refine z_iadd (pc' := 66) C dX9_subLine_65 rfl ?_
    refine z_aload_n (pc' := 67) C 1 dX9_subLine_66 rfl rfl rfl ?_
    refine z_iconst (pc' := 68) C dX9_subLine_67 zk_iconst_0 rfl ?_
    refine z_iconst (pc' := 69) C dX9_subLine_68 zk_iconst_3 rfl ?_
    refine z_cV (pc' := 72) C hf (As := [.int (0 : Int32), .int (3 : Int32)]) (fun hq => c_X9_reads (a := a) (zc_i (o := 0) n_a0 rfl) (zc_o (o := 4) h_a4 rfl) hq) (fun q_69 => (zu h a [(0, .inr (9, [.int m_thrown, .ref (zo w + (a + 1)), .ref (zo w + (a + 2)), .ref (zo w + (a + 3)), .int m_now, .int m_undoable, .ref (zo w + (a + 4)), .int m_bytes, .int m_errorAt, .int m_size, .int q_69.2.1, .int q_69.2.2.1, .int q_69.2.2.2.1, .int q_69.2.2.2.2, .int m_nested, .int m_once, .ref (zo w + (a + 5))])), (2, .inl (w.2.2.1 1, 2500, .inr (.inl q_56.2.2.2.2)))])) (fun q_69 => [.int q_69.1, .int (((20 : Int32) + ((26 : Int32) * x2)) + (4 : Int32)), .ref (zo w + (a + 2))]) (fun _ => zu_sh (d := 0) rfl rfl) (fun _ => rfl) zy_X9_reads zw_1283 zw_1285 zv_30 (ci := 9) rfl (zc_i (o := 0) n_a0 rfl) ⟨rfl, rfl⟩ rfl rfl rfl rfl rfl dX9_subLine_69 rfl (fun q_69 hf => ?_)
    refine z_i2l (pc' := 73) C dX9_subLine_72 rfl ?_
    refine z_last (pc' := 74) C hf (zc_i (o := 2) n_a2 rfl) (h' := fun v_73 => (zu h a [(0, .inr (9, [.int m_thrown, .ref (zo w + (a + 1)), .ref (zo w + (a + 2)), .ref (zo w + (a + 3)), .int m_now, .int m_undoable, .ref (zo w + (a + 4)), .int m_bytes, .int m_errorAt, .int m_size, .int q_69.2.1, .int q_69.2.2.1, .int q_69.2.2.2.1, .int q_69.2.2.2.2, .int m_nested, .int m_once, .ref (zo w + (a + 5))])), (2, .inl (w.2.2.1 1, 2500, .inr (.inl v_73)))])) (fun _ => zu_put (o := 2) rfl) dX9_subLine_73 rfl (fun v_73 hf => ?_)
    refine z_aload_n (pc' := 75) C 1 dX9_subLine_74 rfl rfl rfl ?_
    refine z_getf (pc' := 78) C zci_9 zw_1186 (j := 2) rfl (zc_i (o := 0) n_a0 rfl) rfl rfl dX9_subLine_75 rfl ?_
    refine z_iload_n (pc' := 79) C 0 dX9_subLine_78 rfl rfl rfl ?_
    refine z_iconst (pc' := 80) C dX9_subLine_79 zk_iconst_5 rfl ?_
    refine z_iadd (pc' := 81) C dX9_subLine_80 rfl ?_
    refine z_aload_n (pc' := 82) C 1 dX9_subLine_81 rfl rfl rfl ?_
    refine z_ldcS (pc' := 84) C 18 rfl dX9_subLine_82 rfl ?_
    refine z_cV (pc' := 87) C hf (As := [.ref (zsa w 18)]) (fun hq => c_X9_takes (a := a) (zc_i (o := 0) n_a0 rfl) (zc_o (o := 4) h_a4 rfl) (by decide) hq) (fun q_84 => (zu h a [(0, .inr (9, [.int m_thrown, .ref (zo w + (a + 1)), .ref (zo w + (a + 2)), .ref (zo w + (a + 3)), .int m_now, .int m_undoable, .ref (zo w + (a + 4)), .int m_bytes, .int m_errorAt, .int m_size, .int q_84.2, .int q_69.2.2.1, .int q_69.2.2.2.1, .int q_69.2.2.2.2, .int m_nested, .int m_once, .ref (zo w + (a + 5))])), (2, .inl (w.2.2.1 1, 2500, .inr (.inl v_73)))])) (fun q_84 => [.int q_84.1, .int (((20 : Int32) + ((26 : Int32) * x2)) + (5 : Int32)), .ref (zo w + (a + 2))]) (fun _ => zu_sh (d := 0) rfl rfl) (fun _ => rfl) zy_X9_takes zw_1264 zw_1266 zv_26 (ci := 9) rfl (zc_i (o := 0) n_a0 rfl) ⟨rfl, rfl⟩ rfl rfl rfl rfl rfl dX9_subLine_84 rfl (fun q_84 hf => ?_)
    refine z_if_eq (pc' := 90) C 94 hf dX9_subLine_87 rfl rfl (fun g_87 hf => ?_) (fun g_87 hf => ?_)
    · refine z_lconst (pc' := 95) C dX9_subLine_94 zl_0 rfl ?_
      refine z_pick (lv' := [(0, .ref (zo w + a))]) [1] rfl ?_
      exact w_X9_subLine_95 C n_a0 n_a2 h_a4  hf
    · refine z_lconst (pc' := 91) C dX9_subLine_90 zl_1 rfl ?_
      refine z_goto C 95 dX9_subLine_91 rfl ?_
      refine z_pick (lv' := [(0, .ref (zo w + a))]) [1] rfl ?_
      exact w_X9_subLine_95 C n_a0 n_a2 h_a4  hf
  · cases hf
    exact z_vret C rfl rfl dX9_subLine_28
set_option maxRecDepth 20000 in
theorem c_X9_subLine {w : zV} {N : Nat} {h : zH} {a : Nat} {m_thrown : Int32} {m_next : Int32} {m_error : Int32} {m_place : Int32} {m_began : Int32} {m_nested : Int32} {m_once : Int32} {m_now : Int32} {m_undoable : Int32} {m_bytes : Int32} {m_errorAt : Int32} {m_size : Int32} {m_read : Nat → Int64} {m_text : Nat → Int32} {p1 : Int32} (h_a0 : zc N h (a + 0) (.inr (9, [.int m_thrown, .ref (zo w + (a + 1)), .ref (zo w + (a + 2)), .ref (zo w + (a + 3)), .int m_now, .int m_undoable, .ref (zo w + (a + 4)), .int m_bytes, .int m_errorAt, .int m_size, .int m_next, .int m_error, .int m_place, .int m_began, .int m_nested, .int m_once, .ref (zo w + (a + 5))]))) (h_a2 : zc N h (a + 2) (.inl (w.2.2.1 1, 2500, .inr (.inl m_read)))) (h_a4 : zc N h (a + 4) (.inl (w.2.2.1 0, 900, .inl m_text))) {r : Int32 × Int32 × Int32 × Int32 × (Nat → Int64)} (hf : f_X9_subLine m_size m_next m_error m_place m_began m_read m_text p1 = some r) : zM w yX9_subLine cX9_subLine 4 none (zr 6 211) false N N h [.ref (zo w + a), .int p1] (none) (zu h a [(0, .inr (9, [.int m_thrown, .ref (zo w + (a + 1)), .ref (zo w + (a + 2)), .ref (zo w + (a + 3)), .int m_now, .int m_undoable, .ref (zo w + (a + 4)), .int m_bytes, .int m_errorAt, .int m_size, .int r.1, .int r.2.1, .int r.2.2.1, .int r.2.2.2.1, .int m_nested, .int m_once, .ref (zo w + (a + 5))])), (2, .inl (w.2.2.1 1, 2500, .inr (.inl r.2.2.2.2)))]) := by
  unfold f_X9_subLine at hf
  refine zM_of (by decide) rfl (fun X C _ => ?_)
  refine z_eq (h' := (zu h a [(0, .inr (9, [.int m_thrown, .ref (zo w + (a + 1)), .ref (zo w + (a + 2)), .ref (zo w + (a + 3)), .int m_now, .int m_undoable, .ref (zo w + (a + 4)), .int m_bytes, .int m_errorAt, .int m_size, .int m_next, .int m_error, .int m_place, .int m_began, .int m_nested, .int m_once, .ref (zo w + (a + 5))])), (2, .inl (w.2.2.1 1, 2500, .inr (.inl m_read)))])) (zu_s h_a0 (zu_s h_a2 zu_0)).symm ?_
  have n_a0 := h_a0.1
  have n_a2 := h_a2.1
  refine z_pick (lv' := [(0, .ref (zo w + a)), (1, .int p1)]) [0, 1] rfl ?_
  refine z_aload_n (pc' := 1) C 0 dX9_subLine_0 rfl rfl rfl ?_
  refine z_getf (pc' := 4) C zci_9 zw_1186 (j := 2) rfl (zc_i (o := 0) n_a0 rfl) rfl rfl dX9_subLine_1 rfl ?_
  refine z_iconst (pc' := 5) C dX9_subLine_4 zk_iconst_0 rfl ?_
  refine z_lald (pc' := 6) C hf (zc_i (o := 2) n_a2 rfl) dX9_subLine_5 rfl (fun v_5 hf => ?_)
  refine z_l2i (pc' := 7) C dX9_subLine_6 rfl ?_
  refine z_istore_n (pc' := 8) C [(2, .int (v_5).toInt32), (0, .ref (zo w + a)), (1, .int p1)] dX9_subLine_7 rfl rfl rfl rfl ?_
  refine z_iload_n (pc' := 9) C 0 dX9_subLine_8 rfl rfl rfl ?_
  refine z_bipush (pc' := 11) C dX9_subLine_9 zk_bipush_8 rfl ?_
  refine z_icmp_ne (pc' := 14) C 21 hf dX9_subLine_11 rfl rfl (fun g_11 hf => ?_) (fun g_11 hf => ?_)
  · refine z_pick (lv' := [(0, .ref (zo w + a)), (2, .int (v_5).toInt32)]) [1, 0] rfl ?_
    exact w_X9_subLine_21 C n_a0 n_a2 h_a4  hf
  · refine z_aload_n (pc' := 15) C 1 dX9_subLine_14 rfl rfl rfl ?_
    refine z_bipush (pc' := 17) C dX9_subLine_15 zk_bipush_m4 rfl ?_
    refine z_iload_n (pc' := 18) C 2 dX9_subLine_17 rfl rfl rfl ?_
    refine z_cV (pc' := 21) C hf (As := [.int (-4 : Int32), .int p1]) (fun hq => c_X9_fails (a := a) (zc_i (o := 0) n_a0 rfl) hq) (fun q_18 => (zu h a [(0, .inr (9, [.int m_thrown, .ref (zo w + (a + 1)), .ref (zo w + (a + 2)), .ref (zo w + (a + 3)), .int m_now, .int m_undoable, .ref (zo w + (a + 4)), .int m_bytes, .int m_errorAt, .int m_size, .int m_next, .int q_18.1, .int q_18.2, .int m_began, .int m_nested, .int m_once, .ref (zo w + (a + 5))])), (2, .inl (w.2.2.1 1, 2500, .inr (.inl m_read)))])) (fun q_18 => []) (fun _ => zu_sh (d := 0) rfl rfl) (fun _ => rfl) zy_X9_fails zw_1278 zw_1280 zv_29 (ci := 9) rfl (zc_i (o := 0) n_a0 rfl) ⟨rfl, rfl⟩ rfl rfl rfl rfl rfl dX9_subLine_18 rfl (fun q_18 hf => ?_)
    refine z_pick (lv' := [(0, .ref (zo w + a)), (2, .int (v_5).toInt32)]) [1, 0] rfl ?_
    exact w_X9_subLine_21 C n_a0 n_a2 h_a4  hf
set_option maxRecDepth 20000 in
theorem w_X9_itemLine_54 {X : zC} {w : zV} {N : Nat} {h : zH} {a : Nat} {m_thrown : Int32} {m_nested : Int32} {m_once : Int32} {m_now : Int32} {m_undoable : Int32} {m_bytes : Int32} {m_errorAt : Int32} {m_size : Int32} {m_text : Nat → Int32} (C : zK X w RX9 cX9_itemLine 3 none (zr 3 87)) (n_a0 : a + 0 < N) (n_a2 : a + 2 < N) (h_a4 : zc N h (a + 4) (.inl (w.2.2.1 0, 900, .inl m_text))) {r : Int32 × Int32 × Int32 × Int32 × (Nat → Int64)} {m_next : Int32} {m_error : Int32} {m_place : Int32} {m_began : Int32} {m_read : Nat → Int64} {x1 : Int32} (hf : f_X9_itemLine_54  m_size m_next m_error m_place m_began m_read m_text x1 = some r) : zZ X w (zQ X w (zr 3 87) (none) false N (zu h a [(0, .inr (9, [.int m_thrown, .ref (zo w + (a + 1)), .ref (zo w + (a + 2)), .ref (zo w + (a + 3)), .int m_now, .int m_undoable, .ref (zo w + (a + 4)), .int m_bytes, .int m_errorAt, .int m_size, .int r.1, .int r.2.1, .int r.2.2.1, .int r.2.2.2.1, .int m_nested, .int m_once, .ref (zo w + (a + 5))])), (2, .inl (w.2.2.1 1, 2500, .inr (.inl r.2.2.2.2)))])) 0 0 false N (zu h a [(0, .inr (9, [.int m_thrown, .ref (zo w + (a + 1)), .ref (zo w + (a + 2)), .ref (zo w + (a + 3)), .int m_now, .int m_undoable, .ref (zo w + (a + 4)), .int m_bytes, .int m_errorAt, .int m_size, .int m_next, .int m_error, .int m_place, .int m_began, .int m_nested, .int m_once, .ref (zo w + (a + 5))])), (2, .inl (w.2.2.1 1, 2500, .inr (.inl m_read)))]) 54 [(0, .ref (zo w + a)), (1, .int x1)] [] := by
  unfold f_X9_itemLine_54 at hf
  refine z_aload_n (pc' := 55) C 0 dX9_itemLine_54 rfl rfl rfl ?_
  refine z_getf (pc' := 58) C zci_9 zw_1195 (j := 11) rfl (zc_i (o := 0) n_a0 rfl) rfl rfl dX9_itemLine_55 rfl ?_
  refine z_if_eq (pc' := 61) C 62 hf dX9_itemLine_58 rfl rfl (fun g_58 hf => ?_) (fun g_58 hf => ?_)
  · refine z_iload_n (pc' := 63) C 1 dX9_itemLine_62 rfl rfl rfl ?_
    refine z_bipush (pc' := 65) C dX9_itemLine_63 zk_bipush_8 rfl ?_
    refine z_iadd (pc' := 66) C dX9_itemLine_65 rfl ?_
    refine z_iconst (pc' := 67) C dX9_itemLine_66 zk_iconst_3 rfl ?_
    refine z_aload_n (pc' := 68) C 0 dX9_itemLine_67 rfl rfl rfl ?_
    refine z_getf (pc' := 71) C zci_9 zw_1186 (j := 2) rfl (zc_i (o := 0) n_a0 rfl) rfl rfl dX9_itemLine_68 rfl ?_
    refine z_iload_n (pc' := 72) C 1 dX9_itemLine_71 rfl rfl rfl ?_
    refine z_bipush (pc' := 74) C dX9_itemLine_72 zk_bipush_7 rfl ?_
    refine z_iadd (pc' := 75) C dX9_itemLine_74 rfl ?_
    refine z_lald (pc' := 76) C hf (zc_i (o := 2) n_a2 rfl) dX9_itemLine_75 rfl (fun v_75 hf => ?_)
    refine z_l2i (pc' := 77) C dX9_itemLine_76 rfl ?_
    refine z_imul (pc' := 78) C dX9_itemLine_77 rfl ?_
    refine z_iadd (pc' := 79) C dX9_itemLine_78 rfl ?_
    refine z_istore_n (pc' := 80) C [(2, .int ((x1 + (8 : Int32)) + ((3 : Int32) * (v_75).toInt32))), (0, .ref (zo w + a)), (1, .int x1)] dX9_itemLine_79 rfl rfl rfl rfl ?_
    refine z_aload_n (pc' := 81) C 1 dX9_itemLine_80 rfl rfl rfl ?_
    refine z_getf (pc' := 84) C zci_9 zw_1186 (j := 2) rfl (zc_i (o := 0) n_a0 rfl) rfl rfl dX9_itemLine_81 rfl ?_
    refine z_iload_n (pc' := 85) C 0 dX9_itemLine_84 rfl rfl rfl ?_
    refine z_aload_n (pc' := 86) C 1 dX9_itemLine_85 rfl rfl rfl ?_
    refine z_iconst (pc' := 87) C dX9_itemLine_86 zk_iconst_1 rfl ?_
    refine z_sipush (pc' := 90) C dX9_itemLine_87 zk_sipush_999 rfl ?_
    refine z_cV (pc' := 93) C hf (As := [.int (1 : Int32), .int (999 : Int32)]) (fun hq => c_X9_reads (a := a) (zc_i (o := 0) n_a0 rfl) (zc_o (o := 4) h_a4 rfl) hq) (fun q_90 => (zu h a [(0, .inr (9, [.int m_thrown, .ref (zo w + (a + 1)), .ref (zo w + (a + 2)), .ref (zo w + (a + 3)), .int m_now, .int m_undoable, .ref (zo w + (a + 4)), .int m_bytes, .int m_errorAt, .int m_size, .int q_90.2.1, .int q_90.2.2.1, .int q_90.2.2.2.1, .int q_90.2.2.2.2, .int m_nested, .int m_once, .ref (zo w + (a + 5))])), (2, .inl (w.2.2.1 1, 2500, .inr (.inl m_read)))])) (fun q_90 => [.int q_90.1, .int ((x1 + (8 : Int32)) + ((3 : Int32) * (v_75).toInt32)), .ref (zo w + (a + 2))]) (fun _ => zu_sh (d := 0) rfl rfl) (fun _ => rfl) zy_X9_reads zw_1283 zw_1285 zv_30 (ci := 9) rfl (zc_i (o := 0) n_a0 rfl) ⟨rfl, rfl⟩ rfl rfl rfl rfl rfl dX9_itemLine_90 rfl (fun q_90 hf => ?_)
    refine z_i2l (pc' := 94) C dX9_itemLine_93 rfl ?_
    refine z_last (pc' := 95) C hf (zc_i (o := 2) n_a2 rfl) (h' := fun v_94 => (zu h a [(0, .inr (9, [.int m_thrown, .ref (zo w + (a + 1)), .ref (zo w + (a + 2)), .ref (zo w + (a + 3)), .int m_now, .int m_undoable, .ref (zo w + (a + 4)), .int m_bytes, .int m_errorAt, .int m_size, .int q_90.2.1, .int q_90.2.2.1, .int q_90.2.2.2.1, .int q_90.2.2.2.2, .int m_nested, .int m_once, .ref (zo w + (a + 5))])), (2, .inl (w.2.2.1 1, 2500, .inr (.inl v_94)))])) (fun _ => zu_put (o := 2) rfl) dX9_itemLine_94 rfl (fun v_94 hf => ?_)
    refine z_aload_n (pc' := 96) C 1 dX9_itemLine_95 rfl rfl rfl ?_
    refine z_getf (pc' := 99) C zci_9 zw_1186 (j := 2) rfl (zc_i (o := 0) n_a0 rfl) rfl rfl dX9_itemLine_96 rfl ?_
    refine z_iload_n (pc' := 100) C 0 dX9_itemLine_99 rfl rfl rfl ?_
    refine z_iconst (pc' := 101) C dX9_itemLine_100 zk_iconst_1 rfl ?_
    refine z_iadd (pc' := 102) C dX9_itemLine_101 rfl ?_
    refine z_aload_n (pc' := 103) C 1 dX9_itemLine_102 rfl rfl rfl ?_
    refine z_iconst (pc' := 104) C dX9_itemLine_103 zk_iconst_0 rfl ?_
    refine z_sipush (pc' := 107) C dX9_itemLine_104 zk_sipush_9999 rfl ?_
    refine z_cV (pc' := 110) C hf (As := [.int (0 : Int32), .int (9999 : Int32)]) (fun hq => c_X9_reads (a := a) (zc_i (o := 0) n_a0 rfl) (zc_o (o := 4) h_a4 rfl) hq) (fun q_107 => (zu h a [(0, .inr (9, [.int m_thrown, .ref (zo w + (a + 1)), .ref (zo w + (a + 2)), .ref (zo w + (a + 3)), .int m_now, .int m_undoable, .ref (zo w + (a + 4)), .int m_bytes, .int m_errorAt, .int m_size, .int q_107.2.1, .int q_107.2.2.1, .int q_107.2.2.2.1, .int q_107.2.2.2.2, .int m_nested, .int m_once, .ref (zo w + (a + 5))])), (2, .inl (w.2.2.1 1, 2500, .inr (.inl v_94)))])) (fun q_107 => [.int q_107.1, .int (((x1 + (8 : Int32)) + ((3 : Int32) * (v_75).toInt32)) + (1 : Int32)), .ref (zo w + (a + 2))]) (fun _ => zu_sh (d := 0) rfl rfl) (fun _ => rfl) zy_X9_reads zw_1283 zw_1285 zv_30 (ci := 9) rfl (zc_i (o := 0) n_a0 rfl) ⟨rfl, rfl⟩ rfl rfl rfl rfl rfl dX9_itemLine_107 rfl (fun q_107 hf => ?_)
    refine z_i2l (pc' := 111) C dX9_itemLine_110 rfl ?_
    refine z_last (pc' := 112) C hf (zc_i (o := 2) n_a2 rfl) (h' := fun v_111 => (zu h a [(0, .inr (9, [.int m_thrown, .ref (zo w + (a + 1)), .ref (zo w + (a + 2)), .ref (zo w + (a + 3)), .int m_now, .int m_undoable, .ref (zo w + (a + 4)), .int m_bytes, .int m_errorAt, .int m_size, .int q_107.2.1, .int q_107.2.2.1, .int q_107.2.2.2.1, .int q_107.2.2.2.2, .int m_nested, .int m_once, .ref (zo w + (a + 5))])), (2, .inl (w.2.2.1 1, 2500, .inr (.inl v_111)))])) (fun _ => zu_put (o := 2) rfl) dX9_itemLine_111 rfl (fun v_111 hf => ?_)
    refine z_aload_n (pc' := 113) C 1 dX9_itemLine_112 rfl rfl rfl ?_
    refine z_getf (pc' := 116) C zci_9 zw_1186 (j := 2) rfl (zc_i (o := 0) n_a0 rfl) rfl rfl dX9_itemLine_113 rfl ?_
    refine z_iload_n (pc' := 117) C 2 dX9_itemLine_116 rfl rfl rfl ?_
    refine z_bipush (pc' := 119) C dX9_itemLine_117 zk_bipush_7 rfl ?_
    refine z_iadd (pc' := 120) C dX9_itemLine_119 rfl ?_
    refine z_dup2 (pc' := 121) C dX9_itemLine_120 rfl rfl rfl ?_
    refine z_lald (pc' := 122) C hf (zc_i (o := 2) n_a2 rfl) dX9_itemLine_121 rfl (fun v_121 hf => ?_)
    refine z_lconst (pc' := 123) C dX9_itemLine_122 zl_1 rfl ?_
    refine z_ladd (pc' := 124) C dX9_itemLine_123 rfl ?_
    refine z_last (pc' := 125) C hf (zc_i (o := 2) n_a2 rfl) (h' := fun v_124 => (zu h a [(0, .inr (9, [.int m_thrown, .ref (zo w + (a + 1)), .ref (zo w + (a + 2)), .ref (zo w + (a + 3)), .int m_now, .int m_undoable, .ref (zo w + (a + 4)), .int m_bytes, .int m_errorAt, .int m_size, .int q_107.2.1, .int q_107.2.2.1, .int q_107.2.2.2.1, .int q_107.2.2.2.2, .int m_nested, .int m_once, .ref (zo w + (a + 5))])), (2, .inl (w.2.2.1 1, 2500, .inr (.inl v_124)))])) (fun _ => zu_put (o := 2) rfl) dX9_itemLine_124 rfl (fun v_124 hf => ?_)
    cases hf
    exact z_vret C rfl rfl dX9_itemLine_125
  · cases hf
    exact z_vret C rfl rfl dX9_itemLine_61
set_option maxRecDepth 20000 in
theorem c_X9_itemLine {w : zV} {N : Nat} {h : zH} {a : Nat} {m_thrown : Int32} {m_next : Int32} {m_error : Int32} {m_place : Int32} {m_began : Int32} {m_nested : Int32} {m_once : Int32} {m_now : Int32} {m_undoable : Int32} {m_bytes : Int32} {m_errorAt : Int32} {m_size : Int32} {m_read : Nat → Int64} {m_text : Nat → Int32} (h_a0 : zc N h (a + 0) (.inr (9, [.int m_thrown, .ref (zo w + (a + 1)), .ref (zo w + (a + 2)), .ref (zo w + (a + 3)), .int m_now, .int m_undoable, .ref (zo w + (a + 4)), .int m_bytes, .int m_errorAt, .int m_size, .int m_next, .int m_error, .int m_place, .int m_began, .int m_nested, .int m_once, .ref (zo w + (a + 5))]))) (h_a2 : zc N h (a + 2) (.inl (w.2.2.1 1, 2500, .inr (.inl m_read)))) (h_a4 : zc N h (a + 4) (.inl (w.2.2.1 0, 900, .inl m_text))) {r : Int32 × Int32 × Int32 × Int32 × (Nat → Int64)} (hf : f_X9_itemLine m_size m_next m_error m_place m_began m_read m_text = some r) : zM w yX9_itemLine cX9_itemLine 3 none (zr 3 87) false N N h [.ref (zo w + a)] (none) (zu h a [(0, .inr (9, [.int m_thrown, .ref (zo w + (a + 1)), .ref (zo w + (a + 2)), .ref (zo w + (a + 3)), .int m_now, .int m_undoable, .ref (zo w + (a + 4)), .int m_bytes, .int m_errorAt, .int m_size, .int r.1, .int r.2.1, .int r.2.2.1, .int r.2.2.2.1, .int m_nested, .int m_once, .ref (zo w + (a + 5))])), (2, .inl (w.2.2.1 1, 2500, .inr (.inl r.2.2.2.2)))]) := by
  unfold f_X9_itemLine at hf
  refine zM_of (by decide) rfl (fun X C _ => ?_)
  refine z_eq (h' := (zu h a [(0, .inr (9, [.int m_thrown, .ref (zo w + (a + 1)), .ref (zo w + (a + 2)), .ref (zo w + (a + 3)), .int m_now, .int m_undoable, .ref (zo w + (a + 4)), .int m_bytes, .int m_errorAt, .int m_size, .int m_next, .int m_error, .int m_place, .int m_began, .int m_nested, .int m_once, .ref (zo w + (a + 5))])), (2, .inl (w.2.2.1 1, 2500, .inr (.inl m_read)))])) (zu_s h_a0 (zu_s h_a2 zu_0)).symm ?_
  have n_a0 := h_a0.1
  have n_a2 := h_a2.1
  refine z_pick (lv' := [(0, .ref (zo w + a))]) [0] rfl ?_
  refine z_bipush (pc' := 2) C dX9_itemLine_0 zk_bipush_20 rfl ?_
  refine z_bipush (pc' := 4) C dX9_itemLine_2 zk_bipush_26 rfl ?_
  refine z_aload_n (pc' := 5) C 0 dX9_itemLine_4 rfl rfl rfl ?_
  refine z_iconst (pc' := 6) C dX9_itemLine_5 zk_iconst_0 rfl ?_
  refine z_aload_n (pc' := 7) C 0 dX9_itemLine_6 rfl rfl rfl ?_
  refine z_getf (pc' := 10) C zci_9 zw_1186 (j := 2) rfl (zc_i (o := 0) n_a0 rfl) rfl rfl dX9_itemLine_7 rfl ?_
  refine z_iconst (pc' := 11) C dX9_itemLine_10 zk_iconst_0 rfl ?_
  refine z_lald (pc' := 12) C hf (zc_i (o := 2) n_a2 rfl) dX9_itemLine_11 rfl (fun v_11 hf => ?_)
  refine z_l2i (pc' := 13) C dX9_itemLine_12 rfl ?_
  refine z_iconst (pc' := 14) C dX9_itemLine_13 zk_iconst_1 rfl ?_
  refine z_isub (pc' := 15) C dX9_itemLine_14 rfl ?_
  refine z_cV (pc' := 18) C hf (As := [.int (0 : Int32), .int ((v_11).toInt32 - (1 : Int32))]) (fun hq => c_X9_reads (a := a) (zc_i (o := 0) n_a0 rfl) (zc_o (o := 4) h_a4 rfl) hq) (fun q_15 => (zu h a [(0, .inr (9, [.int m_thrown, .ref (zo w + (a + 1)), .ref (zo w + (a + 2)), .ref (zo w + (a + 3)), .int m_now, .int m_undoable, .ref (zo w + (a + 4)), .int m_bytes, .int m_errorAt, .int m_size, .int q_15.2.1, .int q_15.2.2.1, .int q_15.2.2.2.1, .int q_15.2.2.2.2, .int m_nested, .int m_once, .ref (zo w + (a + 5))])), (2, .inl (w.2.2.1 1, 2500, .inr (.inl m_read)))])) (fun q_15 => [.int q_15.1, .int (26 : Int32), .int (20 : Int32)]) (fun _ => zu_sh (d := 0) rfl rfl) (fun _ => rfl) zy_X9_reads zw_1283 zw_1285 zv_30 (ci := 9) rfl (zc_i (o := 0) n_a0 rfl) ⟨rfl, rfl⟩ rfl rfl rfl rfl rfl dX9_itemLine_15 rfl (fun q_15 hf => ?_)
  refine z_imul (pc' := 19) C dX9_itemLine_18 rfl ?_
  refine z_iadd (pc' := 20) C dX9_itemLine_19 rfl ?_
  refine z_istore_n (pc' := 21) C [(1, .int ((20 : Int32) + ((26 : Int32) * q_15.1))), (0, .ref (zo w + a))] dX9_itemLine_20 rfl rfl rfl rfl ?_
  refine z_aload_n (pc' := 22) C 1 dX9_itemLine_21 rfl rfl rfl ?_
  refine z_getf (pc' := 25) C zci_9 zw_1195 (j := 11) rfl (zc_i (o := 0) n_a0 rfl) rfl rfl dX9_itemLine_22 rfl ?_
  refine z_if_ne (pc' := 28) C 54 hf dX9_itemLine_25 rfl rfl (fun g_25 hf => ?_) (fun g_25 hf => ?_)
  · refine z_pick (lv' := [(0, .ref (zo w + a)), (1, .int ((20 : Int32) + ((26 : Int32) * q_15.1)))]) [1, 0] rfl ?_
    exact w_X9_itemLine_54 C n_a0 n_a2 h_a4  hf
  · refine z_aload_n (pc' := 29) C 1 dX9_itemLine_28 rfl rfl rfl ?_
    refine z_getf (pc' := 32) C zci_9 zw_1186 (j := 2) rfl (zc_i (o := 0) n_a0 rfl) rfl rfl dX9_itemLine_29 rfl ?_
    refine z_iload_n (pc' := 33) C 0 dX9_itemLine_32 rfl rfl rfl ?_
    refine z_bipush (pc' := 35) C dX9_itemLine_33 zk_bipush_7 rfl ?_
    refine z_iadd (pc' := 36) C dX9_itemLine_35 rfl ?_
    refine z_lald (pc' := 37) C hf (zc_i (o := 2) n_a2 rfl) dX9_itemLine_36 rfl (fun v_36 hf => ?_)
    refine z_ldc2 (pc' := 40) C zw_1318 dX9_itemLine_37 rfl ?_
    refine z_lcmp_ne (pc' := 44) C 54 hf dX9_itemLine_40 rfl dX9_itemLine_41 rfl rfl (fun g_40 hf => ?_) (fun g_40 hf => ?_)
    · refine z_pick (lv' := [(0, .ref (zo w + a)), (1, .int ((20 : Int32) + ((26 : Int32) * q_15.1)))]) [1, 0] rfl ?_
      exact w_X9_itemLine_54 C n_a0 n_a2 h_a4  hf
    · refine z_aload_n (pc' := 45) C 1 dX9_itemLine_44 rfl rfl rfl ?_
      refine z_bipush (pc' := 47) C dX9_itemLine_45 zk_bipush_m4 rfl ?_
      refine z_aload_n (pc' := 48) C 1 dX9_itemLine_47 rfl rfl rfl ?_
      refine z_getf (pc' := 51) C zci_9 zw_1197 (j := 13) rfl (zc_i (o := 0) n_a0 rfl) rfl rfl dX9_itemLine_48 rfl ?_
      refine z_cV (pc' := 54) C hf (As := [.int (-4 : Int32), .int q_15.2.2.2.2]) (fun hq => c_X9_fails (a := a) (zc_i (o := 0) n_a0 rfl) hq) (fun q_51 => (zu h a [(0, .inr (9, [.int m_thrown, .ref (zo w + (a + 1)), .ref (zo w + (a + 2)), .ref (zo w + (a + 3)), .int m_now, .int m_undoable, .ref (zo w + (a + 4)), .int m_bytes, .int m_errorAt, .int m_size, .int q_15.2.1, .int q_51.1, .int q_51.2, .int q_15.2.2.2.2, .int m_nested, .int m_once, .ref (zo w + (a + 5))])), (2, .inl (w.2.2.1 1, 2500, .inr (.inl m_read)))])) (fun q_51 => []) (fun _ => zu_sh (d := 0) rfl rfl) (fun _ => rfl) zy_X9_fails zw_1278 zw_1280 zv_29 (ci := 9) rfl (zc_i (o := 0) n_a0 rfl) ⟨rfl, rfl⟩ rfl rfl rfl rfl rfl dX9_itemLine_51 rfl (fun q_51 hf => ?_)
      refine z_pick (lv' := [(0, .ref (zo w + a)), (1, .int ((20 : Int32) + ((26 : Int32) * q_15.1)))]) [1, 0] rfl ?_
      exact w_X9_itemLine_54 C n_a0 n_a2 h_a4  hf
set_option maxRecDepth 20000 in
theorem c_X9_statement {w : zV} {N : Nat} {h : zH} {a : Nat} {m_thrown : Int32} {m_next : Int32} {m_error : Int32} {m_place : Int32} {m_began : Int32} {m_nested : Int32} {m_once : Int32} {m_now : Int32} {m_undoable : Int32} {m_bytes : Int32} {m_errorAt : Int32} {m_size : Int32} {m_read : Nat → Int64} {m_text : Nat → Int32} (h_a0 : zc N h (a + 0) (.inr (9, [.int m_thrown, .ref (zo w + (a + 1)), .ref (zo w + (a + 2)), .ref (zo w + (a + 3)), .int m_now, .int m_undoable, .ref (zo w + (a + 4)), .int m_bytes, .int m_errorAt, .int m_size, .int m_next, .int m_error, .int m_place, .int m_began, .int m_nested, .int m_once, .ref (zo w + (a + 5))]))) (h_a2 : zc N h (a + 2) (.inl (w.2.2.1 1, 2500, .inr (.inl m_read)))) (h_a4 : zc N h (a + 4) (.inl (w.2.2.1 0, 900, .inl m_text))) {r : Int32 × Int32 × Int32 × Int32 × Int32 × Int32 × (Nat → Int64)} (hf : f_X9_statement m_size m_next m_error m_place m_began m_nested m_once m_read m_text = some r) : zM w yX9_statement cX9_statement 2 none (zr 33 1729) false N N h [.ref (zo w + a)] (none) (zu h a [(0, .inr (9, [.int m_thrown, .ref (zo w + (a + 1)), .ref (zo w + (a + 2)), .ref (zo w + (a + 3)), .int m_now, .int m_undoable, .ref (zo w + (a + 4)), .int m_bytes, .int m_errorAt, .int m_size, .int r.1, .int r.2.1, .int r.2.2.1, .int r.2.2.2.1, .int r.2.2.2.2.1, .int r.2.2.2.2.2.1, .ref (zo w + (a + 5))])), (2, .inl (w.2.2.1 1, 2500, .inr (.inl r.2.2.2.2.2.2)))]) := by
  unfold f_X9_statement at hf
  refine zM_of (by decide) rfl (fun X C _ => ?_)
  refine z_eq (h' := (zu h a [(0, .inr (9, [.int m_thrown, .ref (zo w + (a + 1)), .ref (zo w + (a + 2)), .ref (zo w + (a + 3)), .int m_now, .int m_undoable, .ref (zo w + (a + 4)), .int m_bytes, .int m_errorAt, .int m_size, .int m_next, .int m_error, .int m_place, .int m_began, .int m_nested, .int m_once, .ref (zo w + (a + 5))])), (2, .inl (w.2.2.1 1, 2500, .inr (.inl m_read)))])) (zu_s h_a0 (zu_s h_a2 zu_0)).symm ?_
  have n_a0 := h_a0.1
  have n_a2 := h_a2.1
  refine z_pick (lv' := [(0, .ref (zo w + a))]) [0] rfl ?_
  refine z_aload_n (pc' := 1) C 0 dX9_statement_0 rfl rfl rfl ?_
  refine z_cV (pc' := 4) C hf (As := []) (fun hq => c_X9_sees (a := a) (zc_i (o := 0) n_a0 rfl) (zc_o (o := 4) h_a4 rfl) hq) (fun q_1 => (zu h a [(0, .inr (9, [.int m_thrown, .ref (zo w + (a + 1)), .ref (zo w + (a + 2)), .ref (zo w + (a + 3)), .int m_now, .int m_undoable, .ref (zo w + (a + 4)), .int m_bytes, .int m_errorAt, .int m_size, .int q_1.2, .int m_error, .int m_place, .int m_began, .int m_nested, .int m_once, .ref (zo w + (a + 5))])), (2, .inl (w.2.2.1 1, 2500, .inr (.inl m_read)))])) (fun q_1 => [.int q_1.1]) (fun _ => zu_sh (d := 0) rfl rfl) (fun _ => rfl) zy_X9_sees zw_1272 zw_1274 zv_28 (ci := 9) rfl (zc_i (o := 0) n_a0 rfl) ⟨rfl, rfl⟩ rfl rfl rfl rfl rfl dX9_statement_1 rfl (fun q_1 hf => ?_)
  refine z_pop (pc' := 5) C dX9_statement_4 rfl rfl ?_
  refine z_aload_n (pc' := 6) C 0 dX9_statement_5 rfl rfl rfl ?_
  refine z_getf (pc' := 9) C zci_9 zw_1194 (j := 10) rfl (zc_i (o := 0) n_a0 rfl) rfl rfl dX9_statement_6 rfl ?_
  refine z_istore_n (pc' := 10) C [(1, .int q_1.2), (0, .ref (zo w + a))] dX9_statement_9 rfl rfl rfl rfl ?_
  refine z_aload_n (pc' := 11) C 1 dX9_statement_10 rfl rfl rfl ?_
  refine z_ldcS (pc' := 13) C 17 rfl dX9_statement_11 rfl ?_
  refine z_cV (pc' := 16) C hf (As := [.ref (zsa w 17)]) (fun hq => c_X9_takes (a := a) (zc_i (o := 0) n_a0 rfl) (zc_o (o := 4) h_a4 rfl) (by decide) hq) (fun q_13 => (zu h a [(0, .inr (9, [.int m_thrown, .ref (zo w + (a + 1)), .ref (zo w + (a + 2)), .ref (zo w + (a + 3)), .int m_now, .int m_undoable, .ref (zo w + (a + 4)), .int m_bytes, .int m_errorAt, .int m_size, .int q_13.2, .int m_error, .int m_place, .int m_began, .int m_nested, .int m_once, .ref (zo w + (a + 5))])), (2, .inl (w.2.2.1 1, 2500, .inr (.inl m_read)))])) (fun q_13 => [.int q_13.1]) (fun _ => zu_sh (d := 0) rfl rfl) (fun _ => rfl) zy_X9_takes zw_1264 zw_1266 zv_26 (ci := 9) rfl (zc_i (o := 0) n_a0 rfl) ⟨rfl, rfl⟩ rfl rfl rfl rfl rfl dX9_statement_13 rfl (fun q_13 hf => ?_)
  refine z_if_eq (pc' := 19) C 27 hf dX9_statement_16 rfl rfl (fun g_16 hf => ?_) (fun g_16 hf => ?_)
  · refine z_aload_n (pc' := 28) C 1 dX9_statement_27 rfl rfl rfl ?_
    refine z_ldcS (pc' := 30) C 19 rfl dX9_statement_28 rfl ?_
    refine z_cV (pc' := 33) C hf (As := [.ref (zsa w 19)]) (fun hq => c_X9_takes (a := a) (zc_i (o := 0) n_a0 rfl) (zc_o (o := 4) h_a4 rfl) (by decide) hq) (fun q_30 => (zu h a [(0, .inr (9, [.int m_thrown, .ref (zo w + (a + 1)), .ref (zo w + (a + 2)), .ref (zo w + (a + 3)), .int m_now, .int m_undoable, .ref (zo w + (a + 4)), .int m_bytes, .int m_errorAt, .int m_size, .int q_30.2, .int m_error, .int m_place, .int m_began, .int m_nested, .int m_once, .ref (zo w + (a + 5))])), (2, .inl (w.2.2.1 1, 2500, .inr (.inl m_read)))])) (fun q_30 => [.int q_30.1]) (fun _ => zu_sh (d := 0) rfl rfl) (fun _ => rfl) zy_X9_takes zw_1264 zw_1266 zv_26 (ci := 9) rfl (zc_i (o := 0) n_a0 rfl) ⟨rfl, rfl⟩ rfl rfl rfl rfl rfl dX9_statement_30 rfl (fun q_30 hf => ?_)
    refine z_if_eq (pc' := 36) C 43 hf dX9_statement_33 rfl rfl (fun g_33 hf => ?_) (fun g_33 hf => ?_)
    · refine z_aload_n (pc' := 44) C 1 dX9_statement_43 rfl rfl rfl ?_
      refine z_ldcS (pc' := 46) C 20 rfl dX9_statement_44 rfl ?_
      refine z_cV (pc' := 49) C hf (As := [.ref (zsa w 20)]) (fun hq => c_X9_takes (a := a) (zc_i (o := 0) n_a0 rfl) (zc_o (o := 4) h_a4 rfl) (by decide) hq) (fun q_46 => (zu h a [(0, .inr (9, [.int m_thrown, .ref (zo w + (a + 1)), .ref (zo w + (a + 2)), .ref (zo w + (a + 3)), .int m_now, .int m_undoable, .ref (zo w + (a + 4)), .int m_bytes, .int m_errorAt, .int m_size, .int q_46.2, .int m_error, .int m_place, .int m_began, .int m_nested, .int m_once, .ref (zo w + (a + 5))])), (2, .inl (w.2.2.1 1, 2500, .inr (.inl m_read)))])) (fun q_46 => [.int q_46.1]) (fun _ => zu_sh (d := 0) rfl rfl) (fun _ => rfl) zy_X9_takes zw_1264 zw_1266 zv_26 (ci := 9) rfl (zc_i (o := 0) n_a0 rfl) ⟨rfl, rfl⟩ rfl rfl rfl rfl rfl dX9_statement_46 rfl (fun q_46 hf => ?_)
      refine z_if_eq (pc' := 52) C 78 hf dX9_statement_49 rfl rfl (fun g_49 hf => ?_) (fun g_49 hf => ?_)
      · refine z_aload_n (pc' := 79) C 1 dX9_statement_78 rfl rfl rfl ?_
        refine z_ldcS (pc' := 81) C 21 rfl dX9_statement_79 rfl ?_
        refine z_cV (pc' := 84) C hf (As := [.ref (zsa w 21)]) (fun hq => c_X9_takes (a := a) (zc_i (o := 0) n_a0 rfl) (zc_o (o := 4) h_a4 rfl) (by decide) hq) (fun q_81 => (zu h a [(0, .inr (9, [.int m_thrown, .ref (zo w + (a + 1)), .ref (zo w + (a + 2)), .ref (zo w + (a + 3)), .int m_now, .int m_undoable, .ref (zo w + (a + 4)), .int m_bytes, .int m_errorAt, .int m_size, .int q_81.2, .int m_error, .int m_place, .int m_began, .int m_nested, .int m_once, .ref (zo w + (a + 5))])), (2, .inl (w.2.2.1 1, 2500, .inr (.inl m_read)))])) (fun q_81 => [.int q_81.1]) (fun _ => zu_sh (d := 0) rfl rfl) (fun _ => rfl) zy_X9_takes zw_1264 zw_1266 zv_26 (ci := 9) rfl (zc_i (o := 0) n_a0 rfl) ⟨rfl, rfl⟩ rfl rfl rfl rfl rfl dX9_statement_81 rfl (fun q_81 hf => ?_)
        refine z_if_eq (pc' := 87) C 103 hf dX9_statement_84 rfl rfl (fun g_84 hf => ?_) (fun g_84 hf => ?_)
        · refine z_aload_n (pc' := 104) C 1 dX9_statement_103 rfl rfl rfl ?_
          refine z_bipush (pc' := 106) C dX9_statement_104 zk_bipush_m2 rfl ?_
          refine z_iload_n (pc' := 107) C 0 dX9_statement_106 rfl rfl rfl ?_
          refine z_cV (pc' := 110) C hf (As := [.int (-2 : Int32), .int q_1.2]) (fun hq => c_X9_fails (a := a) (zc_i (o := 0) n_a0 rfl) hq) (fun q_107 => (zu h a [(0, .inr (9, [.int m_thrown, .ref (zo w + (a + 1)), .ref (zo w + (a + 2)), .ref (zo w + (a + 3)), .int m_now, .int m_undoable, .ref (zo w + (a + 4)), .int m_bytes, .int m_errorAt, .int m_size, .int q_81.2, .int q_107.1, .int q_107.2, .int m_began, .int m_nested, .int m_once, .ref (zo w + (a + 5))])), (2, .inl (w.2.2.1 1, 2500, .inr (.inl m_read)))])) (fun q_107 => []) (fun _ => zu_sh (d := 0) rfl rfl) (fun _ => rfl) zy_X9_fails zw_1278 zw_1280 zv_29 (ci := 9) rfl (zc_i (o := 0) n_a0 rfl) ⟨rfl, rfl⟩ rfl rfl rfl rfl rfl dX9_statement_107 rfl (fun q_107 hf => ?_)
          refine z_aload_n (pc' := 111) C 1 dX9_statement_110 rfl rfl rfl ?_
          refine z_bipush (pc' := 113) C dX9_statement_111 zk_bipush_59 rfl ?_
          refine z_cV (pc' := 116) C hf (As := [.int (59 : Int32)]) (fun hq => c_X9_wants (a := a) (zc_i (o := 0) n_a0 rfl) (zc_o (o := 4) h_a4 rfl) hq) (fun q_113 => (zu h a [(0, .inr (9, [.int m_thrown, .ref (zo w + (a + 1)), .ref (zo w + (a + 2)), .ref (zo w + (a + 3)), .int m_now, .int m_undoable, .ref (zo w + (a + 4)), .int m_bytes, .int m_errorAt, .int m_size, .int q_113.1, .int q_113.2.1, .int q_113.2.2, .int m_began, .int m_nested, .int m_once, .ref (zo w + (a + 5))])), (2, .inl (w.2.2.1 1, 2500, .inr (.inl m_read)))])) (fun q_113 => []) (fun _ => zu_sh (d := 0) rfl rfl) (fun _ => rfl) zy_X9_wants zw_1293 zw_1295 zv_32 (ci := 9) rfl (zc_i (o := 0) n_a0 rfl) ⟨rfl, rfl⟩ rfl rfl rfl rfl rfl dX9_statement_113 rfl (fun q_113 hf => ?_)
          cases hf
          exact z_vret C rfl rfl dX9_statement_116
        · refine z_aload_n (pc' := 88) C 1 dX9_statement_87 rfl rfl rfl ?_
          refine z_iconst (pc' := 89) C dX9_statement_88 zk_iconst_1 rfl ?_
          refine z_iload_n (pc' := 90) C 0 dX9_statement_89 rfl rfl rfl ?_
          refine z_cV (pc' := 93) C hf (As := [.int (1 : Int32), .int q_1.2]) (fun hq => c_X9_first (a := a) (zc_i (o := 0) n_a0 rfl) hq) (fun q_90 => (zu h a [(0, .inr (9, [.int m_thrown, .ref (zo w + (a + 1)), .ref (zo w + (a + 2)), .ref (zo w + (a + 3)), .int m_now, .int m_undoable, .ref (zo w + (a + 4)), .int m_bytes, .int m_errorAt, .int m_size, .int q_81.2, .int q_90.2.1, .int q_90.2.2.1, .int m_began, .int m_nested, .int q_90.2.2.2, .ref (zo w + (a + 5))])), (2, .inl (w.2.2.1 1, 2500, .inr (.inl m_read)))])) (fun q_90 => [.int q_90.1]) (fun _ => zu_sh (d := 0) rfl rfl) (fun _ => rfl) zy_X9_first zw_1320 zw_1322 zv_37 (ci := 9) rfl (zc_i (o := 0) n_a0 rfl) ⟨rfl, rfl⟩ rfl rfl rfl rfl rfl dX9_statement_90 rfl (fun q_90 hf => ?_)
          refine z_if_eq (pc' := 96) C 110 hf dX9_statement_93 rfl rfl (fun g_93 hf => ?_) (fun g_93 hf => ?_)
          · refine z_aload_n (pc' := 111) C 1 dX9_statement_110 rfl rfl rfl ?_
            refine z_bipush (pc' := 113) C dX9_statement_111 zk_bipush_59 rfl ?_
            refine z_cV (pc' := 116) C hf (As := [.int (59 : Int32)]) (fun hq => c_X9_wants (a := a) (zc_i (o := 0) n_a0 rfl) (zc_o (o := 4) h_a4 rfl) hq) (fun q_113 => (zu h a [(0, .inr (9, [.int m_thrown, .ref (zo w + (a + 1)), .ref (zo w + (a + 2)), .ref (zo w + (a + 3)), .int m_now, .int m_undoable, .ref (zo w + (a + 4)), .int m_bytes, .int m_errorAt, .int m_size, .int q_113.1, .int q_113.2.1, .int q_113.2.2, .int m_began, .int m_nested, .int q_90.2.2.2, .ref (zo w + (a + 5))])), (2, .inl (w.2.2.1 1, 2500, .inr (.inl m_read)))])) (fun q_113 => []) (fun _ => zu_sh (d := 0) rfl rfl) (fun _ => rfl) zy_X9_wants zw_1293 zw_1295 zv_32 (ci := 9) rfl (zc_i (o := 0) n_a0 rfl) ⟨rfl, rfl⟩ rfl rfl rfl rfl rfl dX9_statement_113 rfl (fun q_113 hf => ?_)
            cases hf
            exact z_vret C rfl rfl dX9_statement_116
          · refine z_aload_n (pc' := 97) C 1 dX9_statement_96 rfl rfl rfl ?_
            refine z_cV (pc' := 100) C hf (As := []) (fun hq => c_X9_sum (a := a) (zc_i (o := 0) n_a0 rfl) (zc_i (o := 2) n_a2 rfl) (zc_o (o := 4) h_a4 rfl) hq) (fun q_97 => (zu h a [(0, .inr (9, [.int m_thrown, .ref (zo w + (a + 1)), .ref (zo w + (a + 2)), .ref (zo w + (a + 3)), .int m_now, .int m_undoable, .ref (zo w + (a + 4)), .int m_bytes, .int m_errorAt, .int m_size, .int q_97.1, .int q_97.2.1, .int q_97.2.2.1, .int q_97.2.2.2.1, .int q_97.2.2.2.2.1, .int q_90.2.2.2, .ref (zo w + (a + 5))])), (2, .inl (w.2.2.1 1, 2500, .inr (.inl q_97.2.2.2.2.2)))])) (fun q_97 => []) (fun _ => zu_sh (d := 0) rfl rfl) (fun _ => rfl) zy_X9_sum zw_1325 zw_1327 zv_38 (ci := 9) rfl (zc_i (o := 0) n_a0 rfl) ⟨rfl, rfl⟩ rfl rfl rfl rfl rfl dX9_statement_97 rfl (fun q_97 hf => ?_)
            refine z_goto C 110 dX9_statement_100 rfl ?_
            refine z_aload_n (pc' := 111) C 1 dX9_statement_110 rfl rfl rfl ?_
            refine z_bipush (pc' := 113) C dX9_statement_111 zk_bipush_59 rfl ?_
            refine z_cV (pc' := 116) C hf (As := [.int (59 : Int32)]) (fun hq => c_X9_wants (a := a) (zc_i (o := 0) n_a0 rfl) (zc_o (o := 4) h_a4 rfl) hq) (fun q_113 => (zu h a [(0, .inr (9, [.int m_thrown, .ref (zo w + (a + 1)), .ref (zo w + (a + 2)), .ref (zo w + (a + 3)), .int m_now, .int m_undoable, .ref (zo w + (a + 4)), .int m_bytes, .int m_errorAt, .int m_size, .int q_113.1, .int q_113.2.1, .int q_113.2.2, .int q_97.2.2.2.1, .int q_97.2.2.2.2.1, .int q_90.2.2.2, .ref (zo w + (a + 5))])), (2, .inl (w.2.2.1 1, 2500, .inr (.inl q_97.2.2.2.2.2)))])) (fun q_113 => []) (fun _ => zu_sh (d := 0) rfl rfl) (fun _ => rfl) zy_X9_wants zw_1293 zw_1295 zv_32 (ci := 9) rfl (zc_i (o := 0) n_a0 rfl) ⟨rfl, rfl⟩ rfl rfl rfl rfl rfl dX9_statement_113 rfl (fun q_113 hf => ?_)
            cases hf
            exact z_vret C rfl rfl dX9_statement_116
      · refine z_aload_n (pc' := 53) C 1 dX9_statement_52 rfl rfl rfl ?_
        refine z_iconst (pc' := 54) C dX9_statement_53 zk_iconst_0 rfl ?_
        refine z_iload_n (pc' := 55) C 0 dX9_statement_54 rfl rfl rfl ?_
        refine z_cV (pc' := 58) C hf (As := [.int (0 : Int32), .int q_1.2]) (fun hq => c_X9_first (a := a) (zc_i (o := 0) n_a0 rfl) hq) (fun q_55 => (zu h a [(0, .inr (9, [.int m_thrown, .ref (zo w + (a + 1)), .ref (zo w + (a + 2)), .ref (zo w + (a + 3)), .int m_now, .int m_undoable, .ref (zo w + (a + 4)), .int m_bytes, .int m_errorAt, .int m_size, .int q_46.2, .int q_55.2.1, .int q_55.2.2.1, .int m_began, .int m_nested, .int q_55.2.2.2, .ref (zo w + (a + 5))])), (2, .inl (w.2.2.1 1, 2500, .inr (.inl m_read)))])) (fun q_55 => [.int q_55.1]) (fun _ => zu_sh (d := 0) rfl rfl) (fun _ => rfl) zy_X9_first zw_1320 zw_1322 zv_37 (ci := 9) rfl (zc_i (o := 0) n_a0 rfl) ⟨rfl, rfl⟩ rfl rfl rfl rfl rfl dX9_statement_55 rfl (fun q_55 hf => ?_)
        refine z_if_eq (pc' := 61) C 110 hf dX9_statement_58 rfl rfl (fun g_58 hf => ?_) (fun g_58 hf => ?_)
        · refine z_aload_n (pc' := 111) C 1 dX9_statement_110 rfl rfl rfl ?_
          refine z_bipush (pc' := 113) C dX9_statement_111 zk_bipush_59 rfl ?_
          refine z_cV (pc' := 116) C hf (As := [.int (59 : Int32)]) (fun hq => c_X9_wants (a := a) (zc_i (o := 0) n_a0 rfl) (zc_o (o := 4) h_a4 rfl) hq) (fun q_113 => (zu h a [(0, .inr (9, [.int m_thrown, .ref (zo w + (a + 1)), .ref (zo w + (a + 2)), .ref (zo w + (a + 3)), .int m_now, .int m_undoable, .ref (zo w + (a + 4)), .int m_bytes, .int m_errorAt, .int m_size, .int q_113.1, .int q_113.2.1, .int q_113.2.2, .int m_began, .int m_nested, .int q_55.2.2.2, .ref (zo w + (a + 5))])), (2, .inl (w.2.2.1 1, 2500, .inr (.inl m_read)))])) (fun q_113 => []) (fun _ => zu_sh (d := 0) rfl rfl) (fun _ => rfl) zy_X9_wants zw_1293 zw_1295 zv_32 (ci := 9) rfl (zc_i (o := 0) n_a0 rfl) ⟨rfl, rfl⟩ rfl rfl rfl rfl rfl dX9_statement_113 rfl (fun q_113 hf => ?_)
          cases hf
          exact z_vret C rfl rfl dX9_statement_116
        · refine z_aload_n (pc' := 62) C 1 dX9_statement_61 rfl rfl rfl ?_
          refine z_getf (pc' := 65) C zci_9 zw_1186 (j := 2) rfl (zc_i (o := 0) n_a0 rfl) rfl rfl dX9_statement_62 rfl ?_
          refine z_iconst (pc' := 66) C dX9_statement_65 zk_iconst_2 rfl ?_
          refine z_aload_n (pc' := 67) C 1 dX9_statement_66 rfl rfl rfl ?_
          refine z_iconst (pc' := 68) C dX9_statement_67 zk_iconst_0 rfl ?_
          refine z_bipush (pc' := 70) C dX9_statement_68 zk_bipush_100 rfl ?_
          refine z_cV (pc' := 73) C hf (As := [.int (0 : Int32), .int (100 : Int32)]) (fun hq => c_X9_reads (a := a) (zc_i (o := 0) n_a0 rfl) (zc_o (o := 4) h_a4 rfl) hq) (fun q_70 => (zu h a [(0, .inr (9, [.int m_thrown, .ref (zo w + (a + 1)), .ref (zo w + (a + 2)), .ref (zo w + (a + 3)), .int m_now, .int m_undoable, .ref (zo w + (a + 4)), .int m_bytes, .int m_errorAt, .int m_size, .int q_70.2.1, .int q_70.2.2.1, .int q_70.2.2.2.1, .int q_70.2.2.2.2, .int m_nested, .int q_55.2.2.2, .ref (zo w + (a + 5))])), (2, .inl (w.2.2.1 1, 2500, .inr (.inl m_read)))])) (fun q_70 => [.int q_70.1, .int (2 : Int32), .ref (zo w + (a + 2))]) (fun _ => zu_sh (d := 0) rfl rfl) (fun _ => rfl) zy_X9_reads zw_1283 zw_1285 zv_30 (ci := 9) rfl (zc_i (o := 0) n_a0 rfl) ⟨rfl, rfl⟩ rfl rfl rfl rfl rfl dX9_statement_70 rfl (fun q_70 hf => ?_)
          refine z_i2l (pc' := 74) C dX9_statement_73 rfl ?_
          refine z_last (pc' := 75) C hf (zc_i (o := 2) n_a2 rfl) (h' := fun v_74 => (zu h a [(0, .inr (9, [.int m_thrown, .ref (zo w + (a + 1)), .ref (zo w + (a + 2)), .ref (zo w + (a + 3)), .int m_now, .int m_undoable, .ref (zo w + (a + 4)), .int m_bytes, .int m_errorAt, .int m_size, .int q_70.2.1, .int q_70.2.2.1, .int q_70.2.2.2.1, .int q_70.2.2.2.2, .int m_nested, .int q_55.2.2.2, .ref (zo w + (a + 5))])), (2, .inl (w.2.2.1 1, 2500, .inr (.inl v_74)))])) (fun _ => zu_put (o := 2) rfl) dX9_statement_74 rfl (fun v_74 hf => ?_)
          refine z_goto C 110 dX9_statement_75 rfl ?_
          refine z_aload_n (pc' := 111) C 1 dX9_statement_110 rfl rfl rfl ?_
          refine z_bipush (pc' := 113) C dX9_statement_111 zk_bipush_59 rfl ?_
          refine z_cV (pc' := 116) C hf (As := [.int (59 : Int32)]) (fun hq => c_X9_wants (a := a) (zc_i (o := 0) n_a0 rfl) (zc_o (o := 4) h_a4 rfl) hq) (fun q_113 => (zu h a [(0, .inr (9, [.int m_thrown, .ref (zo w + (a + 1)), .ref (zo w + (a + 2)), .ref (zo w + (a + 3)), .int m_now, .int m_undoable, .ref (zo w + (a + 4)), .int m_bytes, .int m_errorAt, .int m_size, .int q_113.1, .int q_113.2.1, .int q_113.2.2, .int q_70.2.2.2.2, .int m_nested, .int q_55.2.2.2, .ref (zo w + (a + 5))])), (2, .inl (w.2.2.1 1, 2500, .inr (.inl v_74)))])) (fun q_113 => []) (fun _ => zu_sh (d := 0) rfl rfl) (fun _ => rfl) zy_X9_wants zw_1293 zw_1295 zv_32 (ci := 9) rfl (zc_i (o := 0) n_a0 rfl) ⟨rfl, rfl⟩ rfl rfl rfl rfl rfl dX9_statement_113 rfl (fun q_113 hf => ?_)
          cases hf
          exact z_vret C rfl rfl dX9_statement_116
    · refine z_aload_n (pc' := 37) C 1 dX9_statement_36 rfl rfl rfl ?_
      refine z_cV (pc' := 40) C hf (As := []) (fun hq => c_X9_itemLine (a := a) (zc_i (o := 0) n_a0 rfl) (zc_i (o := 2) n_a2 rfl) (zc_o (o := 4) h_a4 rfl) hq) (fun q_37 => (zu h a [(0, .inr (9, [.int m_thrown, .ref (zo w + (a + 1)), .ref (zo w + (a + 2)), .ref (zo w + (a + 3)), .int m_now, .int m_undoable, .ref (zo w + (a + 4)), .int m_bytes, .int m_errorAt, .int m_size, .int q_37.1, .int q_37.2.1, .int q_37.2.2.1, .int q_37.2.2.2.1, .int m_nested, .int m_once, .ref (zo w + (a + 5))])), (2, .inl (w.2.2.1 1, 2500, .inr (.inl q_37.2.2.2.2)))])) (fun q_37 => []) (fun _ => zu_sh (d := 0) rfl rfl) (fun _ => rfl) zy_X9_itemLine zw_1314 zw_1316 zv_36 (ci := 9) rfl (zc_i (o := 0) n_a0 rfl) ⟨rfl, rfl⟩ rfl rfl rfl rfl rfl dX9_statement_37 rfl (fun q_37 hf => ?_)
      refine z_goto C 110 dX9_statement_40 rfl ?_
      refine z_aload_n (pc' := 111) C 1 dX9_statement_110 rfl rfl rfl ?_
      refine z_bipush (pc' := 113) C dX9_statement_111 zk_bipush_59 rfl ?_
      refine z_cV (pc' := 116) C hf (As := [.int (59 : Int32)]) (fun hq => c_X9_wants (a := a) (zc_i (o := 0) n_a0 rfl) (zc_o (o := 4) h_a4 rfl) hq) (fun q_113 => (zu h a [(0, .inr (9, [.int m_thrown, .ref (zo w + (a + 1)), .ref (zo w + (a + 2)), .ref (zo w + (a + 3)), .int m_now, .int m_undoable, .ref (zo w + (a + 4)), .int m_bytes, .int m_errorAt, .int m_size, .int q_113.1, .int q_113.2.1, .int q_113.2.2, .int q_37.2.2.2.1, .int m_nested, .int m_once, .ref (zo w + (a + 5))])), (2, .inl (w.2.2.1 1, 2500, .inr (.inl q_37.2.2.2.2)))])) (fun q_113 => []) (fun _ => zu_sh (d := 0) rfl rfl) (fun _ => rfl) zy_X9_wants zw_1293 zw_1295 zv_32 (ci := 9) rfl (zc_i (o := 0) n_a0 rfl) ⟨rfl, rfl⟩ rfl rfl rfl rfl rfl dX9_statement_113 rfl (fun q_113 hf => ?_)
      cases hf
      exact z_vret C rfl rfl dX9_statement_116
  · refine z_aload_n (pc' := 20) C 1 dX9_statement_19 rfl rfl rfl ?_
    refine z_iload_n (pc' := 21) C 0 dX9_statement_20 rfl rfl rfl ?_
    refine z_cV (pc' := 24) C hf (As := [.int q_1.2]) (fun hq => c_X9_subLine (a := a) (zc_i (o := 0) n_a0 rfl) (zc_i (o := 2) n_a2 rfl) (zc_o (o := 4) h_a4 rfl) hq) (fun q_21 => (zu h a [(0, .inr (9, [.int m_thrown, .ref (zo w + (a + 1)), .ref (zo w + (a + 2)), .ref (zo w + (a + 3)), .int m_now, .int m_undoable, .ref (zo w + (a + 4)), .int m_bytes, .int m_errorAt, .int m_size, .int q_21.1, .int q_21.2.1, .int q_21.2.2.1, .int q_21.2.2.2.1, .int m_nested, .int m_once, .ref (zo w + (a + 5))])), (2, .inl (w.2.2.1 1, 2500, .inr (.inl q_21.2.2.2.2)))])) (fun q_21 => []) (fun _ => zu_sh (d := 0) rfl rfl) (fun _ => rfl) zy_X9_subLine zw_1308 zw_1310 zv_35 (ci := 9) rfl (zc_i (o := 0) n_a0 rfl) ⟨rfl, rfl⟩ rfl rfl rfl rfl rfl dX9_statement_21 rfl (fun q_21 hf => ?_)
    refine z_goto C 110 dX9_statement_24 rfl ?_
    refine z_aload_n (pc' := 111) C 1 dX9_statement_110 rfl rfl rfl ?_
    refine z_bipush (pc' := 113) C dX9_statement_111 zk_bipush_59 rfl ?_
    refine z_cV (pc' := 116) C hf (As := [.int (59 : Int32)]) (fun hq => c_X9_wants (a := a) (zc_i (o := 0) n_a0 rfl) (zc_o (o := 4) h_a4 rfl) hq) (fun q_113 => (zu h a [(0, .inr (9, [.int m_thrown, .ref (zo w + (a + 1)), .ref (zo w + (a + 2)), .ref (zo w + (a + 3)), .int m_now, .int m_undoable, .ref (zo w + (a + 4)), .int m_bytes, .int m_errorAt, .int m_size, .int q_113.1, .int q_113.2.1, .int q_113.2.2, .int q_21.2.2.2.1, .int m_nested, .int m_once, .ref (zo w + (a + 5))])), (2, .inl (w.2.2.1 1, 2500, .inr (.inl q_21.2.2.2.2)))])) (fun q_113 => []) (fun _ => zu_sh (d := 0) rfl rfl) (fun _ => rfl) zy_X9_wants zw_1293 zw_1295 zv_32 (ci := 9) rfl (zc_i (o := 0) n_a0 rfl) ⟨rfl, rfl⟩ rfl rfl rfl rfl rfl dX9_statement_113 rfl (fun q_113 hf => ?_)
    cases hf
    exact z_vret C rfl rfl dX9_statement_116
set_option maxRecDepth 20000 in
theorem w_X9_texts_113 {X : zC} {w : zV} {N : Nat} {h : zH} {a : Nat} {m_thrown : Int32} {m_now : Int32} {m_undoable : Int32} {m_bytes : Int32} {m_errorAt : Int32} {m_size : Int32} {m_text : Nat → Int32} (C : zK X w RX9 cX9_texts 2 none (zr 34 1758)) (n_a0 : a + 0 < N) (n_a2 : a + 2 < N) (h_a4 : zc N h (a + 4) (.inl (w.2.2.1 0, 900, .inl m_text))) {r : Int32 × Int32 × Int32 × Int32 × Int32 × Int32 × (Nat → Int64)} (n : Nat) : ∀ {m_next : Int32} {m_error : Int32} {m_place : Int32} {m_began : Int32} {m_nested : Int32} {m_once : Int32} {m_read : Nat → Int64}, f_X9_texts_113  n m_size m_next m_error m_place m_began m_nested m_once m_read m_text = some r → zZ X w (zQ X w (zr 34 1758) (none) false N (zu h a [(0, .inr (9, [.int m_thrown, .ref (zo w + (a + 1)), .ref (zo w + (a + 2)), .ref (zo w + (a + 3)), .int m_now, .int m_undoable, .ref (zo w + (a + 4)), .int m_bytes, .int m_errorAt, .int m_size, .int r.1, .int r.2.1, .int r.2.2.1, .int r.2.2.2.1, .int r.2.2.2.2.1, .int r.2.2.2.2.2.1, .ref (zo w + (a + 5))])), (2, .inl (w.2.2.1 1, 2500, .inr (.inl r.2.2.2.2.2.2)))])) 0 0 false N (zu h a [(0, .inr (9, [.int m_thrown, .ref (zo w + (a + 1)), .ref (zo w + (a + 2)), .ref (zo w + (a + 3)), .int m_now, .int m_undoable, .ref (zo w + (a + 4)), .int m_bytes, .int m_errorAt, .int m_size, .int m_next, .int m_error, .int m_place, .int m_began, .int m_nested, .int m_once, .ref (zo w + (a + 5))])), (2, .inl (w.2.2.1 1, 2500, .inr (.inl m_read)))]) 113 [(0, .ref (zo w + a))] [] := by
  induction n with
  | zero =>
    intro m_next m_error m_place m_began m_nested m_once m_read hf
    have hf : (none : Option (Int32 × Int32 × Int32 × Int32 × Int32 × Int32 × (Nat → Int64))) = some r := hf
    cases hf
  | succ z ih =>
    intro m_next m_error m_place m_began m_nested m_once m_read hf
    rw [f_X9_texts_113] at hf
    refine z_aload_n (pc' := 114) C 0 dX9_texts_113 rfl rfl rfl ?_
    refine z_getf (pc' := 117) C zci_9 zw_1195 (j := 11) rfl (zc_i (o := 0) n_a0 rfl) rfl rfl dX9_texts_114 rfl ?_
    refine z_if_ne (pc' := 120) C 135 hf dX9_texts_117 rfl rfl (fun g_117 hf => ?_) (fun g_117 hf => ?_)
    · cases hf
      exact z_vret C rfl rfl dX9_texts_135
    · refine z_aload_n (pc' := 121) C 0 dX9_texts_120 rfl rfl rfl ?_
      refine z_cV (pc' := 124) C hf (As := []) (fun hq => c_X9_sees (a := a) (zc_i (o := 0) n_a0 rfl) (zc_o (o := 4) h_a4 rfl) hq) (fun q_121 => (zu h a [(0, .inr (9, [.int m_thrown, .ref (zo w + (a + 1)), .ref (zo w + (a + 2)), .ref (zo w + (a + 3)), .int m_now, .int m_undoable, .ref (zo w + (a + 4)), .int m_bytes, .int m_errorAt, .int m_size, .int q_121.2, .int m_error, .int m_place, .int m_began, .int m_nested, .int m_once, .ref (zo w + (a + 5))])), (2, .inl (w.2.2.1 1, 2500, .inr (.inl m_read)))])) (fun q_121 => [.int q_121.1]) (fun _ => zu_sh (d := 0) rfl rfl) (fun _ => rfl) zy_X9_sees zw_1272 zw_1274 zv_28 (ci := 9) rfl (zc_i (o := 0) n_a0 rfl) ⟨rfl, rfl⟩ rfl rfl rfl rfl rfl dX9_texts_121 rfl (fun q_121 hf => ?_)
      refine z_iconst (pc' := 125) C dX9_texts_124 zk_iconst_m1 rfl ?_
      refine z_icmp_eq (pc' := 128) C 135 hf dX9_texts_125 rfl rfl (fun g_125 hf => ?_) (fun g_125 hf => ?_)
      · cases hf
        exact z_vret C rfl rfl dX9_texts_135
      · refine z_aload_n (pc' := 129) C 0 dX9_texts_128 rfl rfl rfl ?_
        refine z_cV (pc' := 132) C hf (As := []) (fun hq => c_X9_statement (a := a) (zc_i (o := 0) n_a0 rfl) (zc_i (o := 2) n_a2 rfl) (zc_o (o := 4) h_a4 rfl) hq) (fun q_129 => (zu h a [(0, .inr (9, [.int m_thrown, .ref (zo w + (a + 1)), .ref (zo w + (a + 2)), .ref (zo w + (a + 3)), .int m_now, .int m_undoable, .ref (zo w + (a + 4)), .int m_bytes, .int m_errorAt, .int m_size, .int q_129.1, .int q_129.2.1, .int q_129.2.2.1, .int q_129.2.2.2.1, .int q_129.2.2.2.2.1, .int q_129.2.2.2.2.2.1, .ref (zo w + (a + 5))])), (2, .inl (w.2.2.1 1, 2500, .inr (.inl q_129.2.2.2.2.2.2)))])) (fun q_129 => []) (fun _ => zu_sh (d := 0) rfl rfl) (fun _ => rfl) zy_X9_statement zw_1303 zw_1305 zv_34 (ci := 9) rfl (zc_i (o := 0) n_a0 rfl) ⟨rfl, rfl⟩ rfl rfl rfl rfl rfl dX9_texts_129 rfl (fun q_129 hf => ?_)
        refine z_goto C 113 dX9_texts_132 rfl ?_
        exact ih hf
set_option maxRecDepth 20000 in
theorem w_X9_texts_2 {X : zC} {w : zV} {N : Nat} {h : zH} {a : Nat} {m_thrown : Int32} {m_now : Int32} {m_undoable : Int32} {m_bytes : Int32} {m_errorAt : Int32} {m_size : Int32} {m_text : Nat → Int32} (C : zK X w RX9 cX9_texts 2 none (zr 34 1758)) (n_a0 : a + 0 < N) (n_a2 : a + 2 < N) (h_a4 : zc N h (a + 4) (.inl (w.2.2.1 0, 900, .inl m_text))) {r : Int32 × Int32 × Int32 × Int32 × Int32 × Int32 × (Nat → Int64)} (n : Nat) : ∀ {m_next : Int32} {m_error : Int32} {m_place : Int32} {m_began : Int32} {m_nested : Int32} {m_once : Int32} {m_read : Nat → Int64} {x1 : Int32}, f_X9_texts_2  n m_size m_next m_error m_place m_began m_nested m_once m_read m_text x1 = some r → zZ X w (zQ X w (zr 34 1758) (none) false N (zu h a [(0, .inr (9, [.int m_thrown, .ref (zo w + (a + 1)), .ref (zo w + (a + 2)), .ref (zo w + (a + 3)), .int m_now, .int m_undoable, .ref (zo w + (a + 4)), .int m_bytes, .int m_errorAt, .int m_size, .int r.1, .int r.2.1, .int r.2.2.1, .int r.2.2.2.1, .int r.2.2.2.2.1, .int r.2.2.2.2.2.1, .ref (zo w + (a + 5))])), (2, .inl (w.2.2.1 1, 2500, .inr (.inl r.2.2.2.2.2.2)))])) 0 0 false N (zu h a [(0, .inr (9, [.int m_thrown, .ref (zo w + (a + 1)), .ref (zo w + (a + 2)), .ref (zo w + (a + 3)), .int m_now, .int m_undoable, .ref (zo w + (a + 4)), .int m_bytes, .int m_errorAt, .int m_size, .int m_next, .int m_error, .int m_place, .int m_began, .int m_nested, .int m_once, .ref (zo w + (a + 5))])), (2, .inl (w.2.2.1 1, 2500, .inr (.inl m_read)))]) 2 [(0, .ref (zo w + a)), (1, .int x1)] [] := by
  induction n with
  | zero =>
    intro m_next m_error m_place m_began m_nested m_once m_read x1 hf
    have hf : (none : Option (Int32 × Int32 × Int32 × Int32 × Int32 × Int32 × (Nat → Int64))) = some r := hf
    cases hf
  | succ z ih =>
    intro m_next m_error m_place m_began m_nested m_once m_read x1 hf
    rw [f_X9_texts_2] at hf
    refine z_iload_n (pc' := 3) C 1 dX9_texts_2 rfl rfl rfl ?_
    refine z_sipush (pc' := 6) C dX9_texts_3 zk_sipush_2500 rfl ?_
    refine z_icmp_ge (pc' := 9) C 22 hf dX9_texts_6 rfl rfl (fun g_6 hf => ?_) (fun g_6 hf => ?_)
    · refine z_aload_n (pc' := 23) C 0 dX9_texts_22 rfl rfl rfl ?_
      refine z_iconst (pc' := 24) C dX9_texts_23 zk_iconst_0 rfl ?_
      refine z_putf (pc' := 27) C zci_9 zw_1194 (j := 10) rfl (zc_i (o := 0) n_a0 rfl) (fs' := [.int m_thrown, .ref (zo w + (a + 1)), .ref (zo w + (a + 2)), .ref (zo w + (a + 3)), .int m_now, .int m_undoable, .ref (zo w + (a + 4)), .int m_bytes, .int m_errorAt, .int m_size, .int (0 : Int32), .int m_error, .int m_place, .int m_began, .int m_nested, .int m_once, .ref (zo w + (a + 5))]) rfl rfl rfl rfl rfl (zu_put (o := 0) (L' := [(0, .inr (9, [.int m_thrown, .ref (zo w + (a + 1)), .ref (zo w + (a + 2)), .ref (zo w + (a + 3)), .int m_now, .int m_undoable, .ref (zo w + (a + 4)), .int m_bytes, .int m_errorAt, .int m_size, .int (0 : Int32), .int m_error, .int m_place, .int m_began, .int m_nested, .int m_once, .ref (zo w + (a + 5))])), (2, .inl (w.2.2.1 1, 2500, .inr (.inl m_read)))]) rfl) dX9_texts_24 rfl ?_
      refine z_aload_n (pc' := 28) C 0 dX9_texts_27 rfl rfl rfl ?_
      refine z_iconst (pc' := 29) C dX9_texts_28 zk_iconst_0 rfl ?_
      refine z_putf (pc' := 32) C zci_9 zw_1195 (j := 11) rfl (zc_i (o := 0) n_a0 rfl) (fs' := [.int m_thrown, .ref (zo w + (a + 1)), .ref (zo w + (a + 2)), .ref (zo w + (a + 3)), .int m_now, .int m_undoable, .ref (zo w + (a + 4)), .int m_bytes, .int m_errorAt, .int m_size, .int (0 : Int32), .int (0 : Int32), .int m_place, .int m_began, .int m_nested, .int m_once, .ref (zo w + (a + 5))]) rfl rfl rfl rfl rfl (zu_put (o := 0) (L' := [(0, .inr (9, [.int m_thrown, .ref (zo w + (a + 1)), .ref (zo w + (a + 2)), .ref (zo w + (a + 3)), .int m_now, .int m_undoable, .ref (zo w + (a + 4)), .int m_bytes, .int m_errorAt, .int m_size, .int (0 : Int32), .int (0 : Int32), .int m_place, .int m_began, .int m_nested, .int m_once, .ref (zo w + (a + 5))])), (2, .inl (w.2.2.1 1, 2500, .inr (.inl m_read)))]) rfl) dX9_texts_29 rfl ?_
      refine z_aload_n (pc' := 33) C 0 dX9_texts_32 rfl rfl rfl ?_
      refine z_iconst (pc' := 34) C dX9_texts_33 zk_iconst_0 rfl ?_
      refine z_putf (pc' := 37) C zci_9 zw_1198 (j := 14) rfl (zc_i (o := 0) n_a0 rfl) (fs' := [.int m_thrown, .ref (zo w + (a + 1)), .ref (zo w + (a + 2)), .ref (zo w + (a + 3)), .int m_now, .int m_undoable, .ref (zo w + (a + 4)), .int m_bytes, .int m_errorAt, .int m_size, .int (0 : Int32), .int (0 : Int32), .int m_place, .int m_began, .int (0 : Int32), .int m_once, .ref (zo w + (a + 5))]) rfl rfl rfl rfl rfl (zu_put (o := 0) (L' := [(0, .inr (9, [.int m_thrown, .ref (zo w + (a + 1)), .ref (zo w + (a + 2)), .ref (zo w + (a + 3)), .int m_now, .int m_undoable, .ref (zo w + (a + 4)), .int m_bytes, .int m_errorAt, .int m_size, .int (0 : Int32), .int (0 : Int32), .int m_place, .int m_began, .int (0 : Int32), .int m_once, .ref (zo w + (a + 5))])), (2, .inl (w.2.2.1 1, 2500, .inr (.inl m_read)))]) rfl) dX9_texts_34 rfl ?_
      refine z_aload_n (pc' := 38) C 0 dX9_texts_37 rfl rfl rfl ?_
      refine z_iconst (pc' := 39) C dX9_texts_38 zk_iconst_0 rfl ?_
      refine z_putf (pc' := 42) C zci_9 zw_1199 (j := 15) rfl (zc_i (o := 0) n_a0 rfl) (fs' := [.int m_thrown, .ref (zo w + (a + 1)), .ref (zo w + (a + 2)), .ref (zo w + (a + 3)), .int m_now, .int m_undoable, .ref (zo w + (a + 4)), .int m_bytes, .int m_errorAt, .int m_size, .int (0 : Int32), .int (0 : Int32), .int m_place, .int m_began, .int (0 : Int32), .int (0 : Int32), .ref (zo w + (a + 5))]) rfl rfl rfl rfl rfl (zu_put (o := 0) (L' := [(0, .inr (9, [.int m_thrown, .ref (zo w + (a + 1)), .ref (zo w + (a + 2)), .ref (zo w + (a + 3)), .int m_now, .int m_undoable, .ref (zo w + (a + 4)), .int m_bytes, .int m_errorAt, .int m_size, .int (0 : Int32), .int (0 : Int32), .int m_place, .int m_began, .int (0 : Int32), .int (0 : Int32), .ref (zo w + (a + 5))])), (2, .inl (w.2.2.1 1, 2500, .inr (.inl m_read)))]) rfl) dX9_texts_39 rfl ?_
      refine z_aload_n (pc' := 43) C 0 dX9_texts_42 rfl rfl rfl ?_
      refine z_getf (pc' := 46) C zci_9 zw_1186 (j := 2) rfl (zc_i (o := 0) n_a0 rfl) rfl rfl dX9_texts_43 rfl ?_
      refine z_iconst (pc' := 47) C dX9_texts_46 zk_iconst_2 rfl ?_
      refine z_ldc2 (pc' := 50) C zw_1183 dX9_texts_47 rfl ?_
      refine z_last (pc' := 51) C hf (zc_i (o := 2) n_a2 rfl) (h' := fun v_50 => (zu h a [(0, .inr (9, [.int m_thrown, .ref (zo w + (a + 1)), .ref (zo w + (a + 2)), .ref (zo w + (a + 3)), .int m_now, .int m_undoable, .ref (zo w + (a + 4)), .int m_bytes, .int m_errorAt, .int m_size, .int (0 : Int32), .int (0 : Int32), .int m_place, .int m_began, .int (0 : Int32), .int (0 : Int32), .ref (zo w + (a + 5))])), (2, .inl (w.2.2.1 1, 2500, .inr (.inl v_50)))])) (fun _ => zu_put (o := 2) rfl) dX9_texts_50 rfl (fun v_50 hf => ?_)
      refine z_aload_n (pc' := 52) C 0 dX9_texts_51 rfl rfl rfl ?_
      refine z_ldcS (pc' := 54) C 15 rfl dX9_texts_52 rfl ?_
      refine z_cV (pc' := 57) C hf (As := [.ref (zsa w 15)]) (fun hq => c_X9_needs (a := a) (zc_i (o := 0) n_a0 rfl) (zc_o (o := 4) h_a4 rfl) (by decide) hq) (fun q_54 => (zu h a [(0, .inr (9, [.int m_thrown, .ref (zo w + (a + 1)), .ref (zo w + (a + 2)), .ref (zo w + (a + 3)), .int m_now, .int m_undoable, .ref (zo w + (a + 4)), .int m_bytes, .int m_errorAt, .int m_size, .int q_54.1, .int q_54.2.1, .int q_54.2.2, .int m_began, .int (0 : Int32), .int (0 : Int32), .ref (zo w + (a + 5))])), (2, .inl (w.2.2.1 1, 2500, .inr (.inl v_50)))])) (fun q_54 => []) (fun _ => zu_sh (d := 0) rfl rfl) (fun _ => rfl) zy_X9_needs zw_1260 zw_1262 zv_25 (ci := 9) rfl (zc_i (o := 0) n_a0 rfl) ⟨rfl, rfl⟩ rfl rfl rfl rfl rfl dX9_texts_54 rfl (fun q_54 hf => ?_)
      refine z_aload_n (pc' := 58) C 0 dX9_texts_57 rfl rfl rfl ?_
      refine z_getf (pc' := 61) C zci_9 zw_1186 (j := 2) rfl (zc_i (o := 0) n_a0 rfl) rfl rfl dX9_texts_58 rfl ?_
      refine z_bipush (pc' := 63) C dX9_texts_61 zk_bipush_8 rfl ?_
      refine z_aload_n (pc' := 64) C 0 dX9_texts_63 rfl rfl rfl ?_
      refine z_iconst (pc' := 65) C dX9_texts_64 zk_iconst_0 rfl ?_
      refine z_ldc (pc' := 67) C zw_1282 dX9_texts_65 rfl ?_
      refine z_cV (pc' := 70) C hf (As := [.int (0 : Int32), .int (9999999 : Int32)]) (fun hq => c_X9_reads (a := a) (zc_i (o := 0) n_a0 rfl) (zc_o (o := 4) h_a4 rfl) hq) (fun q_67 => (zu h a [(0, .inr (9, [.int m_thrown, .ref (zo w + (a + 1)), .ref (zo w + (a + 2)), .ref (zo w + (a + 3)), .int m_now, .int m_undoable, .ref (zo w + (a + 4)), .int m_bytes, .int m_errorAt, .int m_size, .int q_67.2.1, .int q_67.2.2.1, .int q_67.2.2.2.1, .int q_67.2.2.2.2, .int (0 : Int32), .int (0 : Int32), .ref (zo w + (a + 5))])), (2, .inl (w.2.2.1 1, 2500, .inr (.inl v_50)))])) (fun q_67 => [.int q_67.1, .int (8 : Int32), .ref (zo w + (a + 2))]) (fun _ => zu_sh (d := 0) rfl rfl) (fun _ => rfl) zy_X9_reads zw_1283 zw_1285 zv_30 (ci := 9) rfl (zc_i (o := 0) n_a0 rfl) ⟨rfl, rfl⟩ rfl rfl rfl rfl rfl dX9_texts_67 rfl (fun q_67 hf => ?_)
      refine z_i2l (pc' := 71) C dX9_texts_70 rfl ?_
      refine z_last (pc' := 72) C hf (zc_i (o := 2) n_a2 rfl) (h' := fun v_71 => (zu h a [(0, .inr (9, [.int m_thrown, .ref (zo w + (a + 1)), .ref (zo w + (a + 2)), .ref (zo w + (a + 3)), .int m_now, .int m_undoable, .ref (zo w + (a + 4)), .int m_bytes, .int m_errorAt, .int m_size, .int q_67.2.1, .int q_67.2.2.1, .int q_67.2.2.2.1, .int q_67.2.2.2.2, .int (0 : Int32), .int (0 : Int32), .ref (zo w + (a + 5))])), (2, .inl (w.2.2.1 1, 2500, .inr (.inl v_71)))])) (fun _ => zu_put (o := 2) rfl) dX9_texts_71 rfl (fun v_71 hf => ?_)
      refine z_aload_n (pc' := 73) C 0 dX9_texts_72 rfl rfl rfl ?_
      refine z_bipush (pc' := 75) C dX9_texts_73 zk_bipush_59 rfl ?_
      refine z_cV (pc' := 78) C hf (As := [.int (59 : Int32)]) (fun hq => c_X9_wants (a := a) (zc_i (o := 0) n_a0 rfl) (zc_o (o := 4) h_a4 rfl) hq) (fun q_75 => (zu h a [(0, .inr (9, [.int m_thrown, .ref (zo w + (a + 1)), .ref (zo w + (a + 2)), .ref (zo w + (a + 3)), .int m_now, .int m_undoable, .ref (zo w + (a + 4)), .int m_bytes, .int m_errorAt, .int m_size, .int q_75.1, .int q_75.2.1, .int q_75.2.2, .int q_67.2.2.2.2, .int (0 : Int32), .int (0 : Int32), .ref (zo w + (a + 5))])), (2, .inl (w.2.2.1 1, 2500, .inr (.inl v_71)))])) (fun q_75 => []) (fun _ => zu_sh (d := 0) rfl rfl) (fun _ => rfl) zy_X9_wants zw_1293 zw_1295 zv_32 (ci := 9) rfl (zc_i (o := 0) n_a0 rfl) ⟨rfl, rfl⟩ rfl rfl rfl rfl rfl dX9_texts_75 rfl (fun q_75 hf => ?_)
      refine z_aload_n (pc' := 79) C 0 dX9_texts_78 rfl rfl rfl ?_
      refine z_ldcS (pc' := 81) C 16 rfl dX9_texts_79 rfl ?_
      refine z_cV (pc' := 84) C hf (As := [.ref (zsa w 16)]) (fun hq => c_X9_needs (a := a) (zc_i (o := 0) n_a0 rfl) (zc_o (o := 4) h_a4 rfl) (by decide) hq) (fun q_81 => (zu h a [(0, .inr (9, [.int m_thrown, .ref (zo w + (a + 1)), .ref (zo w + (a + 2)), .ref (zo w + (a + 3)), .int m_now, .int m_undoable, .ref (zo w + (a + 4)), .int m_bytes, .int m_errorAt, .int m_size, .int q_81.1, .int q_81.2.1, .int q_81.2.2, .int q_67.2.2.2.2, .int (0 : Int32), .int (0 : Int32), .ref (zo w + (a + 5))])), (2, .inl (w.2.2.1 1, 2500, .inr (.inl v_71)))])) (fun q_81 => []) (fun _ => zu_sh (d := 0) rfl rfl) (fun _ => rfl) zy_X9_needs zw_1260 zw_1262 zv_25 (ci := 9) rfl (zc_i (o := 0) n_a0 rfl) ⟨rfl, rfl⟩ rfl rfl rfl rfl rfl dX9_texts_81 rfl (fun q_81 hf => ?_)
      refine z_aload_n (pc' := 85) C 0 dX9_texts_84 rfl rfl rfl ?_
      refine z_getf (pc' := 88) C zci_9 zw_1186 (j := 2) rfl (zc_i (o := 0) n_a0 rfl) rfl rfl dX9_texts_85 rfl ?_
      refine z_bipush (pc' := 90) C dX9_texts_88 zk_bipush_20 rfl ?_
      refine z_ldc2 (pc' := 93) C zw_1298 dX9_texts_90 rfl ?_
      refine z_last (pc' := 94) C hf (zc_i (o := 2) n_a2 rfl) (h' := fun v_93 => (zu h a [(0, .inr (9, [.int m_thrown, .ref (zo w + (a + 1)), .ref (zo w + (a + 2)), .ref (zo w + (a + 3)), .int m_now, .int m_undoable, .ref (zo w + (a + 4)), .int m_bytes, .int m_errorAt, .int m_size, .int q_81.1, .int q_81.2.1, .int q_81.2.2, .int q_67.2.2.2.2, .int (0 : Int32), .int (0 : Int32), .ref (zo w + (a + 5))])), (2, .inl (w.2.2.1 1, 2500, .inr (.inl v_93)))])) (fun _ => zu_put (o := 2) rfl) dX9_texts_93 rfl (fun v_93 hf => ?_)
      refine z_aload_n (pc' := 95) C 0 dX9_texts_94 rfl rfl rfl ?_
      refine z_bipush (pc' := 97) C dX9_texts_95 zk_bipush_20 rfl ?_
      refine z_cV (pc' := 100) C hf (As := [.int (20 : Int32)]) (fun hq => c_X9_terms (a := a) (zc_i (o := 0) n_a0 rfl) (zc_i (o := 2) n_a2 rfl) (zc_o (o := 4) h_a4 rfl) hq) (fun q_97 => (zu h a [(0, .inr (9, [.int m_thrown, .ref (zo w + (a + 1)), .ref (zo w + (a + 2)), .ref (zo w + (a + 3)), .int m_now, .int m_undoable, .ref (zo w + (a + 4)), .int m_bytes, .int m_errorAt, .int m_size, .int q_97.1, .int q_97.2.1, .int q_97.2.2.1, .int q_97.2.2.2.1, .int (0 : Int32), .int (0 : Int32), .ref (zo w + (a + 5))])), (2, .inl (w.2.2.1 1, 2500, .inr (.inl q_97.2.2.2.2)))])) (fun q_97 => []) (fun _ => zu_sh (d := 0) rfl rfl) (fun _ => rfl) zy_X9_terms zw_1299 zw_1301 zv_33 (ci := 9) rfl (zc_i (o := 0) n_a0 rfl) ⟨rfl, rfl⟩ rfl rfl rfl rfl rfl dX9_texts_97 rfl (fun q_97 hf => ?_)
      refine z_aload_n (pc' := 101) C 0 dX9_texts_100 rfl rfl rfl ?_
      refine z_getf (pc' := 104) C zci_9 zw_1186 (j := 2) rfl (zc_i (o := 0) n_a0 rfl) rfl rfl dX9_texts_101 rfl ?_
      refine z_iconst (pc' := 105) C dX9_texts_104 zk_iconst_0 rfl ?_
      refine z_lconst (pc' := 106) C dX9_texts_105 zl_1 rfl ?_
      refine z_last (pc' := 107) C hf (zc_i (o := 2) n_a2 rfl) (h' := fun v_106 => (zu h a [(0, .inr (9, [.int m_thrown, .ref (zo w + (a + 1)), .ref (zo w + (a + 2)), .ref (zo w + (a + 3)), .int m_now, .int m_undoable, .ref (zo w + (a + 4)), .int m_bytes, .int m_errorAt, .int m_size, .int q_97.1, .int q_97.2.1, .int q_97.2.2.1, .int q_97.2.2.2.1, .int (0 : Int32), .int (0 : Int32), .ref (zo w + (a + 5))])), (2, .inl (w.2.2.1 1, 2500, .inr (.inl v_106)))])) (fun _ => zu_put (o := 2) rfl) dX9_texts_106 rfl (fun v_106 hf => ?_)
      refine z_aload_n (pc' := 108) C 0 dX9_texts_107 rfl rfl rfl ?_
      refine z_bipush (pc' := 110) C dX9_texts_108 zk_bipush_59 rfl ?_
      refine z_cV (pc' := 113) C hf (As := [.int (59 : Int32)]) (fun hq => c_X9_wants (a := a) (zc_i (o := 0) n_a0 rfl) (zc_o (o := 4) h_a4 rfl) hq) (fun q_110 => (zu h a [(0, .inr (9, [.int m_thrown, .ref (zo w + (a + 1)), .ref (zo w + (a + 2)), .ref (zo w + (a + 3)), .int m_now, .int m_undoable, .ref (zo w + (a + 4)), .int m_bytes, .int m_errorAt, .int m_size, .int q_110.1, .int q_110.2.1, .int q_110.2.2, .int q_97.2.2.2.1, .int (0 : Int32), .int (0 : Int32), .ref (zo w + (a + 5))])), (2, .inl (w.2.2.1 1, 2500, .inr (.inl v_106)))])) (fun q_110 => []) (fun _ => zu_sh (d := 0) rfl rfl) (fun _ => rfl) zy_X9_wants zw_1293 zw_1295 zv_32 (ci := 9) rfl (zc_i (o := 0) n_a0 rfl) ⟨rfl, rfl⟩ rfl rfl rfl rfl rfl dX9_texts_110 rfl (fun q_110 hf => ?_)
      refine z_pick (lv' := [(0, .ref (zo w + a))]) [0] rfl ?_
      exact w_X9_texts_113 C n_a0 n_a2 h_a4  FU hf
    · refine z_aload_n (pc' := 10) C 0 dX9_texts_9 rfl rfl rfl ?_
      refine z_getf (pc' := 13) C zci_9 zw_1186 (j := 2) rfl (zc_i (o := 0) n_a0 rfl) rfl rfl dX9_texts_10 rfl ?_
      refine z_iload_n (pc' := 14) C 1 dX9_texts_13 rfl rfl rfl ?_
      refine z_lconst (pc' := 15) C dX9_texts_14 zl_0 rfl ?_
      refine z_last (pc' := 16) C hf (zc_i (o := 2) n_a2 rfl) (h' := fun v_15 => (zu h a [(0, .inr (9, [.int m_thrown, .ref (zo w + (a + 1)), .ref (zo w + (a + 2)), .ref (zo w + (a + 3)), .int m_now, .int m_undoable, .ref (zo w + (a + 4)), .int m_bytes, .int m_errorAt, .int m_size, .int m_next, .int m_error, .int m_place, .int m_began, .int m_nested, .int m_once, .ref (zo w + (a + 5))])), (2, .inl (w.2.2.1 1, 2500, .inr (.inl v_15)))])) (fun _ => zu_put (o := 2) rfl) dX9_texts_15 rfl (fun v_15 hf => ?_)
      refine z_iinc (pc' := 19) C 1 [(1, .int (x1 + (1 : Int32))), (0, .ref (zo w + a))] dX9_texts_16 rfl zk_iconst_1 rfl rfl rfl ?_
      refine z_goto C 2 dX9_texts_19 rfl ?_
      refine z_pick (lv' := [(0, .ref (zo w + a)), (1, .int (x1 + (1 : Int32)))]) [1, 0] rfl ?_
      exact ih hf
set_option maxRecDepth 20000 in
theorem c_X9_texts {w : zV} {N : Nat} {h : zH} {a : Nat} {m_thrown : Int32} {m_next : Int32} {m_error : Int32} {m_place : Int32} {m_began : Int32} {m_nested : Int32} {m_once : Int32} {m_now : Int32} {m_undoable : Int32} {m_bytes : Int32} {m_errorAt : Int32} {m_size : Int32} {m_read : Nat → Int64} {m_text : Nat → Int32} (h_a0 : zc N h (a + 0) (.inr (9, [.int m_thrown, .ref (zo w + (a + 1)), .ref (zo w + (a + 2)), .ref (zo w + (a + 3)), .int m_now, .int m_undoable, .ref (zo w + (a + 4)), .int m_bytes, .int m_errorAt, .int m_size, .int m_next, .int m_error, .int m_place, .int m_began, .int m_nested, .int m_once, .ref (zo w + (a + 5))]))) (h_a2 : zc N h (a + 2) (.inl (w.2.2.1 1, 2500, .inr (.inl m_read)))) (h_a4 : zc N h (a + 4) (.inl (w.2.2.1 0, 900, .inl m_text))) {r : Int32 × Int32 × Int32 × Int32 × Int32 × Int32 × (Nat → Int64)} (hf : f_X9_texts m_size m_next m_error m_place m_began m_nested m_once m_read m_text = some r) : zM w yX9_texts cX9_texts 2 none (zr 34 1758) false N N h [.ref (zo w + a)] (none) (zu h a [(0, .inr (9, [.int m_thrown, .ref (zo w + (a + 1)), .ref (zo w + (a + 2)), .ref (zo w + (a + 3)), .int m_now, .int m_undoable, .ref (zo w + (a + 4)), .int m_bytes, .int m_errorAt, .int m_size, .int r.1, .int r.2.1, .int r.2.2.1, .int r.2.2.2.1, .int r.2.2.2.2.1, .int r.2.2.2.2.2.1, .ref (zo w + (a + 5))])), (2, .inl (w.2.2.1 1, 2500, .inr (.inl r.2.2.2.2.2.2)))]) := by
  unfold f_X9_texts at hf
  refine zM_of (by decide) rfl (fun X C _ => ?_)
  refine z_eq (h' := (zu h a [(0, .inr (9, [.int m_thrown, .ref (zo w + (a + 1)), .ref (zo w + (a + 2)), .ref (zo w + (a + 3)), .int m_now, .int m_undoable, .ref (zo w + (a + 4)), .int m_bytes, .int m_errorAt, .int m_size, .int m_next, .int m_error, .int m_place, .int m_began, .int m_nested, .int m_once, .ref (zo w + (a + 5))])), (2, .inl (w.2.2.1 1, 2500, .inr (.inl m_read)))])) (zu_s h_a0 (zu_s h_a2 zu_0)).symm ?_
  have n_a0 := h_a0.1
  have n_a2 := h_a2.1
  refine z_pick (lv' := [(0, .ref (zo w + a))]) [0] rfl ?_
  refine z_iconst (pc' := 1) C dX9_texts_0 zk_iconst_0 rfl ?_
  refine z_istore_n (pc' := 2) C [(1, .int (0 : Int32)), (0, .ref (zo w + a))] dX9_texts_1 rfl rfl rfl rfl ?_
  refine z_pick (lv' := [(0, .ref (zo w + a)), (1, .int (0 : Int32))]) [1, 0] rfl ?_
  exact w_X9_texts_2 C n_a0 n_a2 h_a4  FU hf
set_option maxRecDepth 20000 in
theorem w_X9_load_71 {X : zC} {w : zV} {N : Nat} {h : zH} {a : Nat} {m_text : Nat → Int32} (C : zK X w RX9 cX9_load 3 (some .int) (zr 35 1787)) (n_a0 : a + 0 < N) (n_a1 : a + 1 < N) (n_a2 : a + 2 < N) (h_a4 : zc N h (a + 4) (.inl (w.2.2.1 0, 900, .inl m_text))) {r : Int32 × Int32 × Int32 × Int32 × Int32 × Int32 × Int32 × Int32 × Int32 × Int32 × Int32 × Int32 × Int32 × (Nat → Int64) × (Nat → Int64)} (n : Nat) : ∀ {m_thrown : Int32} {m_now : Int32} {m_undoable : Int32} {m_bytes : Int32} {m_errorAt : Int32} {m_size : Int32} {m_next : Int32} {m_error : Int32} {m_place : Int32} {m_began : Int32} {m_nested : Int32} {m_once : Int32} {m_rows : Nat → Int64} {m_read : Nat → Int64} {x2 : Int32}, f_X9_load_71  n m_thrown m_now m_undoable m_bytes m_errorAt m_size m_next m_error m_place m_began m_nested m_once m_rows m_read x2 = some r → zZ X w (zQ X w (zr 35 1787) (some (.int r.1)) false N (zu h a [(0, .inr (9, [.int r.2.1, .ref (zo w + (a + 1)), .ref (zo w + (a + 2)), .ref (zo w + (a + 3)), .int r.2.2.1, .int r.2.2.2.1, .ref (zo w + (a + 4)), .int r.2.2.2.2.1, .int r.2.2.2.2.2.1, .int r.2.2.2.2.2.2.1, .int r.2.2.2.2.2.2.2.1, .int r.2.2.2.2.2.2.2.2.1, .int r.2.2.2.2.2.2.2.2.2.1, .int r.2.2.2.2.2.2.2.2.2.2.1, .int r.2.2.2.2.2.2.2.2.2.2.2.1, .int r.2.2.2.2.2.2.2.2.2.2.2.2.1, .ref (zo w + (a + 5))])), (1, .inl (w.2.2.1 1, 22500, .inr (.inl r.2.2.2.2.2.2.2.2.2.2.2.2.2.1))), (2, .inl (w.2.2.1 1, 2500, .inr (.inl r.2.2.2.2.2.2.2.2.2.2.2.2.2.2)))])) 0 0 false N (zu h a [(0, .inr (9, [.int m_thrown, .ref (zo w + (a + 1)), .ref (zo w + (a + 2)), .ref (zo w + (a + 3)), .int m_now, .int m_undoable, .ref (zo w + (a + 4)), .int m_bytes, .int m_errorAt, .int m_size, .int m_next, .int m_error, .int m_place, .int m_began, .int m_nested, .int m_once, .ref (zo w + (a + 5))])), (1, .inl (w.2.2.1 1, 22500, .inr (.inl m_rows))), (2, .inl (w.2.2.1 1, 2500, .inr (.inl m_read)))]) 71 [(0, .ref (zo w + a)), (2, .int x2)] [] := by
  induction n with
  | zero =>
    intro m_thrown m_now m_undoable m_bytes m_errorAt m_size m_next m_error m_place m_began m_nested m_once m_rows m_read x2 hf
    have hf : (none : Option (Int32 × Int32 × Int32 × Int32 × Int32 × Int32 × Int32 × Int32 × Int32 × Int32 × Int32 × Int32 × Int32 × (Nat → Int64) × (Nat → Int64))) = some r := hf
    cases hf
  | succ z ih =>
    intro m_thrown m_now m_undoable m_bytes m_errorAt m_size m_next m_error m_place m_began m_nested m_once m_rows m_read x2 hf
    rw [f_X9_load_71] at hf
    refine z_iload_n (pc' := 72) C 1 dX9_load_71 rfl rfl rfl ?_
    refine z_sipush (pc' := 75) C dX9_load_72 zk_sipush_2500 rfl ?_
    refine z_icmp_ge (pc' := 78) C 95 hf dX9_load_75 rfl rfl (fun g_75 hf => ?_) (fun g_75 hf => ?_)
    · refine z_aload_n (pc' := 96) C 0 dX9_load_95 rfl rfl rfl ?_
      refine z_iconst (pc' := 97) C dX9_load_96 zk_iconst_0 rfl ?_
      refine z_cV (pc' := 100) C hf (As := [.int (0 : Int32)]) (fun hq => c_X9_small (a := a) (zc_i (o := 0) n_a0 rfl) (zc_i (o := 1) n_a1 rfl) hq) (fun _ => (zu h a [(0, .inr (9, [.int m_thrown, .ref (zo w + (a + 1)), .ref (zo w + (a + 2)), .ref (zo w + (a + 3)), .int m_now, .int m_undoable, .ref (zo w + (a + 4)), .int m_bytes, .int m_errorAt, .int m_size, .int m_next, .int m_error, .int m_place, .int m_began, .int m_nested, .int m_once, .ref (zo w + (a + 5))])), (1, .inl (w.2.2.1 1, 22500, .inr (.inl m_rows))), (2, .inl (w.2.2.1 1, 2500, .inr (.inl m_read)))])) (fun q_97 => [.int q_97]) (fun _ => rfl) (fun _ => rfl) zy_X9_small zw_1357 zw_1359 zv_45 (ci := 9) rfl (zc_i (o := 0) n_a0 rfl) ⟨rfl, rfl⟩ rfl rfl rfl rfl rfl dX9_load_97 rfl (fun q_97 hf => ?_)
      cases hf
      exact z_iret C rfl rfl dX9_load_100
    · refine z_aload_n (pc' := 79) C 0 dX9_load_78 rfl rfl rfl ?_
      refine z_iload_n (pc' := 80) C 1 dX9_load_79 rfl rfl rfl ?_
      refine z_aload_n (pc' := 81) C 0 dX9_load_80 rfl rfl rfl ?_
      refine z_getf (pc' := 84) C zci_9 zw_1186 (j := 2) rfl (zc_i (o := 0) n_a0 rfl) rfl rfl dX9_load_81 rfl ?_
      refine z_iload_n (pc' := 85) C 1 dX9_load_84 rfl rfl rfl ?_
      refine z_lald (pc' := 86) C hf (zc_i (o := 2) n_a2 rfl) dX9_load_85 rfl (fun v_85 hf => ?_)
      refine z_cV (pc' := 89) C hf (As := [.int x2, .long v_85]) (fun hq => c_X9_put (a := a) (zc_i (o := 0) n_a0 rfl) (zc_i (o := 1) n_a1 rfl) hq) (fun q_86 => (zu h a [(0, .inr (9, [.int m_thrown, .ref (zo w + (a + 1)), .ref (zo w + (a + 2)), .ref (zo w + (a + 3)), .int m_now, .int m_undoable, .ref (zo w + (a + 4)), .int m_bytes, .int m_errorAt, .int m_size, .int m_next, .int m_error, .int m_place, .int m_began, .int m_nested, .int m_once, .ref (zo w + (a + 5))])), (1, .inl (w.2.2.1 1, 22500, .inr (.inl q_86))), (2, .inl (w.2.2.1 1, 2500, .inr (.inl m_read)))])) (fun q_86 => []) (fun _ => zu_sh (d := 0) rfl rfl) (fun _ => rfl) zy_X9_put zw_1353 zw_1355 zv_44 (ci := 9) rfl (zc_i (o := 0) n_a0 rfl) ⟨rfl, rfl⟩ rfl rfl rfl rfl rfl dX9_load_86 rfl (fun q_86 hf => ?_)
      refine z_iinc (pc' := 92) C 1 [(2, .int (x2 + (1 : Int32))), (0, .ref (zo w + a))] dX9_load_89 rfl zk_iconst_1 rfl rfl rfl ?_
      refine z_goto C 71 dX9_load_92 rfl ?_
      refine z_pick (lv' := [(0, .ref (zo w + a)), (2, .int (x2 + (1 : Int32)))]) [1, 0] rfl ?_
      exact ih hf
set_option maxRecDepth 20000 in
theorem c_X9_load {w : zV} {N : Nat} {h : zH} {a : Nat} {m_thrown : Int32} {m_next : Int32} {m_error : Int32} {m_place : Int32} {m_began : Int32} {m_nested : Int32} {m_once : Int32} {m_now : Int32} {m_undoable : Int32} {m_bytes : Int32} {m_errorAt : Int32} {m_size : Int32} {m_rows : Nat → Int64} {m_read : Nat → Int64} {m_text : Nat → Int32} {p1 : Int32} (h_a0 : zc N h (a + 0) (.inr (9, [.int m_thrown, .ref (zo w + (a + 1)), .ref (zo w + (a + 2)), .ref (zo w + (a + 3)), .int m_now, .int m_undoable, .ref (zo w + (a + 4)), .int m_bytes, .int m_errorAt, .int m_size, .int m_next, .int m_error, .int m_place, .int m_began, .int m_nested, .int m_once, .ref (zo w + (a + 5))]))) (h_a1 : zc N h (a + 1) (.inl (w.2.2.1 1, 22500, .inr (.inl m_rows)))) (h_a2 : zc N h (a + 2) (.inl (w.2.2.1 1, 2500, .inr (.inl m_read)))) (h_a4 : zc N h (a + 4) (.inl (w.2.2.1 0, 900, .inl m_text))) {r : Int32 × Int32 × Int32 × Int32 × Int32 × Int32 × Int32 × Int32 × Int32 × Int32 × Int32 × Int32 × Int32 × (Nat → Int64) × (Nat → Int64)} (hf : f_X9_load m_thrown m_now m_undoable m_bytes m_errorAt m_size m_next m_error m_place m_began m_nested m_once m_rows m_read m_text p1 = some r) : zM w yX9_load cX9_load 3 (some .int) (zr 35 1787) false N N h [.ref (zo w + a), .int p1] (some (.int r.1)) (zu h a [(0, .inr (9, [.int r.2.1, .ref (zo w + (a + 1)), .ref (zo w + (a + 2)), .ref (zo w + (a + 3)), .int r.2.2.1, .int r.2.2.2.1, .ref (zo w + (a + 4)), .int r.2.2.2.2.1, .int r.2.2.2.2.2.1, .int r.2.2.2.2.2.2.1, .int r.2.2.2.2.2.2.2.1, .int r.2.2.2.2.2.2.2.2.1, .int r.2.2.2.2.2.2.2.2.2.1, .int r.2.2.2.2.2.2.2.2.2.2.1, .int r.2.2.2.2.2.2.2.2.2.2.2.1, .int r.2.2.2.2.2.2.2.2.2.2.2.2.1, .ref (zo w + (a + 5))])), (1, .inl (w.2.2.1 1, 22500, .inr (.inl r.2.2.2.2.2.2.2.2.2.2.2.2.2.1))), (2, .inl (w.2.2.1 1, 2500, .inr (.inl r.2.2.2.2.2.2.2.2.2.2.2.2.2.2)))]) := by
  unfold f_X9_load at hf
  refine zM_of (by decide) rfl (fun X C _ => ?_)
  refine z_eq (h' := (zu h a [(0, .inr (9, [.int m_thrown, .ref (zo w + (a + 1)), .ref (zo w + (a + 2)), .ref (zo w + (a + 3)), .int m_now, .int m_undoable, .ref (zo w + (a + 4)), .int m_bytes, .int m_errorAt, .int m_size, .int m_next, .int m_error, .int m_place, .int m_began, .int m_nested, .int m_once, .ref (zo w + (a + 5))])), (1, .inl (w.2.2.1 1, 22500, .inr (.inl m_rows))), (2, .inl (w.2.2.1 1, 2500, .inr (.inl m_read)))])) (zu_s h_a0 (zu_s h_a1 (zu_s h_a2 zu_0))).symm ?_
  have n_a0 := h_a0.1
  have n_a1 := h_a1.1
  have n_a2 := h_a2.1
  refine z_pick (lv' := [(0, .ref (zo w + a)), (1, .int p1)]) [0, 1] rfl ?_
  refine z_aload_n (pc' := 1) C 0 dX9_load_0 rfl rfl rfl ?_
  refine z_iconst (pc' := 2) C dX9_load_1 zk_iconst_0 rfl ?_
  refine z_putf (pc' := 5) C zci_9 zw_1184 (j := 0) rfl (zc_i (o := 0) n_a0 rfl) (fs' := [.int (0 : Int32), .ref (zo w + (a + 1)), .ref (zo w + (a + 2)), .ref (zo w + (a + 3)), .int m_now, .int m_undoable, .ref (zo w + (a + 4)), .int m_bytes, .int m_errorAt, .int m_size, .int m_next, .int m_error, .int m_place, .int m_began, .int m_nested, .int m_once, .ref (zo w + (a + 5))]) rfl rfl rfl rfl rfl (zu_put (o := 0) (L' := [(0, .inr (9, [.int (0 : Int32), .ref (zo w + (a + 1)), .ref (zo w + (a + 2)), .ref (zo w + (a + 3)), .int m_now, .int m_undoable, .ref (zo w + (a + 4)), .int m_bytes, .int m_errorAt, .int m_size, .int m_next, .int m_error, .int m_place, .int m_began, .int m_nested, .int m_once, .ref (zo w + (a + 5))])), (1, .inl (w.2.2.1 1, 22500, .inr (.inl m_rows))), (2, .inl (w.2.2.1 1, 2500, .inr (.inl m_read)))]) rfl) dX9_load_2 rfl ?_
  refine z_aload_n (pc' := 6) C 0 dX9_load_5 rfl rfl rfl ?_
  refine z_iload_n (pc' := 7) C 1 dX9_load_6 rfl rfl rfl ?_
  refine z_i2l (pc' := 8) C dX9_load_7 rfl ?_
  refine z_lconst (pc' := 9) C dX9_load_8 zl_0 rfl ?_
  refine z_aload_n (pc' := 10) C 0 dX9_load_9 rfl rfl rfl ?_
  refine z_getf (pc' := 13) C zci_9 zw_1191 (j := 7) rfl (zc_i (o := 0) n_a0 rfl) rfl rfl dX9_load_10 rfl ?_
  refine z_i2l (pc' := 14) C dX9_load_13 rfl ?_
  refine z_cS (pc' := 17) C hf (As := [.long (p1).toInt64, .long (0 : Int64), .long (m_bytes).toInt64]) (fun hq => c_X9_isIn  hq) (fun _ => (zu h a [(0, .inr (9, [.int (0 : Int32), .ref (zo w + (a + 1)), .ref (zo w + (a + 2)), .ref (zo w + (a + 3)), .int m_now, .int m_undoable, .ref (zo w + (a + 4)), .int m_bytes, .int m_errorAt, .int m_size, .int m_next, .int m_error, .int m_place, .int m_began, .int m_nested, .int m_once, .ref (zo w + (a + 5))])), (1, .inl (w.2.2.1 1, 22500, .inr (.inl m_rows))), (2, .inl (w.2.2.1 1, 2500, .inr (.inl m_read)))])) (fun q_14 => [.int q_14, .ref (zo w + a)]) (fun _ => rfl) (fun _ => rfl) zy_X9_isIn zw_1248 zw_1249 ⟨rfl, rfl⟩ rfl rfl rfl rfl rfl dX9_load_14 rfl (fun q_14 hf => ?_)
  refine z_iconst (pc' := 18) C dX9_load_17 zk_iconst_1 rfl ?_
  refine z_cV (pc' := 21) C hf (As := [.int q_14, .int (1 : Int32)]) (fun hq => c_X9_right (a := a) (zc_i (o := 0) n_a0 rfl) hq) (fun q_18 => (zu h a [(0, .inr (9, [.int q_18.2, .ref (zo w + (a + 1)), .ref (zo w + (a + 2)), .ref (zo w + (a + 3)), .int m_now, .int m_undoable, .ref (zo w + (a + 4)), .int m_bytes, .int m_errorAt, .int m_size, .int m_next, .int m_error, .int m_place, .int m_began, .int m_nested, .int m_once, .ref (zo w + (a + 5))])), (1, .inl (w.2.2.1 1, 22500, .inr (.inl m_rows))), (2, .inl (w.2.2.1 1, 2500, .inr (.inl m_read)))])) (fun q_18 => [.int q_18.1]) (fun _ => zu_sh (d := 0) rfl rfl) (fun _ => rfl) zy_X9_right zw_1251 zw_1253 zv_23 (ci := 9) rfl (zc_i (o := 0) n_a0 rfl) ⟨rfl, rfl⟩ rfl rfl rfl rfl rfl dX9_load_18 rfl (fun q_18 hf => ?_)
  refine z_if_ne (pc' := 24) C 26 hf dX9_load_21 rfl rfl (fun g_21 hf => ?_) (fun g_21 hf => ?_)
  · refine z_aload_n (pc' := 27) C 0 dX9_load_26 rfl rfl rfl ?_
    refine z_iload_n (pc' := 28) C 1 dX9_load_27 rfl rfl rfl ?_
    refine z_putf (pc' := 31) C zci_9 zw_1193 (j := 9) rfl (zc_i (o := 0) n_a0 rfl) (fs' := [.int q_18.2, .ref (zo w + (a + 1)), .ref (zo w + (a + 2)), .ref (zo w + (a + 3)), .int m_now, .int m_undoable, .ref (zo w + (a + 4)), .int m_bytes, .int m_errorAt, .int p1, .int m_next, .int m_error, .int m_place, .int m_began, .int m_nested, .int m_once, .ref (zo w + (a + 5))]) rfl rfl rfl rfl rfl (zu_put (o := 0) (L' := [(0, .inr (9, [.int q_18.2, .ref (zo w + (a + 1)), .ref (zo w + (a + 2)), .ref (zo w + (a + 3)), .int m_now, .int m_undoable, .ref (zo w + (a + 4)), .int m_bytes, .int m_errorAt, .int p1, .int m_next, .int m_error, .int m_place, .int m_began, .int m_nested, .int m_once, .ref (zo w + (a + 5))])), (1, .inl (w.2.2.1 1, 22500, .inr (.inl m_rows))), (2, .inl (w.2.2.1 1, 2500, .inr (.inl m_read)))]) rfl) dX9_load_28 rfl ?_
    refine z_aload_n (pc' := 32) C 0 dX9_load_31 rfl rfl rfl ?_
    refine z_iconst (pc' := 33) C dX9_load_32 zk_iconst_0 rfl ?_
    refine z_putf (pc' := 36) C zci_9 zw_1191 (j := 7) rfl (zc_i (o := 0) n_a0 rfl) (fs' := [.int q_18.2, .ref (zo w + (a + 1)), .ref (zo w + (a + 2)), .ref (zo w + (a + 3)), .int m_now, .int m_undoable, .ref (zo w + (a + 4)), .int (0 : Int32), .int m_errorAt, .int p1, .int m_next, .int m_error, .int m_place, .int m_began, .int m_nested, .int m_once, .ref (zo w + (a + 5))]) rfl rfl rfl rfl rfl (zu_put (o := 0) (L' := [(0, .inr (9, [.int q_18.2, .ref (zo w + (a + 1)), .ref (zo w + (a + 2)), .ref (zo w + (a + 3)), .int m_now, .int m_undoable, .ref (zo w + (a + 4)), .int (0 : Int32), .int m_errorAt, .int p1, .int m_next, .int m_error, .int m_place, .int m_began, .int m_nested, .int m_once, .ref (zo w + (a + 5))])), (1, .inl (w.2.2.1 1, 22500, .inr (.inl m_rows))), (2, .inl (w.2.2.1 1, 2500, .inr (.inl m_read)))]) rfl) dX9_load_33 rfl ?_
    refine z_aload_n (pc' := 37) C 0 dX9_load_36 rfl rfl rfl ?_
    refine z_iconst (pc' := 38) C dX9_load_37 zk_iconst_m1 rfl ?_
    refine z_putf (pc' := 41) C zci_9 zw_1192 (j := 8) rfl (zc_i (o := 0) n_a0 rfl) (fs' := [.int q_18.2, .ref (zo w + (a + 1)), .ref (zo w + (a + 2)), .ref (zo w + (a + 3)), .int m_now, .int m_undoable, .ref (zo w + (a + 4)), .int (0 : Int32), .int (-1 : Int32), .int p1, .int m_next, .int m_error, .int m_place, .int m_began, .int m_nested, .int m_once, .ref (zo w + (a + 5))]) rfl rfl rfl rfl rfl (zu_put (o := 0) (L' := [(0, .inr (9, [.int q_18.2, .ref (zo w + (a + 1)), .ref (zo w + (a + 2)), .ref (zo w + (a + 3)), .int m_now, .int m_undoable, .ref (zo w + (a + 4)), .int (0 : Int32), .int (-1 : Int32), .int p1, .int m_next, .int m_error, .int m_place, .int m_began, .int m_nested, .int m_once, .ref (zo w + (a + 5))])), (1, .inl (w.2.2.1 1, 22500, .inr (.inl m_rows))), (2, .inl (w.2.2.1 1, 2500, .inr (.inl m_read)))]) rfl) dX9_load_38 rfl ?_
    refine z_aload_n (pc' := 42) C 0 dX9_load_41 rfl rfl rfl ?_
    refine z_cV (pc' := 45) C hf (As := []) (fun hq => c_X9_texts (a := a) (zc_i (o := 0) n_a0 rfl) (zc_i (o := 2) n_a2 rfl) (zc_o (o := 4) h_a4 rfl) hq) (fun q_42 => (zu h a [(0, .inr (9, [.int q_18.2, .ref (zo w + (a + 1)), .ref (zo w + (a + 2)), .ref (zo w + (a + 3)), .int m_now, .int m_undoable, .ref (zo w + (a + 4)), .int (0 : Int32), .int (-1 : Int32), .int p1, .int q_42.1, .int q_42.2.1, .int q_42.2.2.1, .int q_42.2.2.2.1, .int q_42.2.2.2.2.1, .int q_42.2.2.2.2.2.1, .ref (zo w + (a + 5))])), (1, .inl (w.2.2.1 1, 22500, .inr (.inl m_rows))), (2, .inl (w.2.2.1 1, 2500, .inr (.inl q_42.2.2.2.2.2.2)))])) (fun q_42 => []) (fun _ => zu_sh (d := 0) rfl rfl) (fun _ => rfl) zy_X9_texts zw_1255 zw_1257 zv_24 (ci := 9) rfl (zc_i (o := 0) n_a0 rfl) ⟨rfl, rfl⟩ rfl rfl rfl rfl rfl dX9_load_42 rfl (fun q_42 hf => ?_)
    refine z_aload_n (pc' := 46) C 0 dX9_load_45 rfl rfl rfl ?_
    refine z_getf (pc' := 49) C zci_9 zw_1195 (j := 11) rfl (zc_i (o := 0) n_a0 rfl) rfl rfl dX9_load_46 rfl ?_
    refine z_if_eq (pc' := 52) C 65 hf dX9_load_49 rfl rfl (fun g_49 hf => ?_) (fun g_49 hf => ?_)
    · refine z_aload_n (pc' := 66) C 0 dX9_load_65 rfl rfl rfl ?_
      refine z_cV (pc' := 69) C hf (As := []) (fun hq => c_X9_change (a := a) (zc_i (o := 0) n_a0 rfl) (zc_i (o := 1) n_a1 rfl) hq) (fun q_66 => (zu h a [(0, .inr (9, [.int q_18.2, .ref (zo w + (a + 1)), .ref (zo w + (a + 2)), .ref (zo w + (a + 3)), .int q_66.1, .int q_66.2.1, .ref (zo w + (a + 4)), .int (0 : Int32), .int (-1 : Int32), .int p1, .int q_42.1, .int q_42.2.1, .int q_42.2.2.1, .int q_42.2.2.2.1, .int q_42.2.2.2.2.1, .int q_42.2.2.2.2.2.1, .ref (zo w + (a + 5))])), (1, .inl (w.2.2.1 1, 22500, .inr (.inl q_66.2.2))), (2, .inl (w.2.2.1 1, 2500, .inr (.inl q_42.2.2.2.2.2.2)))])) (fun q_66 => []) (fun _ => zu_sh (d := 0) rfl rfl) (fun _ => rfl) zy_X9_change zw_1345 zw_1347 zv_42 (ci := 9) rfl (zc_i (o := 0) n_a0 rfl) ⟨rfl, rfl⟩ rfl rfl rfl rfl rfl dX9_load_66 rfl (fun q_66 hf => ?_)
      refine z_iconst (pc' := 70) C dX9_load_69 zk_iconst_0 rfl ?_
      refine z_istore_n (pc' := 71) C [(2, .int (0 : Int32)), (0, .ref (zo w + a)), (1, .int p1)] dX9_load_70 rfl rfl rfl rfl ?_
      refine z_pick (lv' := [(0, .ref (zo w + a)), (2, .int (0 : Int32))]) [1, 0] rfl ?_
      exact w_X9_load_71 C n_a0 n_a1 n_a2 h_a4  FU hf
    · refine z_aload_n (pc' := 53) C 0 dX9_load_52 rfl rfl rfl ?_
      refine z_aload_n (pc' := 54) C 0 dX9_load_53 rfl rfl rfl ?_
      refine z_getf (pc' := 57) C zci_9 zw_1196 (j := 12) rfl (zc_i (o := 0) n_a0 rfl) rfl rfl dX9_load_54 rfl ?_
      refine z_putf (pc' := 60) C zci_9 zw_1192 (j := 8) rfl (zc_i (o := 0) n_a0 rfl) (fs' := [.int q_18.2, .ref (zo w + (a + 1)), .ref (zo w + (a + 2)), .ref (zo w + (a + 3)), .int m_now, .int m_undoable, .ref (zo w + (a + 4)), .int (0 : Int32), .int q_42.2.2.1, .int p1, .int q_42.1, .int q_42.2.1, .int q_42.2.2.1, .int q_42.2.2.2.1, .int q_42.2.2.2.2.1, .int q_42.2.2.2.2.2.1, .ref (zo w + (a + 5))]) rfl rfl rfl rfl rfl (zu_put (o := 0) (L' := [(0, .inr (9, [.int q_18.2, .ref (zo w + (a + 1)), .ref (zo w + (a + 2)), .ref (zo w + (a + 3)), .int m_now, .int m_undoable, .ref (zo w + (a + 4)), .int (0 : Int32), .int q_42.2.2.1, .int p1, .int q_42.1, .int q_42.2.1, .int q_42.2.2.1, .int q_42.2.2.2.1, .int q_42.2.2.2.2.1, .int q_42.2.2.2.2.2.1, .ref (zo w + (a + 5))])), (1, .inl (w.2.2.1 1, 22500, .inr (.inl m_rows))), (2, .inl (w.2.2.1 1, 2500, .inr (.inl q_42.2.2.2.2.2.2)))]) rfl) dX9_load_57 rfl ?_
      refine z_aload_n (pc' := 61) C 0 dX9_load_60 rfl rfl rfl ?_
      refine z_getf (pc' := 64) C zci_9 zw_1195 (j := 11) rfl (zc_i (o := 0) n_a0 rfl) rfl rfl dX9_load_61 rfl ?_
      cases hf
      exact z_iret C rfl rfl dX9_load_64
  · refine z_iconst (pc' := 25) C dX9_load_24 zk_iconst_0 rfl ?_
    cases hf
    exact z_iret C rfl rfl dX9_load_25
set_option maxRecDepth 20000 in
theorem c_X9_errorOffset {w : zV} {N : Nat} {h : zH} {a : Nat} {m_thrown : Int32} {m_next : Int32} {m_error : Int32} {m_place : Int32} {m_began : Int32} {m_nested : Int32} {m_once : Int32} {m_now : Int32} {m_undoable : Int32} {m_bytes : Int32} {m_errorAt : Int32} {m_size : Int32} (h_a0 : zc N h (a + 0) (.inr (9, [.int m_thrown, .ref (zo w + (a + 1)), .ref (zo w + (a + 2)), .ref (zo w + (a + 3)), .int m_now, .int m_undoable, .ref (zo w + (a + 4)), .int m_bytes, .int m_errorAt, .int m_size, .int m_next, .int m_error, .int m_place, .int m_began, .int m_nested, .int m_once, .ref (zo w + (a + 5))]))) {r : Int32 × Int32} (hf : f_X9_errorOffset m_thrown m_errorAt = some r) : zM w yX9_errorOffset cX9_errorOffset 1 (some .int) (zr 0 0) false N N h [.ref (zo w + a)] (some (.int r.1)) (zu h a [(0, .inr (9, [.int r.2, .ref (zo w + (a + 1)), .ref (zo w + (a + 2)), .ref (zo w + (a + 3)), .int m_now, .int m_undoable, .ref (zo w + (a + 4)), .int m_bytes, .int m_errorAt, .int m_size, .int m_next, .int m_error, .int m_place, .int m_began, .int m_nested, .int m_once, .ref (zo w + (a + 5))]))]) := by
  unfold f_X9_errorOffset at hf
  refine zM_of (by decide) rfl (fun X C _ => ?_)
  refine z_eq (h' := (zu h a [(0, .inr (9, [.int m_thrown, .ref (zo w + (a + 1)), .ref (zo w + (a + 2)), .ref (zo w + (a + 3)), .int m_now, .int m_undoable, .ref (zo w + (a + 4)), .int m_bytes, .int m_errorAt, .int m_size, .int m_next, .int m_error, .int m_place, .int m_began, .int m_nested, .int m_once, .ref (zo w + (a + 5))]))])) (zu_s h_a0 zu_0).symm ?_
  have n_a0 := h_a0.1
  refine z_pick (lv' := [(0, .ref (zo w + a))]) [0] rfl ?_
  refine z_aload_n (pc' := 1) C 0 dX9_errorOffset_0 rfl rfl rfl ?_
  refine z_iconst (pc' := 2) C dX9_errorOffset_1 zk_iconst_0 rfl ?_
  refine z_putf (pc' := 5) C zci_9 zw_1184 (j := 0) rfl (zc_i (o := 0) n_a0 rfl) (fs' := [.int (0 : Int32), .ref (zo w + (a + 1)), .ref (zo w + (a + 2)), .ref (zo w + (a + 3)), .int m_now, .int m_undoable, .ref (zo w + (a + 4)), .int m_bytes, .int m_errorAt, .int m_size, .int m_next, .int m_error, .int m_place, .int m_began, .int m_nested, .int m_once, .ref (zo w + (a + 5))]) rfl rfl rfl rfl rfl (zu_put (o := 0) (L' := [(0, .inr (9, [.int (0 : Int32), .ref (zo w + (a + 1)), .ref (zo w + (a + 2)), .ref (zo w + (a + 3)), .int m_now, .int m_undoable, .ref (zo w + (a + 4)), .int m_bytes, .int m_errorAt, .int m_size, .int m_next, .int m_error, .int m_place, .int m_began, .int m_nested, .int m_once, .ref (zo w + (a + 5))]))]) rfl) dX9_errorOffset_2 rfl ?_
  refine z_aload_n (pc' := 6) C 0 dX9_errorOffset_5 rfl rfl rfl ?_
  refine z_getf (pc' := 9) C zci_9 zw_1192 (j := 8) rfl (zc_i (o := 0) n_a0 rfl) rfl rfl dX9_errorOffset_6 rfl ?_
  cases hf
  exact z_iret C rfl rfl dX9_errorOffset_9
set_option maxRecDepth 20000 in
theorem w_X9_rateOf_18 {X : zC} {w : zV} {N : Nat} {h : zH} {a : Nat} {m_thrown : Int32} {m_next : Int32} {m_error : Int32} {m_place : Int32} {m_began : Int32} {m_nested : Int32} {m_once : Int32} {m_now : Int32} {m_undoable : Int32} {m_bytes : Int32} {m_errorAt : Int32} {m_size : Int32} {m_rows : Nat → Int64} (C : zK X w RX9 cX9_rateOf 16 (some .long) (zr 2 58)) (h_a0 : zc N h (a + 0) (.inr (9, [.int m_thrown, .ref (zo w + (a + 1)), .ref (zo w + (a + 2)), .ref (zo w + (a + 3)), .int m_now, .int m_undoable, .ref (zo w + (a + 4)), .int m_bytes, .int m_errorAt, .int m_size, .int m_next, .int m_error, .int m_place, .int m_began, .int m_nested, .int m_once, .ref (zo w + (a + 5))]))) (h_a1 : zc N h (a + 1) (.inl (w.2.2.1 1, 22500, .inr (.inl m_rows)))) (n_a5 : a + 5 < N) {r : Int64 × (Nat → Int64)} (n : Nat) : ∀ {m_pile : Nat → Int64} {x1 : Int64} {x3 : Int64} {x5 : Int64} {x7 : Int32} {x8 : Int32}, f_X9_rateOf_18  n m_now m_rows m_pile x1 x3 x5 x7 x8 = some r → zZ X w (zQ X w (zr 2 58) (some (.long r.1)) false N (zu h a [(5, .inl (w.2.2.1 1, 128, .inr (.inl r.2)))])) 0 0 false N (zu h a [(5, .inl (w.2.2.1 1, 128, .inr (.inl m_pile)))]) 18 [(0, .ref (zo w + a)), (1, .long x1), (3, .long x3), (5, .long x5), (7, .int x7), (8, .int x8)] [] := by
  induction n with
  | zero =>
    intro m_pile x1 x3 x5 x7 x8 hf
    have hf : (none : Option (Int64 × (Nat → Int64))) = some r := hf
    cases hf
  | succ z ih =>
    intro m_pile x1 x3 x5 x7 x8 hf
    rw [f_X9_rateOf_18] at hf
    refine z_iload (pc' := 20) C 5 dX9_rateOf_18 rfl rfl ?_
    refine z_i2l (pc' := 21) C dX9_rateOf_20 rfl ?_
    refine z_aload_n (pc' := 22) C 0 dX9_rateOf_21 rfl rfl rfl ?_
    refine z_iconst (pc' := 23) C dX9_rateOf_22 zk_iconst_3 rfl ?_
    refine z_cV (pc' := 26) C hf (As := [.int (3 : Int32)]) (fun hq => c_X9_get (a := a) (zc_o (o := 0) h_a0 rfl) (zc_o (o := 1) h_a1 rfl) hq) (fun _ => (zu h a [(5, .inl (w.2.2.1 1, 128, .inr (.inl m_pile)))])) (fun q_23 => [.long q_23, .long (x8).toInt64]) (fun _ => rfl) (fun _ => rfl) zy_X9_get zw_1349 zw_1351 zv_43 (ci := 9) rfl (zc_o (o := 0) h_a0 rfl) ⟨rfl, rfl⟩ rfl rfl rfl rfl rfl dX9_rateOf_23 rfl (fun q_23 hf => ?_)
    refine z_lcmp_ge (pc' := 30) C 217 hf dX9_rateOf_26 rfl dX9_rateOf_27 rfl rfl (fun g_26 hf => ?_) (fun g_26 hf => ?_)
    · refine z_aload_n (pc' := 218) C 0 dX9_rateOf_217 rfl rfl rfl ?_
      refine z_getf (pc' := 221) C zci_9 zw_1200 (j := 16) rfl (zc_o (o := 0) h_a0 rfl) rfl rfl dX9_rateOf_218 rfl ?_
      refine z_iconst (pc' := 222) C dX9_rateOf_221 zk_iconst_0 rfl ?_
      refine z_lald (pc' := 223) C hf (zc_i (o := 5) n_a5 rfl) dX9_rateOf_222 rfl (fun v_222 hf => ?_)
      refine z_lconst (pc' := 224) C dX9_rateOf_223 zl_0 rfl ?_
      refine z_ldc2 (pc' := 227) C zw_1428 dX9_rateOf_224 rfl ?_
      refine z_cS (pc' := 230) C hf (As := [.long v_222, .long (0 : Int64), .long (99999 : Int64)]) (fun hq => c_X9_clamped  hq) (fun _ => (zu h a [(5, .inl (w.2.2.1 1, 128, .inr (.inl m_pile)))])) (fun q_227 => [.long q_227]) (fun _ => rfl) (fun _ => rfl) zy_X9_clamped zw_1425 zw_1426 ⟨rfl, rfl⟩ rfl rfl rfl rfl rfl dX9_rateOf_227 rfl (fun q_227 hf => ?_)
      cases hf
      exact z_lret C rfl rfl dX9_rateOf_230
    · refine z_aload_n (pc' := 31) C 0 dX9_rateOf_30 rfl rfl rfl ?_
      refine z_sipush (pc' := 34) C dX9_rateOf_31 zk_sipush_600 rfl ?_
      refine z_iload (pc' := 36) C 5 dX9_rateOf_34 rfl rfl ?_
      refine z_iadd (pc' := 37) C dX9_rateOf_36 rfl ?_
      refine z_cV (pc' := 40) C hf (As := [.int ((600 : Int32) + x8)]) (fun hq => c_X9_small (a := a) (zc_o (o := 0) h_a0 rfl) (zc_o (o := 1) h_a1 rfl) hq) (fun _ => (zu h a [(5, .inl (w.2.2.1 1, 128, .inr (.inl m_pile)))])) (fun q_37 => [.int q_37]) (fun _ => rfl) (fun _ => rfl) zy_X9_small zw_1357 zw_1359 zv_45 (ci := 9) rfl (zc_o (o := 0) h_a0 rfl) ⟨rfl, rfl⟩ rfl rfl rfl rfl rfl dX9_rateOf_37 rfl (fun q_37 hf => ?_)
      refine z_istore (pc' := 42) C [(9, .int q_37), (0, .ref (zo w + a)), (1, .long x1), (3, .long x3), (5, .long x5), (7, .int x7), (8, .int x8)] dX9_rateOf_40 rfl rfl rfl ?_
      refine z_aload_n (pc' := 43) C 1 dX9_rateOf_42 rfl rfl rfl ?_
      refine z_sipush (pc' := 46) C dX9_rateOf_43 zk_sipush_600 rfl ?_
      refine z_iload (pc' := 48) C 6 dX9_rateOf_46 rfl rfl ?_
      refine z_iadd (pc' := 49) C dX9_rateOf_48 rfl ?_
      refine z_iconst (pc' := 50) C dX9_rateOf_49 zk_iconst_1 rfl ?_
      refine z_iadd (pc' := 51) C dX9_rateOf_50 rfl ?_
      refine z_cV (pc' := 54) C hf (As := [.int (((600 : Int32) + x8) + (1 : Int32))]) (fun hq => c_X9_get (a := a) (zc_o (o := 0) h_a0 rfl) (zc_o (o := 1) h_a1 rfl) hq) (fun _ => (zu h a [(5, .inl (w.2.2.1 1, 128, .inr (.inl m_pile)))])) (fun q_51 => [.long q_51]) (fun _ => rfl) (fun _ => rfl) zy_X9_get zw_1349 zw_1351 zv_43 (ci := 9) rfl (zc_o (o := 0) h_a0 rfl) ⟨rfl, rfl⟩ rfl rfl rfl rfl rfl dX9_rateOf_51 rfl (fun q_51 hf => ?_)
      refine z_lstore (pc' := 56) C [(10, .long q_51), (9, .int q_37), (0, .ref (zo w + a)), (1, .long x1), (3, .long x3), (5, .long x5), (7, .int x7), (8, .int x8)] dX9_rateOf_54 rfl rfl rfl ?_
      refine z_iload (pc' := 58) C 1 dX9_rateOf_56 rfl rfl ?_
      refine z_iconst (pc' := 59) C dX9_rateOf_58 zk_iconst_2 rfl ?_
      refine z_icmp_ge (pc' := 62) C 109 hf dX9_rateOf_59 rfl rfl (fun g_59 hf => ?_) (fun g_59 hf => ?_)
      · refine z_iinc (pc' := 112) C 6 [(7, .int (x7 + (-1 : Int32))), (10, .long q_51), (9, .int q_37), (0, .ref (zo w + a)), (1, .long x1), (3, .long x3), (5, .long x5), (8, .int x8)] dX9_rateOf_109 rfl zk_iconst_m1 rfl rfl rfl ?_
        refine z_aload_n (pc' := 113) C 3 dX9_rateOf_112 rfl rfl rfl ?_
        refine z_getf (pc' := 116) C zci_9 zw_1200 (j := 16) rfl (zc_o (o := 0) h_a0 rfl) rfl rfl dX9_rateOf_113 rfl ?_
        refine z_iload (pc' := 118) C 0 dX9_rateOf_116 rfl rfl ?_
        refine z_iconst (pc' := 119) C dX9_rateOf_118 zk_iconst_1 rfl ?_
        refine z_isub (pc' := 120) C dX9_rateOf_119 rfl ?_
        refine z_lald (pc' := 121) C hf (zc_i (o := 5) n_a5 rfl) dX9_rateOf_120 rfl (fun v_120 hf => ?_)
        refine z_lstore (pc' := 123) C [(12, .long v_120), (7, .int (x7 + (-1 : Int32))), (10, .long q_51), (9, .int q_37), (0, .ref (zo w + a)), (1, .long x1), (3, .long x3), (5, .long x5), (8, .int x8)] dX9_rateOf_121 rfl rfl rfl ?_
        refine z_aload_n (pc' := 124) C 4 dX9_rateOf_123 rfl rfl rfl ?_
        refine z_getf (pc' := 127) C zci_9 zw_1200 (j := 16) rfl (zc_o (o := 0) h_a0 rfl) rfl rfl dX9_rateOf_124 rfl ?_
        refine z_iload (pc' := 129) C 1 dX9_rateOf_127 rfl rfl ?_
        refine z_lald (pc' := 130) C hf (zc_i (o := 5) n_a5 rfl) dX9_rateOf_129 rfl (fun v_129 hf => ?_)
        refine z_lstore (pc' := 132) C [(14, .long v_129), (12, .long v_120), (7, .int (x7 + (-1 : Int32))), (10, .long q_51), (9, .int q_37), (0, .ref (zo w + a)), (1, .long x1), (3, .long x3), (5, .long x5), (8, .int x8)] dX9_rateOf_130 rfl rfl rfl ?_
        refine z_aload_n (pc' := 133) C 5 dX9_rateOf_132 rfl rfl rfl ?_
        refine z_getf (pc' := 136) C zci_9 zw_1200 (j := 16) rfl (zc_o (o := 0) h_a0 rfl) rfl rfl dX9_rateOf_133 rfl ?_
        refine z_iload (pc' := 138) C 2 dX9_rateOf_136 rfl rfl ?_
        refine z_iconst (pc' := 139) C dX9_rateOf_138 zk_iconst_1 rfl ?_
        refine z_isub (pc' := 140) C dX9_rateOf_139 rfl ?_
        refine z_iload (pc' := 142) C 4 dX9_rateOf_140 rfl rfl ?_
        refine z_bipush (pc' := 144) C dX9_rateOf_142 zk_bipush_43 rfl ?_
        refine z_icmp_ne (pc' := 147) C 155 hf dX9_rateOf_144 rfl rfl (fun g_144 hf => ?_) (fun g_144 hf => ?_)
        · refine z_iload (pc' := 157) C 4 dX9_rateOf_155 rfl rfl ?_
          refine z_bipush (pc' := 159) C dX9_rateOf_157 zk_bipush_45 rfl ?_
          refine z_icmp_ne (pc' := 162) C 170 hf dX9_rateOf_159 rfl rfl (fun g_159 hf => ?_) (fun g_159 hf => ?_)
          · refine z_iload (pc' := 172) C 4 dX9_rateOf_170 rfl rfl ?_
            refine z_bipush (pc' := 174) C dX9_rateOf_172 zk_bipush_42 rfl ?_
            refine z_icmp_ne (pc' := 177) C 185 hf dX9_rateOf_174 rfl rfl (fun g_174 hf => ?_) (fun g_174 hf => ?_)
            · refine z_lload (pc' := 187) C 0 dX9_rateOf_185 rfl rfl ?_
              refine z_lconst (pc' := 188) C dX9_rateOf_187 zl_0 rfl ?_
              refine z_lcmp_ne (pc' := 192) C 196 hf dX9_rateOf_188 rfl dX9_rateOf_189 rfl rfl (fun g_188 hf => ?_) (fun g_188 hf => ?_)
              · refine z_lload (pc' := 198) C 1 dX9_rateOf_196 rfl rfl ?_
                refine z_lload (pc' := 200) C 0 dX9_rateOf_198 rfl rfl ?_
                obtain ⟨g_200, hf⟩ := zG1_s hf
                refine z_ldiv (pc' := 201) C dX9_rateOf_200 g_200 rfl ?_
                refine z_ldc2 (pc' := 204) C zw_1423 dX9_rateOf_201 rfl ?_
                refine z_ldc2 (pc' := 207) C zw_1424 dX9_rateOf_204 rfl ?_
                refine z_cS (pc' := 210) C hf (As := [.long (v_120 / v_129), .long (-1000000 : Int64), .long (1000000 : Int64)]) (fun hq => c_X9_clamped  hq) (fun _ => (zu h a [(5, .inl (w.2.2.1 1, 128, .inr (.inl m_pile)))])) (fun q_207 => [.long q_207, .int ((x7 + (-1 : Int32)) - (1 : Int32)), .ref (zo w + (a + 5))]) (fun _ => rfl) (fun _ => rfl) zy_X9_clamped zw_1425 zw_1426 ⟨rfl, rfl⟩ rfl rfl rfl rfl rfl dX9_rateOf_207 rfl (fun q_207 hf => ?_)
                refine z_last (pc' := 211) C hf (zc_i (o := 5) n_a5 rfl) (h' := fun v_210 => (zu h a [(5, .inl (w.2.2.1 1, 128, .inr (.inl v_210)))])) (fun _ => zu_put (o := 5) rfl) dX9_rateOf_210 rfl (fun v_210 hf => ?_)
                refine z_iinc (pc' := 214) C 9 [(8, .int (x8 + (2 : Int32))), (14, .long v_129), (12, .long v_120), (7, .int (x7 + (-1 : Int32))), (10, .long q_51), (9, .int q_37), (0, .ref (zo w + a)), (1, .long x1), (3, .long x3), (5, .long x5)] dX9_rateOf_211 rfl zk_iconst_2 rfl rfl rfl ?_
                refine z_goto C 18 dX9_rateOf_214 rfl ?_
                refine z_pick (lv' := [(0, .ref (zo w + a)), (1, .long x1), (3, .long x3), (5, .long x5), (7, .int (x7 + (-1 : Int32))), (8, .int (x8 + (2 : Int32)))]) [6, 7, 8, 9, 3, 0] rfl ?_
                exact ih hf
              · refine z_lconst (pc' := 193) C dX9_rateOf_192 zl_0 rfl ?_
                refine z_goto C 201 dX9_rateOf_193 rfl ?_
                refine z_ldc2 (pc' := 204) C zw_1423 dX9_rateOf_201 rfl ?_
                refine z_ldc2 (pc' := 207) C zw_1424 dX9_rateOf_204 rfl ?_
                refine z_cS (pc' := 210) C hf (As := [.long (0 : Int64), .long (-1000000 : Int64), .long (1000000 : Int64)]) (fun hq => c_X9_clamped  hq) (fun _ => (zu h a [(5, .inl (w.2.2.1 1, 128, .inr (.inl m_pile)))])) (fun q_207 => [.long q_207, .int ((x7 + (-1 : Int32)) - (1 : Int32)), .ref (zo w + (a + 5))]) (fun _ => rfl) (fun _ => rfl) zy_X9_clamped zw_1425 zw_1426 ⟨rfl, rfl⟩ rfl rfl rfl rfl rfl dX9_rateOf_207 rfl (fun q_207 hf => ?_)
                refine z_last (pc' := 211) C hf (zc_i (o := 5) n_a5 rfl) (h' := fun v_210 => (zu h a [(5, .inl (w.2.2.1 1, 128, .inr (.inl v_210)))])) (fun _ => zu_put (o := 5) rfl) dX9_rateOf_210 rfl (fun v_210 hf => ?_)
                refine z_iinc (pc' := 214) C 9 [(8, .int (x8 + (2 : Int32))), (14, .long v_129), (12, .long v_120), (7, .int (x7 + (-1 : Int32))), (10, .long q_51), (9, .int q_37), (0, .ref (zo w + a)), (1, .long x1), (3, .long x3), (5, .long x5)] dX9_rateOf_211 rfl zk_iconst_2 rfl rfl rfl ?_
                refine z_goto C 18 dX9_rateOf_214 rfl ?_
                refine z_pick (lv' := [(0, .ref (zo w + a)), (1, .long x1), (3, .long x3), (5, .long x5), (7, .int (x7 + (-1 : Int32))), (8, .int (x8 + (2 : Int32)))]) [6, 7, 8, 9, 3, 0] rfl ?_
                exact ih hf
            · refine z_lload (pc' := 179) C 1 dX9_rateOf_177 rfl rfl ?_
              refine z_lload (pc' := 181) C 0 dX9_rateOf_179 rfl rfl ?_
              refine z_lmul (pc' := 182) C dX9_rateOf_181 rfl ?_
              refine z_goto C 201 dX9_rateOf_182 rfl ?_
              refine z_ldc2 (pc' := 204) C zw_1423 dX9_rateOf_201 rfl ?_
              refine z_ldc2 (pc' := 207) C zw_1424 dX9_rateOf_204 rfl ?_
              refine z_cS (pc' := 210) C hf (As := [.long (v_120 * v_129), .long (-1000000 : Int64), .long (1000000 : Int64)]) (fun hq => c_X9_clamped  hq) (fun _ => (zu h a [(5, .inl (w.2.2.1 1, 128, .inr (.inl m_pile)))])) (fun q_207 => [.long q_207, .int ((x7 + (-1 : Int32)) - (1 : Int32)), .ref (zo w + (a + 5))]) (fun _ => rfl) (fun _ => rfl) zy_X9_clamped zw_1425 zw_1426 ⟨rfl, rfl⟩ rfl rfl rfl rfl rfl dX9_rateOf_207 rfl (fun q_207 hf => ?_)
              refine z_last (pc' := 211) C hf (zc_i (o := 5) n_a5 rfl) (h' := fun v_210 => (zu h a [(5, .inl (w.2.2.1 1, 128, .inr (.inl v_210)))])) (fun _ => zu_put (o := 5) rfl) dX9_rateOf_210 rfl (fun v_210 hf => ?_)
              refine z_iinc (pc' := 214) C 9 [(8, .int (x8 + (2 : Int32))), (14, .long v_129), (12, .long v_120), (7, .int (x7 + (-1 : Int32))), (10, .long q_51), (9, .int q_37), (0, .ref (zo w + a)), (1, .long x1), (3, .long x3), (5, .long x5)] dX9_rateOf_211 rfl zk_iconst_2 rfl rfl rfl ?_
              refine z_goto C 18 dX9_rateOf_214 rfl ?_
              refine z_pick (lv' := [(0, .ref (zo w + a)), (1, .long x1), (3, .long x3), (5, .long x5), (7, .int (x7 + (-1 : Int32))), (8, .int (x8 + (2 : Int32)))]) [6, 7, 8, 9, 3, 0] rfl ?_
              exact ih hf
          · refine z_lload (pc' := 164) C 1 dX9_rateOf_162 rfl rfl ?_
            refine z_lload (pc' := 166) C 0 dX9_rateOf_164 rfl rfl ?_
            refine z_lsub (pc' := 167) C dX9_rateOf_166 rfl ?_
            refine z_goto C 201 dX9_rateOf_167 rfl ?_
            refine z_ldc2 (pc' := 204) C zw_1423 dX9_rateOf_201 rfl ?_
            refine z_ldc2 (pc' := 207) C zw_1424 dX9_rateOf_204 rfl ?_
            refine z_cS (pc' := 210) C hf (As := [.long (v_120 - v_129), .long (-1000000 : Int64), .long (1000000 : Int64)]) (fun hq => c_X9_clamped  hq) (fun _ => (zu h a [(5, .inl (w.2.2.1 1, 128, .inr (.inl m_pile)))])) (fun q_207 => [.long q_207, .int ((x7 + (-1 : Int32)) - (1 : Int32)), .ref (zo w + (a + 5))]) (fun _ => rfl) (fun _ => rfl) zy_X9_clamped zw_1425 zw_1426 ⟨rfl, rfl⟩ rfl rfl rfl rfl rfl dX9_rateOf_207 rfl (fun q_207 hf => ?_)
            refine z_last (pc' := 211) C hf (zc_i (o := 5) n_a5 rfl) (h' := fun v_210 => (zu h a [(5, .inl (w.2.2.1 1, 128, .inr (.inl v_210)))])) (fun _ => zu_put (o := 5) rfl) dX9_rateOf_210 rfl (fun v_210 hf => ?_)
            refine z_iinc (pc' := 214) C 9 [(8, .int (x8 + (2 : Int32))), (14, .long v_129), (12, .long v_120), (7, .int (x7 + (-1 : Int32))), (10, .long q_51), (9, .int q_37), (0, .ref (zo w + a)), (1, .long x1), (3, .long x3), (5, .long x5)] dX9_rateOf_211 rfl zk_iconst_2 rfl rfl rfl ?_
            refine z_goto C 18 dX9_rateOf_214 rfl ?_
            refine z_pick (lv' := [(0, .ref (zo w + a)), (1, .long x1), (3, .long x3), (5, .long x5), (7, .int (x7 + (-1 : Int32))), (8, .int (x8 + (2 : Int32)))]) [6, 7, 8, 9, 3, 0] rfl ?_
            exact ih hf
        · refine z_lload (pc' := 149) C 1 dX9_rateOf_147 rfl rfl ?_
          refine z_lload (pc' := 151) C 0 dX9_rateOf_149 rfl rfl ?_
          refine z_ladd (pc' := 152) C dX9_rateOf_151 rfl ?_
          refine z_goto C 201 dX9_rateOf_152 rfl ?_
          refine z_ldc2 (pc' := 204) C zw_1423 dX9_rateOf_201 rfl ?_
          refine z_ldc2 (pc' := 207) C zw_1424 dX9_rateOf_204 rfl ?_
          refine z_cS (pc' := 210) C hf (As := [.long (v_120 + v_129), .long (-1000000 : Int64), .long (1000000 : Int64)]) (fun hq => c_X9_clamped  hq) (fun _ => (zu h a [(5, .inl (w.2.2.1 1, 128, .inr (.inl m_pile)))])) (fun q_207 => [.long q_207, .int ((x7 + (-1 : Int32)) - (1 : Int32)), .ref (zo w + (a + 5))]) (fun _ => rfl) (fun _ => rfl) zy_X9_clamped zw_1425 zw_1426 ⟨rfl, rfl⟩ rfl rfl rfl rfl rfl dX9_rateOf_207 rfl (fun q_207 hf => ?_)
          refine z_last (pc' := 211) C hf (zc_i (o := 5) n_a5 rfl) (h' := fun v_210 => (zu h a [(5, .inl (w.2.2.1 1, 128, .inr (.inl v_210)))])) (fun _ => zu_put (o := 5) rfl) dX9_rateOf_210 rfl (fun v_210 hf => ?_)
          refine z_iinc (pc' := 214) C 9 [(8, .int (x8 + (2 : Int32))), (14, .long v_129), (12, .long v_120), (7, .int (x7 + (-1 : Int32))), (10, .long q_51), (9, .int q_37), (0, .ref (zo w + a)), (1, .long x1), (3, .long x3), (5, .long x5)] dX9_rateOf_211 rfl zk_iconst_2 rfl rfl rfl ?_
          refine z_goto C 18 dX9_rateOf_214 rfl ?_
          refine z_pick (lv' := [(0, .ref (zo w + a)), (1, .long x1), (3, .long x3), (5, .long x5), (7, .int (x7 + (-1 : Int32))), (8, .int (x8 + (2 : Int32)))]) [6, 7, 8, 9, 3, 0] rfl ?_
          exact ih hf
      · refine z_aload_n (pc' := 63) C 2 dX9_rateOf_62 rfl rfl rfl ?_
        refine z_getf (pc' := 66) C zci_9 zw_1200 (j := 16) rfl (zc_o (o := 0) h_a0 rfl) rfl rfl dX9_rateOf_63 rfl ?_
        refine z_iload (pc' := 68) C 6 dX9_rateOf_66 rfl rfl ?_
        refine z_iload (pc' := 70) C 1 dX9_rateOf_68 rfl rfl ?_
        refine z_if_ne (pc' := 73) C 78 hf dX9_rateOf_70 rfl rfl (fun g_70 hf => ?_) (fun g_70 hf => ?_)
        · refine z_lload (pc' := 80) C 0 dX9_rateOf_78 rfl rfl ?_
          refine z_lconst (pc' := 81) C dX9_rateOf_80 zl_0 rfl ?_
          refine z_lcmp_ne (pc' := 85) C 89 hf dX9_rateOf_81 rfl dX9_rateOf_82 rfl rfl (fun g_81 hf => ?_) (fun g_81 hf => ?_)
          · refine z_lload (pc' := 91) C 0 dX9_rateOf_89 rfl rfl ?_
            refine z_lconst (pc' := 92) C dX9_rateOf_91 zl_1 rfl ?_
            refine z_lcmp_ne (pc' := 96) C 100 hf dX9_rateOf_92 rfl dX9_rateOf_93 rfl rfl (fun g_92 hf => ?_) (fun g_92 hf => ?_)
            · refine z_lload (pc' := 102) C 5 dX9_rateOf_100 rfl rfl ?_
              refine z_last (pc' := 103) C hf (zc_i (o := 5) n_a5 rfl) (h' := fun v_102 => (zu h a [(5, .inl (w.2.2.1 1, 128, .inr (.inl v_102)))])) (fun _ => zu_put (o := 5) rfl) dX9_rateOf_102 rfl (fun v_102 hf => ?_)
              refine z_iinc (pc' := 106) C 6 [(7, .int (x7 + (1 : Int32))), (10, .long q_51), (9, .int q_37), (0, .ref (zo w + a)), (1, .long x1), (3, .long x3), (5, .long x5), (8, .int x8)] dX9_rateOf_103 rfl zk_iconst_1 rfl rfl rfl ?_
              refine z_goto C 211 dX9_rateOf_106 rfl ?_
              refine z_iinc (pc' := 214) C 7 [(8, .int (x8 + (2 : Int32))), (7, .int (x7 + (1 : Int32))), (10, .long q_51), (9, .int q_37), (0, .ref (zo w + a)), (1, .long x1), (3, .long x3), (5, .long x5)] dX9_rateOf_211 rfl zk_iconst_2 rfl rfl rfl ?_
              refine z_goto C 18 dX9_rateOf_214 rfl ?_
              refine z_pick (lv' := [(0, .ref (zo w + a)), (1, .long x1), (3, .long x3), (5, .long x5), (7, .int (x7 + (1 : Int32))), (8, .int (x8 + (2 : Int32)))]) [4, 5, 6, 7, 1, 0] rfl ?_
              exact ih hf
            · refine z_lload_n (pc' := 97) C 4 dX9_rateOf_96 rfl rfl rfl ?_
              refine z_goto C 102 dX9_rateOf_97 rfl ?_
              refine z_last (pc' := 103) C hf (zc_i (o := 5) n_a5 rfl) (h' := fun v_102 => (zu h a [(5, .inl (w.2.2.1 1, 128, .inr (.inl v_102)))])) (fun _ => zu_put (o := 5) rfl) dX9_rateOf_102 rfl (fun v_102 hf => ?_)
              refine z_iinc (pc' := 106) C 6 [(7, .int (x7 + (1 : Int32))), (10, .long q_51), (9, .int q_37), (0, .ref (zo w + a)), (1, .long x1), (3, .long x3), (5, .long x5), (8, .int x8)] dX9_rateOf_103 rfl zk_iconst_1 rfl rfl rfl ?_
              refine z_goto C 211 dX9_rateOf_106 rfl ?_
              refine z_iinc (pc' := 214) C 7 [(8, .int (x8 + (2 : Int32))), (7, .int (x7 + (1 : Int32))), (10, .long q_51), (9, .int q_37), (0, .ref (zo w + a)), (1, .long x1), (3, .long x3), (5, .long x5)] dX9_rateOf_211 rfl zk_iconst_2 rfl rfl rfl ?_
              refine z_goto C 18 dX9_rateOf_214 rfl ?_
              refine z_pick (lv' := [(0, .ref (zo w + a)), (1, .long x1), (3, .long x3), (5, .long x5), (7, .int (x7 + (1 : Int32))), (8, .int (x8 + (2 : Int32)))]) [4, 5, 6, 7, 1, 0] rfl ?_
              exact ih hf
          · refine z_lload_n (pc' := 86) C 3 dX9_rateOf_85 rfl rfl rfl ?_
            refine z_goto C 102 dX9_rateOf_86 rfl ?_
            refine z_last (pc' := 103) C hf (zc_i (o := 5) n_a5 rfl) (h' := fun v_102 => (zu h a [(5, .inl (w.2.2.1 1, 128, .inr (.inl v_102)))])) (fun _ => zu_put (o := 5) rfl) dX9_rateOf_102 rfl (fun v_102 hf => ?_)
            refine z_iinc (pc' := 106) C 6 [(7, .int (x7 + (1 : Int32))), (10, .long q_51), (9, .int q_37), (0, .ref (zo w + a)), (1, .long x1), (3, .long x3), (5, .long x5), (8, .int x8)] dX9_rateOf_103 rfl zk_iconst_1 rfl rfl rfl ?_
            refine z_goto C 211 dX9_rateOf_106 rfl ?_
            refine z_iinc (pc' := 214) C 7 [(8, .int (x8 + (2 : Int32))), (7, .int (x7 + (1 : Int32))), (10, .long q_51), (9, .int q_37), (0, .ref (zo w + a)), (1, .long x1), (3, .long x3), (5, .long x5)] dX9_rateOf_211 rfl zk_iconst_2 rfl rfl rfl ?_
            refine z_goto C 18 dX9_rateOf_214 rfl ?_
            refine z_pick (lv' := [(0, .ref (zo w + a)), (1, .long x1), (3, .long x3), (5, .long x5), (7, .int (x7 + (1 : Int32))), (8, .int (x8 + (2 : Int32)))]) [4, 5, 6, 7, 1, 0] rfl ?_
            exact ih hf
        · refine z_lload (pc' := 75) C 0 dX9_rateOf_73 rfl rfl ?_
          refine z_goto C 102 dX9_rateOf_75 rfl ?_
          refine z_last (pc' := 103) C hf (zc_i (o := 5) n_a5 rfl) (h' := fun v_102 => (zu h a [(5, .inl (w.2.2.1 1, 128, .inr (.inl v_102)))])) (fun _ => zu_put (o := 5) rfl) dX9_rateOf_102 rfl (fun v_102 hf => ?_)
          refine z_iinc (pc' := 106) C 6 [(7, .int (x7 + (1 : Int32))), (10, .long q_51), (9, .int q_37), (0, .ref (zo w + a)), (1, .long x1), (3, .long x3), (5, .long x5), (8, .int x8)] dX9_rateOf_103 rfl zk_iconst_1 rfl rfl rfl ?_
          refine z_goto C 211 dX9_rateOf_106 rfl ?_
          refine z_iinc (pc' := 214) C 7 [(8, .int (x8 + (2 : Int32))), (7, .int (x7 + (1 : Int32))), (10, .long q_51), (9, .int q_37), (0, .ref (zo w + a)), (1, .long x1), (3, .long x3), (5, .long x5)] dX9_rateOf_211 rfl zk_iconst_2 rfl rfl rfl ?_
          refine z_goto C 18 dX9_rateOf_214 rfl ?_
          refine z_pick (lv' := [(0, .ref (zo w + a)), (1, .long x1), (3, .long x3), (5, .long x5), (7, .int (x7 + (1 : Int32))), (8, .int (x8 + (2 : Int32)))]) [4, 5, 6, 7, 1, 0] rfl ?_
          exact ih hf
set_option maxRecDepth 20000 in
theorem c_X9_rateOf {w : zV} {N : Nat} {h : zH} {a : Nat} {m_thrown : Int32} {m_next : Int32} {m_error : Int32} {m_place : Int32} {m_began : Int32} {m_nested : Int32} {m_once : Int32} {m_now : Int32} {m_undoable : Int32} {m_bytes : Int32} {m_errorAt : Int32} {m_size : Int32} {m_rows : Nat → Int64} {m_pile : Nat → Int64} {p1 : Int64} {p3 : Int64} {p5 : Int64} (h_a0 : zc N h (a + 0) (.inr (9, [.int m_thrown, .ref (zo w + (a + 1)), .ref (zo w + (a + 2)), .ref (zo w + (a + 3)), .int m_now, .int m_undoable, .ref (zo w + (a + 4)), .int m_bytes, .int m_errorAt, .int m_size, .int m_next, .int m_error, .int m_place, .int m_began, .int m_nested, .int m_once, .ref (zo w + (a + 5))]))) (h_a1 : zc N h (a + 1) (.inl (w.2.2.1 1, 22500, .inr (.inl m_rows)))) (h_a5 : zc N h (a + 5) (.inl (w.2.2.1 1, 128, .inr (.inl m_pile)))) {r : Int64 × (Nat → Int64)} (hf : f_X9_rateOf m_now m_rows m_pile p1 p3 p5 = some r) : zM w yX9_rateOf cX9_rateOf 16 (some .long) (zr 2 58) false N N h [.ref (zo w + a), .long p1, .long p3, .long p5] (some (.long r.1)) (zu h a [(5, .inl (w.2.2.1 1, 128, .inr (.inl r.2)))]) := by
  unfold f_X9_rateOf at hf
  refine zM_of (by decide) rfl (fun X C _ => ?_)
  refine z_eq (h' := (zu h a [(5, .inl (w.2.2.1 1, 128, .inr (.inl m_pile)))])) (zu_s h_a5 zu_0).symm ?_
  have n_a5 := h_a5.1
  refine z_pick (lv' := [(0, .ref (zo w + a)), (1, .long p1), (3, .long p3), (5, .long p5)]) [0, 1, 2, 3] rfl ?_
  refine z_aload_n (pc' := 1) C 0 dX9_rateOf_0 rfl rfl rfl ?_
  refine z_iconst (pc' := 2) C dX9_rateOf_1 zk_iconst_3 rfl ?_
  refine z_cV (pc' := 5) C hf (As := [.int (3 : Int32)]) (fun hq => c_X9_get (a := a) (zc_o (o := 0) h_a0 rfl) (zc_o (o := 1) h_a1 rfl) hq) (fun _ => (zu h a [(5, .inl (w.2.2.1 1, 128, .inr (.inl m_pile)))])) (fun q_2 => [.long q_2]) (fun _ => rfl) (fun _ => rfl) zy_X9_get zw_1349 zw_1351 zv_43 (ci := 9) rfl (zc_o (o := 0) h_a0 rfl) ⟨rfl, rfl⟩ rfl rfl rfl rfl rfl dX9_rateOf_2 rfl (fun q_2 hf => ?_)
  refine z_lconst (pc' := 6) C dX9_rateOf_5 zl_0 rfl ?_
  refine z_lcmp_ne (pc' := 10) C 12 hf dX9_rateOf_6 rfl dX9_rateOf_7 rfl rfl (fun g_6 hf => ?_) (fun g_6 hf => ?_)
  · refine z_iconst (pc' := 13) C dX9_rateOf_12 zk_iconst_0 rfl ?_
    refine z_istore (pc' := 15) C [(7, .int (0 : Int32)), (0, .ref (zo w + a)), (1, .long p1), (3, .long p3), (5, .long p5)] dX9_rateOf_13 rfl rfl rfl ?_
    refine z_iconst (pc' := 16) C dX9_rateOf_15 zk_iconst_0 rfl ?_
    refine z_istore (pc' := 18) C [(8, .int (0 : Int32)), (7, .int (0 : Int32)), (0, .ref (zo w + a)), (1, .long p1), (3, .long p3), (5, .long p5)] dX9_rateOf_16 rfl rfl rfl ?_
    refine z_pick (lv' := [(0, .ref (zo w + a)), (1, .long p1), (3, .long p3), (5, .long p5), (7, .int (0 : Int32)), (8, .int (0 : Int32))]) [2, 3, 4, 5, 1, 0] rfl ?_
    exact w_X9_rateOf_18 C h_a0 h_a1 n_a5  FU hf
  · refine z_lload_n (pc' := 11) C 1 dX9_rateOf_10 rfl rfl rfl ?_
    cases hf
    exact z_lret C rfl rfl dX9_rateOf_11
set_option maxRecDepth 20000 in
theorem c_X9_at {w : zV} {N : Nat} {h : zH} {a : Nat} {p1 : Int32} {r : Int32} (hf : f_X9_at p1 = some r) : zM w yX9_at cX9_at 2 (some .int) (zr 0 0) false N N h [.ref (zo w + a), .int p1] (some (.int r)) h := by
  unfold f_X9_at at hf
  refine zM_of (by decide) rfl (fun X C _ => ?_)
  refine z_pick (lv' := [(0, .ref (zo w + a)), (1, .int p1)]) [0, 1] rfl ?_
  refine z_bipush (pc' := 2) C dX9_at_0 zk_bipush_20 rfl ?_
  refine z_bipush (pc' := 4) C dX9_at_2 zk_bipush_26 rfl ?_
  refine z_iload_n (pc' := 5) C 1 dX9_at_4 rfl rfl rfl ?_
  refine z_imul (pc' := 6) C dX9_at_5 rfl ?_
  refine z_iadd (pc' := 7) C dX9_at_6 rfl ?_
  cases hf
  exact z_iret C rfl rfl dX9_at_7
set_option maxRecDepth 20000 in
theorem c_X9_itemAt {w : zV} {N : Nat} {h : zH} {a : Nat} {m_thrown : Int32} {m_next : Int32} {m_error : Int32} {m_place : Int32} {m_began : Int32} {m_nested : Int32} {m_once : Int32} {m_now : Int32} {m_undoable : Int32} {m_bytes : Int32} {m_errorAt : Int32} {m_size : Int32} {p1 : Int32} {p2 : Int32} (h_a0 : zc N h (a + 0) (.inr (9, [.int m_thrown, .ref (zo w + (a + 1)), .ref (zo w + (a + 2)), .ref (zo w + (a + 3)), .int m_now, .int m_undoable, .ref (zo w + (a + 4)), .int m_bytes, .int m_errorAt, .int m_size, .int m_next, .int m_error, .int m_place, .int m_began, .int m_nested, .int m_once, .ref (zo w + (a + 5))]))) {r : Int32} (hf : f_X9_itemAt p1 p2 = some r) : zM w yX9_itemAt cX9_itemAt 3 (some .int) (zr 1 29) false N N h [.ref (zo w + a), .int p1, .int p2] (some (.int r)) h := by
  unfold f_X9_itemAt at hf
  refine zM_of (by decide) rfl (fun X C _ => ?_)
  refine z_pick (lv' := [(0, .ref (zo w + a)), (1, .int p1), (2, .int p2)]) [0, 1, 2] rfl ?_
  refine z_aload_n (pc' := 1) C 0 dX9_itemAt_0 rfl rfl rfl ?_
  refine z_iload_n (pc' := 2) C 1 dX9_itemAt_1 rfl rfl rfl ?_
  refine z_cV (pc' := 5) C hf (As := [.int p1]) (fun hq => c_X9_at (a := a)  hq) (fun _ => h) (fun q_2 => [.int q_2]) (fun _ => rfl) (fun _ => rfl) zy_X9_at zw_1381 zw_1383 zv_47 (ci := 9) rfl h_a0 ⟨rfl, rfl⟩ rfl rfl rfl rfl rfl dX9_itemAt_2 rfl (fun q_2 hf => ?_)
  refine z_bipush (pc' := 7) C dX9_itemAt_5 zk_bipush_8 rfl ?_
  refine z_iadd (pc' := 8) C dX9_itemAt_7 rfl ?_
  refine z_iconst (pc' := 9) C dX9_itemAt_8 zk_iconst_3 rfl ?_
  refine z_iload_n (pc' := 10) C 2 dX9_itemAt_9 rfl rfl rfl ?_
  refine z_imul (pc' := 11) C dX9_itemAt_10 rfl ?_
  refine z_iadd (pc' := 12) C dX9_itemAt_11 rfl ?_
  cases hf
  exact z_iret C rfl rfl dX9_itemAt_12
set_option maxRecDepth 20000 in
theorem w_X9_quantityOf_14 {X : zC} {w : zV} {N : Nat} {h : zH} {a : Nat} {m_thrown : Int32} {m_next : Int32} {m_error : Int32} {m_place : Int32} {m_began : Int32} {m_nested : Int32} {m_once : Int32} {m_now : Int32} {m_undoable : Int32} {m_bytes : Int32} {m_errorAt : Int32} {m_size : Int32} {m_rows : Nat → Int64} (C : zK X w RX9 cX9_quantityOf 7 (some .long) (zr 2 59)) (h_a0 : zc N h (a + 0) (.inr (9, [.int m_thrown, .ref (zo w + (a + 1)), .ref (zo w + (a + 2)), .ref (zo w + (a + 3)), .int m_now, .int m_undoable, .ref (zo w + (a + 4)), .int m_bytes, .int m_errorAt, .int m_size, .int m_next, .int m_error, .int m_place, .int m_began, .int m_nested, .int m_once, .ref (zo w + (a + 5))]))) (h_a1 : zc N h (a + 1) (.inl (w.2.2.1 1, 22500, .inr (.inl m_rows)))) {r : Int64} (n : Nat) : ∀ {x1 : Int32} {x2 : Int32} {x3 : Int64} {x5 : Int32}, f_X9_quantityOf_14  n m_now m_rows x1 x2 x3 x5 = some r → zZ X w (zQ X w (zr 2 59) (some (.long r)) false N h) 0 0 false N h 14 [(0, .ref (zo w + a)), (1, .int x1), (2, .int x2), (3, .long x3), (5, .int x5)] [] := by
  induction n with
  | zero =>
    intro x1 x2 x3 x5 hf
    have hf : (none : Option (Int64)) = some r := hf
    cases hf
  | succ z ih =>
    intro x1 x2 x3 x5 hf
    rw [f_X9_quantityOf_14] at hf
    refine z_iload (pc' := 16) C 4 dX9_quantityOf_14 rfl rfl ?_
    refine z_i2l (pc' := 17) C dX9_quantityOf_16 rfl ?_
    refine z_aload_n (pc' := 18) C 0 dX9_quantityOf_17 rfl rfl rfl ?_
    refine z_iconst (pc' := 19) C dX9_quantityOf_18 zk_iconst_4 rfl ?_
    refine z_cV (pc' := 22) C hf (As := [.int (4 : Int32)]) (fun hq => c_X9_get (a := a) h_a0 h_a1 hq) (fun _ => h) (fun q_19 => [.long q_19, .long (x5).toInt64]) (fun _ => rfl) (fun _ => rfl) zy_X9_get zw_1349 zw_1351 zv_43 (ci := 9) rfl h_a0 ⟨rfl, rfl⟩ rfl rfl rfl rfl rfl dX9_quantityOf_19 rfl (fun q_19 hf => ?_)
    refine z_lcmp_ge (pc' := 26) C 92 hf dX9_quantityOf_22 rfl dX9_quantityOf_23 rfl rfl (fun g_22 hf => ?_) (fun g_22 hf => ?_)
    · refine z_lload_n (pc' := 93) C 3 dX9_quantityOf_92 rfl rfl rfl ?_
      cases hf
      exact z_lret C rfl rfl dX9_quantityOf_93
    · refine z_sipush (pc' := 29) C dX9_quantityOf_26 zk_sipush_230 rfl ?_
      refine z_iconst (pc' := 30) C dX9_quantityOf_29 zk_iconst_4 rfl ?_
      refine z_iload (pc' := 32) C 4 dX9_quantityOf_30 rfl rfl ?_
      refine z_imul (pc' := 33) C dX9_quantityOf_32 rfl ?_
      refine z_iadd (pc' := 34) C dX9_quantityOf_33 rfl ?_
      refine z_istore (pc' := 36) C [(6, .int ((230 : Int32) + ((4 : Int32) * x5))), (0, .ref (zo w + a)), (1, .int x1), (2, .int x2), (3, .long x3), (5, .int x5)] dX9_quantityOf_34 rfl rfl rfl ?_
      refine z_aload_n (pc' := 37) C 1 dX9_quantityOf_36 rfl rfl rfl ?_
      refine z_iload (pc' := 39) C 0 dX9_quantityOf_37 rfl rfl ?_
      refine z_cV (pc' := 42) C hf (As := [.int ((230 : Int32) + ((4 : Int32) * x5))]) (fun hq => c_X9_get (a := a) h_a0 h_a1 hq) (fun _ => h) (fun q_39 => [.long q_39]) (fun _ => rfl) (fun _ => rfl) zy_X9_get zw_1349 zw_1351 zv_43 (ci := 9) rfl h_a0 ⟨rfl, rfl⟩ rfl rfl rfl rfl rfl dX9_quantityOf_39 rfl (fun q_39 hf => ?_)
      refine z_iload_n (pc' := 43) C 2 dX9_quantityOf_42 rfl rfl rfl ?_
      refine z_i2l (pc' := 44) C dX9_quantityOf_43 rfl ?_
      refine z_lcmp_ne (pc' := 48) C 86 hf dX9_quantityOf_44 rfl dX9_quantityOf_45 rfl rfl (fun g_44 hf => ?_) (fun g_44 hf => ?_)
      · refine z_iinc (pc' := 89) C 5 [(5, .int (x5 + (1 : Int32))), (6, .int ((230 : Int32) + ((4 : Int32) * x5))), (0, .ref (zo w + a)), (1, .int x1), (2, .int x2), (3, .long x3)] dX9_quantityOf_86 rfl zk_iconst_1 rfl rfl rfl ?_
        refine z_goto C 14 dX9_quantityOf_89 rfl ?_
        refine z_pick (lv' := [(0, .ref (zo w + a)), (1, .int x1), (2, .int x2), (3, .long x3), (5, .int (x5 + (1 : Int32)))]) [2, 3, 4, 5, 0] rfl ?_
        exact ih hf
      · refine z_aload_n (pc' := 49) C 1 dX9_quantityOf_48 rfl rfl rfl ?_
        refine z_iload (pc' := 51) C 0 dX9_quantityOf_49 rfl rfl ?_
        refine z_iconst (pc' := 52) C dX9_quantityOf_51 zk_iconst_1 rfl ?_
        refine z_iadd (pc' := 53) C dX9_quantityOf_52 rfl ?_
        refine z_cV (pc' := 56) C hf (As := [.int (((230 : Int32) + ((4 : Int32) * x5)) + (1 : Int32))]) (fun hq => c_X9_get (a := a) h_a0 h_a1 hq) (fun _ => h) (fun q_53 => [.long q_53]) (fun _ => rfl) (fun _ => rfl) zy_X9_get zw_1349 zw_1351 zv_43 (ci := 9) rfl h_a0 ⟨rfl, rfl⟩ rfl rfl rfl rfl rfl dX9_quantityOf_53 rfl (fun q_53 hf => ?_)
        refine z_iload_n (pc' := 57) C 3 dX9_quantityOf_56 rfl rfl rfl ?_
        refine z_i2l (pc' := 58) C dX9_quantityOf_57 rfl ?_
        refine z_lcmp_ne (pc' := 62) C 86 hf dX9_quantityOf_58 rfl dX9_quantityOf_59 rfl rfl (fun g_58 hf => ?_) (fun g_58 hf => ?_)
        · refine z_iinc (pc' := 89) C 5 [(5, .int (x5 + (1 : Int32))), (6, .int ((230 : Int32) + ((4 : Int32) * x5))), (0, .ref (zo w + a)), (1, .int x1), (2, .int x2), (3, .long x3)] dX9_quantityOf_86 rfl zk_iconst_1 rfl rfl rfl ?_
          refine z_goto C 14 dX9_quantityOf_89 rfl ?_
          refine z_pick (lv' := [(0, .ref (zo w + a)), (1, .int x1), (2, .int x2), (3, .long x3), (5, .int (x5 + (1 : Int32)))]) [2, 3, 4, 5, 0] rfl ?_
          exact ih hf
        · refine z_aload_n (pc' := 63) C 1 dX9_quantityOf_62 rfl rfl rfl ?_
          refine z_iload (pc' := 65) C 0 dX9_quantityOf_63 rfl rfl ?_
          refine z_iconst (pc' := 66) C dX9_quantityOf_65 zk_iconst_3 rfl ?_
          refine z_iadd (pc' := 67) C dX9_quantityOf_66 rfl ?_
          refine z_cV (pc' := 70) C hf (As := [.int (((230 : Int32) + ((4 : Int32) * x5)) + (3 : Int32))]) (fun hq => c_X9_get (a := a) h_a0 h_a1 hq) (fun _ => h) (fun q_67 => [.long q_67]) (fun _ => rfl) (fun _ => rfl) zy_X9_get zw_1349 zw_1351 zv_43 (ci := 9) rfl h_a0 ⟨rfl, rfl⟩ rfl rfl rfl rfl rfl dX9_quantityOf_67 rfl (fun q_67 hf => ?_)
          refine z_lconst (pc' := 71) C dX9_quantityOf_70 zl_1 rfl ?_
          refine z_lcmp_ne (pc' := 75) C 86 hf dX9_quantityOf_71 rfl dX9_quantityOf_72 rfl rfl (fun g_71 hf => ?_) (fun g_71 hf => ?_)
          · refine z_iinc (pc' := 89) C 5 [(5, .int (x5 + (1 : Int32))), (6, .int ((230 : Int32) + ((4 : Int32) * x5))), (0, .ref (zo w + a)), (1, .int x1), (2, .int x2), (3, .long x3)] dX9_quantityOf_86 rfl zk_iconst_1 rfl rfl rfl ?_
            refine z_goto C 14 dX9_quantityOf_89 rfl ?_
            refine z_pick (lv' := [(0, .ref (zo w + a)), (1, .int x1), (2, .int x2), (3, .long x3), (5, .int (x5 + (1 : Int32)))]) [2, 3, 4, 5, 0] rfl ?_
            exact ih hf
          · refine z_lload_n (pc' := 76) C 4 dX9_quantityOf_75 rfl rfl rfl ?_
            refine z_aload_n (pc' := 77) C 1 dX9_quantityOf_76 rfl rfl rfl ?_
            refine z_iload (pc' := 79) C 0 dX9_quantityOf_77 rfl rfl ?_
            refine z_iconst (pc' := 80) C dX9_quantityOf_79 zk_iconst_2 rfl ?_
            refine z_iadd (pc' := 81) C dX9_quantityOf_80 rfl ?_
            refine z_cV (pc' := 84) C hf (As := [.int (((230 : Int32) + ((4 : Int32) * x5)) + (2 : Int32))]) (fun hq => c_X9_get (a := a) h_a0 h_a1 hq) (fun _ => h) (fun q_81 => [.long q_81, .long x3]) (fun _ => rfl) (fun _ => rfl) zy_X9_get zw_1349 zw_1351 zv_43 (ci := 9) rfl h_a0 ⟨rfl, rfl⟩ rfl rfl rfl rfl rfl dX9_quantityOf_81 rfl (fun q_81 hf => ?_)
            refine z_ladd (pc' := 85) C dX9_quantityOf_84 rfl ?_
            refine z_lstore_n (pc' := 86) C [(3, .long (x3 + q_81)), (6, .int ((230 : Int32) + ((4 : Int32) * x5))), (0, .ref (zo w + a)), (1, .int x1), (2, .int x2), (5, .int x5)] dX9_quantityOf_85 rfl rfl rfl rfl ?_
            refine z_iinc (pc' := 89) C 5 [(5, .int (x5 + (1 : Int32))), (3, .long (x3 + q_81)), (6, .int ((230 : Int32) + ((4 : Int32) * x5))), (0, .ref (zo w + a)), (1, .int x1), (2, .int x2)] dX9_quantityOf_86 rfl zk_iconst_1 rfl rfl rfl ?_
            refine z_goto C 14 dX9_quantityOf_89 rfl ?_
            refine z_pick (lv' := [(0, .ref (zo w + a)), (1, .int x1), (2, .int x2), (3, .long (x3 + q_81)), (5, .int (x5 + (1 : Int32)))]) [3, 4, 5, 1, 0] rfl ?_
            exact ih hf
set_option maxRecDepth 20000 in
theorem c_X9_quantityOf {w : zV} {N : Nat} {h : zH} {a : Nat} {m_thrown : Int32} {m_next : Int32} {m_error : Int32} {m_place : Int32} {m_began : Int32} {m_nested : Int32} {m_once : Int32} {m_now : Int32} {m_undoable : Int32} {m_bytes : Int32} {m_errorAt : Int32} {m_size : Int32} {m_rows : Nat → Int64} {p1 : Int32} {p2 : Int32} (h_a0 : zc N h (a + 0) (.inr (9, [.int m_thrown, .ref (zo w + (a + 1)), .ref (zo w + (a + 2)), .ref (zo w + (a + 3)), .int m_now, .int m_undoable, .ref (zo w + (a + 4)), .int m_bytes, .int m_errorAt, .int m_size, .int m_next, .int m_error, .int m_place, .int m_began, .int m_nested, .int m_once, .ref (zo w + (a + 5))]))) (h_a1 : zc N h (a + 1) (.inl (w.2.2.1 1, 22500, .inr (.inl m_rows)))) {r : Int64} (hf : f_X9_quantityOf m_now m_rows p1 p2 = some r) : zM w yX9_quantityOf cX9_quantityOf 7 (some .long) (zr 2 59) false N N h [.ref (zo w + a), .int p1, .int p2] (some (.long r)) h := by
  unfold f_X9_quantityOf at hf
  refine zM_of (by decide) rfl (fun X C _ => ?_)
  refine z_pick (lv' := [(0, .ref (zo w + a)), (1, .int p1), (2, .int p2)]) [0, 1, 2] rfl ?_
  refine z_aload_n (pc' := 1) C 0 dX9_quantityOf_0 rfl rfl rfl ?_
  refine z_aload_n (pc' := 2) C 0 dX9_quantityOf_1 rfl rfl rfl ?_
  refine z_iload_n (pc' := 3) C 1 dX9_quantityOf_2 rfl rfl rfl ?_
  refine z_iload_n (pc' := 4) C 2 dX9_quantityOf_3 rfl rfl rfl ?_
  refine z_cV (pc' := 7) C hf (As := [.int p1, .int p2]) (fun hq => c_X9_itemAt (a := a) h_a0 hq) (fun _ => h) (fun q_4 => [.int q_4, .ref (zo w + a)]) (fun _ => rfl) (fun _ => rfl) zy_X9_itemAt zw_1401 zw_1403 zv_50 (ci := 9) rfl h_a0 ⟨rfl, rfl⟩ rfl rfl rfl rfl rfl dX9_quantityOf_4 rfl (fun q_4 hf => ?_)
  refine z_cV (pc' := 10) C hf (As := [.int q_4]) (fun hq => c_X9_get (a := a) h_a0 h_a1 hq) (fun _ => h) (fun q_7 => [.long q_7]) (fun _ => rfl) (fun _ => rfl) zy_X9_get zw_1349 zw_1351 zv_43 (ci := 9) rfl h_a0 ⟨rfl, rfl⟩ rfl rfl rfl rfl rfl dX9_quantityOf_7 rfl (fun q_7 hf => ?_)
  refine z_lstore_n (pc' := 11) C [(3, .long q_7), (0, .ref (zo w + a)), (1, .int p1), (2, .int p2)] dX9_quantityOf_10 rfl rfl rfl rfl ?_
  refine z_iconst (pc' := 12) C dX9_quantityOf_11 zk_iconst_0 rfl ?_
  refine z_istore (pc' := 14) C [(5, .int (0 : Int32)), (3, .long q_7), (0, .ref (zo w + a)), (1, .int p1), (2, .int p2)] dX9_quantityOf_12 rfl rfl rfl ?_
  refine z_pick (lv' := [(0, .ref (zo w + a)), (1, .int p1), (2, .int p2), (3, .long q_7), (5, .int (0 : Int32))]) [2, 3, 4, 1, 0] rfl ?_
  exact w_X9_quantityOf_14 C h_a0 h_a1  FU hf
set_option maxRecDepth 20000 in
theorem c_X9_boundOf {w : zV} {N : Nat} {h : zH} {a : Nat} {m_thrown : Int32} {m_next : Int32} {m_error : Int32} {m_place : Int32} {m_began : Int32} {m_nested : Int32} {m_once : Int32} {m_now : Int32} {m_undoable : Int32} {m_bytes : Int32} {m_errorAt : Int32} {m_size : Int32} {m_rows : Nat → Int64} {p1 : Int32} {p2 : Int32} (h_a0 : zc N h (a + 0) (.inr (9, [.int m_thrown, .ref (zo w + (a + 1)), .ref (zo w + (a + 2)), .ref (zo w + (a + 3)), .int m_now, .int m_undoable, .ref (zo w + (a + 4)), .int m_bytes, .int m_errorAt, .int m_size, .int m_next, .int m_error, .int m_place, .int m_began, .int m_nested, .int m_once, .ref (zo w + (a + 5))]))) (h_a1 : zc N h (a + 1) (.inl (w.2.2.1 1, 22500, .inr (.inl m_rows)))) {r : Int64} (hf : f_X9_boundOf m_now m_rows p1 p2 = some r) : zM w yX9_boundOf cX9_boundOf 5 (some .long) (zr 2 59) false N N h [.ref (zo w + a), .int p1, .int p2] (some (.long r)) h := by
  unfold f_X9_boundOf at hf
  refine zM_of (by decide) rfl (fun X C _ => ?_)
  refine z_pick (lv' := [(0, .ref (zo w + a)), (1, .int p1), (2, .int p2)]) [0, 1, 2] rfl ?_
  refine z_aload_n (pc' := 1) C 0 dX9_boundOf_0 rfl rfl rfl ?_
  refine z_aload_n (pc' := 2) C 0 dX9_boundOf_1 rfl rfl rfl ?_
  refine z_iload_n (pc' := 3) C 1 dX9_boundOf_2 rfl rfl rfl ?_
  refine z_iload_n (pc' := 4) C 2 dX9_boundOf_3 rfl rfl rfl ?_
  refine z_cV (pc' := 7) C hf (As := [.int p1, .int p2]) (fun hq => c_X9_itemAt (a := a) h_a0 hq) (fun _ => h) (fun q_4 => [.int q_4, .ref (zo w + a)]) (fun _ => rfl) (fun _ => rfl) zy_X9_itemAt zw_1401 zw_1403 zv_50 (ci := 9) rfl h_a0 ⟨rfl, rfl⟩ rfl rfl rfl rfl rfl dX9_boundOf_4 rfl (fun q_4 hf => ?_)
  refine z_cV (pc' := 10) C hf (As := [.int q_4]) (fun hq => c_X9_get (a := a) h_a0 h_a1 hq) (fun _ => h) (fun q_7 => [.long q_7]) (fun _ => rfl) (fun _ => rfl) zy_X9_get zw_1349 zw_1351 zv_43 (ci := 9) rfl h_a0 ⟨rfl, rfl⟩ rfl rfl rfl rfl rfl dX9_boundOf_7 rfl (fun q_7 hf => ?_)
  refine z_lstore_n (pc' := 11) C [(3, .long q_7), (0, .ref (zo w + a)), (1, .int p1), (2, .int p2)] dX9_boundOf_10 rfl rfl rfl rfl ?_
  refine z_lload_n (pc' := 12) C 0 dX9_boundOf_11 rfl rfl rfl ?_
  refine z_lload_n (pc' := 13) C 0 dX9_boundOf_12 rfl rfl rfl ?_
  refine z_aload_n (pc' := 14) C 1 dX9_boundOf_13 rfl rfl rfl ?_
  refine z_iconst (pc' := 15) C dX9_boundOf_14 zk_iconst_2 rfl ?_
  refine z_cV (pc' := 18) C hf (As := [.int (2 : Int32)]) (fun hq => c_X9_get (a := a) h_a0 h_a1 hq) (fun _ => h) (fun q_15 => [.long q_15, .long q_7, .long q_7]) (fun _ => rfl) (fun _ => rfl) zy_X9_get zw_1349 zw_1351 zv_43 (ci := 9) rfl h_a0 ⟨rfl, rfl⟩ rfl rfl rfl rfl rfl dX9_boundOf_15 rfl (fun q_15 hf => ?_)
  refine z_lmul (pc' := 19) C dX9_boundOf_18 rfl ?_
  refine z_ldc2 (pc' := 22) C zw_1417 dX9_boundOf_19 rfl ?_
  refine z_ldiv (pc' := 23) C dX9_boundOf_22 (by decide) rfl ?_
  refine z_ladd (pc' := 24) C dX9_boundOf_23 rfl ?_
  cases hf
  exact z_lret C rfl rfl dX9_boundOf_24
set_option maxRecDepth 20000 in
theorem c_X9_rateBy {w : zV} {N : Nat} {h : zH} {a : Nat} {m_thrown : Int32} {m_next : Int32} {m_error : Int32} {m_place : Int32} {m_began : Int32} {m_nested : Int32} {m_once : Int32} {m_now : Int32} {m_undoable : Int32} {m_bytes : Int32} {m_errorAt : Int32} {m_size : Int32} {m_rows : Nat → Int64} {m_pile : Nat → Int64} {p1 : Int32} {p2 : Int32} {p3 : Int64} (h_a0 : zc N h (a + 0) (.inr (9, [.int m_thrown, .ref (zo w + (a + 1)), .ref (zo w + (a + 2)), .ref (zo w + (a + 3)), .int m_now, .int m_undoable, .ref (zo w + (a + 4)), .int m_bytes, .int m_errorAt, .int m_size, .int m_next, .int m_error, .int m_place, .int m_began, .int m_nested, .int m_once, .ref (zo w + (a + 5))]))) (h_a1 : zc N h (a + 1) (.inl (w.2.2.1 1, 22500, .inr (.inl m_rows)))) (h_a5 : zc N h (a + 5) (.inl (w.2.2.1 1, 128, .inr (.inl m_pile)))) {r : Int64 × (Nat → Int64)} (hf : f_X9_rateBy m_now m_rows m_pile p1 p2 p3 = some r) : zM w yX9_rateBy cX9_rateBy 5 (some .long) (zr 3 101) false N N h [.ref (zo w + a), .int p1, .int p2, .long p3] (some (.long r.1)) (zu h a [(5, .inl (w.2.2.1 1, 128, .inr (.inl r.2)))]) := by
  unfold f_X9_rateBy at hf
  refine zM_of (by decide) rfl (fun X C _ => ?_)
  refine z_eq (h' := (zu h a [(5, .inl (w.2.2.1 1, 128, .inr (.inl m_pile)))])) (zu_s h_a5 zu_0).symm ?_
  have n_a5 := h_a5.1
  refine z_pick (lv' := [(0, .ref (zo w + a)), (1, .int p1), (2, .int p2), (3, .long p3)]) [0, 1, 2, 3] rfl ?_
  refine z_aload_n (pc' := 1) C 0 dX9_rateBy_0 rfl rfl rfl ?_
  refine z_aload_n (pc' := 2) C 0 dX9_rateBy_1 rfl rfl rfl ?_
  refine z_aload_n (pc' := 3) C 0 dX9_rateBy_2 rfl rfl rfl ?_
  refine z_iload_n (pc' := 4) C 1 dX9_rateBy_3 rfl rfl rfl ?_
  refine z_iload_n (pc' := 5) C 2 dX9_rateBy_4 rfl rfl rfl ?_
  refine z_cV (pc' := 8) C hf (As := [.int p1, .int p2]) (fun hq => c_X9_itemAt (a := a) (zc_o (o := 0) h_a0 rfl) hq) (fun _ => (zu h a [(5, .inl (w.2.2.1 1, 128, .inr (.inl m_pile)))])) (fun q_5 => [.int q_5, .ref (zo w + a), .ref (zo w + a)]) (fun _ => rfl) (fun _ => rfl) zy_X9_itemAt zw_1401 zw_1403 zv_50 (ci := 9) rfl (zc_o (o := 0) h_a0 rfl) ⟨rfl, rfl⟩ rfl rfl rfl rfl rfl dX9_rateBy_5 rfl (fun q_5 hf => ?_)
  refine z_iconst (pc' := 9) C dX9_rateBy_8 zk_iconst_1 rfl ?_
  refine z_iadd (pc' := 10) C dX9_rateBy_9 rfl ?_
  refine z_cV (pc' := 13) C hf (As := [.int (q_5 + (1 : Int32))]) (fun hq => c_X9_get (a := a) (zc_o (o := 0) h_a0 rfl) (zc_o (o := 1) h_a1 rfl) hq) (fun _ => (zu h a [(5, .inl (w.2.2.1 1, 128, .inr (.inl m_pile)))])) (fun q_10 => [.long q_10, .ref (zo w + a)]) (fun _ => rfl) (fun _ => rfl) zy_X9_get zw_1349 zw_1351 zv_43 (ci := 9) rfl (zc_o (o := 0) h_a0 rfl) ⟨rfl, rfl⟩ rfl rfl rfl rfl rfl dX9_rateBy_10 rfl (fun q_10 hf => ?_)
  refine z_aload_n (pc' := 14) C 0 dX9_rateBy_13 rfl rfl rfl ?_
  refine z_aload_n (pc' := 15) C 0 dX9_rateBy_14 rfl rfl rfl ?_
  refine z_iload_n (pc' := 16) C 1 dX9_rateBy_15 rfl rfl rfl ?_
  refine z_iload_n (pc' := 17) C 2 dX9_rateBy_16 rfl rfl rfl ?_
  refine z_cV (pc' := 20) C hf (As := [.int p1, .int p2]) (fun hq => c_X9_itemAt (a := a) (zc_o (o := 0) h_a0 rfl) hq) (fun _ => (zu h a [(5, .inl (w.2.2.1 1, 128, .inr (.inl m_pile)))])) (fun q_17 => [.int q_17, .ref (zo w + a), .long q_10, .ref (zo w + a)]) (fun _ => rfl) (fun _ => rfl) zy_X9_itemAt zw_1401 zw_1403 zv_50 (ci := 9) rfl (zc_o (o := 0) h_a0 rfl) ⟨rfl, rfl⟩ rfl rfl rfl rfl rfl dX9_rateBy_17 rfl (fun q_17 hf => ?_)
  refine z_cV (pc' := 23) C hf (As := [.int q_17]) (fun hq => c_X9_get (a := a) (zc_o (o := 0) h_a0 rfl) (zc_o (o := 1) h_a1 rfl) hq) (fun _ => (zu h a [(5, .inl (w.2.2.1 1, 128, .inr (.inl m_pile)))])) (fun q_20 => [.long q_20, .long q_10, .ref (zo w + a)]) (fun _ => rfl) (fun _ => rfl) zy_X9_get zw_1349 zw_1351 zv_43 (ci := 9) rfl (zc_o (o := 0) h_a0 rfl) ⟨rfl, rfl⟩ rfl rfl rfl rfl rfl dX9_rateBy_20 rfl (fun q_20 hf => ?_)
  refine z_lconst (pc' := 24) C dX9_rateBy_23 zl_0 rfl ?_
  refine z_lload_n (pc' := 25) C 3 dX9_rateBy_24 rfl rfl rfl ?_
  refine z_aload_n (pc' := 26) C 0 dX9_rateBy_25 rfl rfl rfl ?_
  refine z_iload_n (pc' := 27) C 1 dX9_rateBy_26 rfl rfl rfl ?_
  refine z_iload_n (pc' := 28) C 2 dX9_rateBy_27 rfl rfl rfl ?_
  refine z_cV (pc' := 31) C hf (As := [.int p1, .int p2]) (fun hq => c_X9_boundOf (a := a) (zc_o (o := 0) h_a0 rfl) (zc_o (o := 1) h_a1 rfl) hq) (fun _ => (zu h a [(5, .inl (w.2.2.1 1, 128, .inr (.inl m_pile)))])) (fun q_28 => [.long q_28, .long p3, .long (0 : Int64), .long q_20, .long q_10, .ref (zo w + a)]) (fun _ => rfl) (fun _ => rfl) zy_X9_boundOf zw_1413 zw_1415 zv_52 (ci := 9) rfl (zc_o (o := 0) h_a0 rfl) ⟨rfl, rfl⟩ rfl rfl rfl rfl rfl dX9_rateBy_28 rfl (fun q_28 hf => ?_)
  refine z_lsub (pc' := 32) C dX9_rateBy_31 rfl ?_
  refine z_lmax (pc' := 35) C zw_1418 rfl rfl dX9_rateBy_32 rfl ?_
  refine z_cV (pc' := 38) C hf (As := [.long q_10, .long q_20, .long (if (p3 - q_28) < (0 : Int64) then (0 : Int64) else (p3 - q_28))]) (fun hq => c_X9_rateOf (a := a) (zc_o (o := 0) h_a0 rfl) (zc_o (o := 1) h_a1 rfl) (zc_i (o := 5) n_a5 rfl) hq) (fun q_35 => (zu h a [(5, .inl (w.2.2.1 1, 128, .inr (.inl q_35.2)))])) (fun q_35 => [.long q_35.1]) (fun _ => zu_sh (d := 0) rfl rfl) (fun _ => rfl) zy_X9_rateOf zw_1419 zw_1421 zv_53 (ci := 9) rfl (zc_o (o := 0) h_a0 rfl) ⟨rfl, rfl⟩ rfl rfl rfl rfl rfl dX9_rateBy_35 rfl (fun q_35 hf => ?_)
  cases hf
  exact z_lret C rfl rfl dX9_rateBy_38
set_option maxRecDepth 20000 in
theorem c_X9_fullBy {w : zV} {N : Nat} {h : zH} {a : Nat} {m_thrown : Int32} {m_next : Int32} {m_error : Int32} {m_place : Int32} {m_began : Int32} {m_nested : Int32} {m_once : Int32} {m_now : Int32} {m_undoable : Int32} {m_bytes : Int32} {m_errorAt : Int32} {m_size : Int32} {m_rows : Nat → Int64} {m_pile : Nat → Int64} {p1 : Int32} {p2 : Int32} {p3 : Int64} (h_a0 : zc N h (a + 0) (.inr (9, [.int m_thrown, .ref (zo w + (a + 1)), .ref (zo w + (a + 2)), .ref (zo w + (a + 3)), .int m_now, .int m_undoable, .ref (zo w + (a + 4)), .int m_bytes, .int m_errorAt, .int m_size, .int m_next, .int m_error, .int m_place, .int m_began, .int m_nested, .int m_once, .ref (zo w + (a + 5))]))) (h_a1 : zc N h (a + 1) (.inl (w.2.2.1 1, 22500, .inr (.inl m_rows)))) (h_a5 : zc N h (a + 5) (.inl (w.2.2.1 1, 128, .inr (.inl m_pile)))) {r : Int64 × (Nat → Int64)} (hf : f_X9_fullBy m_now m_rows m_pile p1 p2 p3 = some r) : zM w yX9_fullBy cX9_fullBy 7 (some .long) (zr 4 133) false N N h [.ref (zo w + a), .int p1, .int p2, .long p3] (some (.long r.1)) (zu h a [(5, .inl (w.2.2.1 1, 128, .inr (.inl r.2)))]) := by
  unfold f_X9_fullBy at hf
  refine zM_of (by decide) rfl (fun X C _ => ?_)
  refine z_eq (h' := (zu h a [(5, .inl (w.2.2.1 1, 128, .inr (.inl m_pile)))])) (zu_s h_a5 zu_0).symm ?_
  have n_a5 := h_a5.1
  refine z_pick (lv' := [(0, .ref (zo w + a)), (1, .int p1), (2, .int p2), (3, .long p3)]) [0, 1, 2, 3] rfl ?_
  refine z_lconst (pc' := 1) C dX9_fullBy_0 zl_0 rfl ?_
  refine z_lload_n (pc' := 2) C 3 dX9_fullBy_1 rfl rfl rfl ?_
  refine z_aload_n (pc' := 3) C 0 dX9_fullBy_2 rfl rfl rfl ?_
  refine z_iload_n (pc' := 4) C 1 dX9_fullBy_3 rfl rfl rfl ?_
  refine z_iload_n (pc' := 5) C 2 dX9_fullBy_4 rfl rfl rfl ?_
  refine z_cV (pc' := 8) C hf (As := [.int p1, .int p2]) (fun hq => c_X9_boundOf (a := a) (zc_o (o := 0) h_a0 rfl) (zc_o (o := 1) h_a1 rfl) hq) (fun _ => (zu h a [(5, .inl (w.2.2.1 1, 128, .inr (.inl m_pile)))])) (fun q_5 => [.long q_5, .long p3, .long (0 : Int64)]) (fun _ => rfl) (fun _ => rfl) zy_X9_boundOf zw_1413 zw_1415 zv_52 (ci := 9) rfl (zc_o (o := 0) h_a0 rfl) ⟨rfl, rfl⟩ rfl rfl rfl rfl rfl dX9_fullBy_5 rfl (fun q_5 hf => ?_)
  refine z_lsub (pc' := 9) C dX9_fullBy_8 rfl ?_
  refine z_lmax (pc' := 12) C zw_1418 rfl rfl dX9_fullBy_9 rfl ?_
  refine z_lstore (pc' := 14) C [(5, .long (if (p3 - q_5) < (0 : Int64) then (0 : Int64) else (p3 - q_5))), (0, .ref (zo w + a)), (1, .int p1), (2, .int p2), (3, .long p3)] dX9_fullBy_12 rfl rfl rfl ?_
  refine z_lload_n (pc' := 15) C 4 dX9_fullBy_14 rfl rfl rfl ?_
  refine z_lload (pc' := 17) C 0 dX9_fullBy_15 rfl rfl ?_
  refine z_lsub (pc' := 18) C dX9_fullBy_17 rfl ?_
  refine z_aload_n (pc' := 19) C 1 dX9_fullBy_18 rfl rfl rfl ?_
  refine z_aload_n (pc' := 20) C 1 dX9_fullBy_19 rfl rfl rfl ?_
  refine z_iload_n (pc' := 21) C 2 dX9_fullBy_20 rfl rfl rfl ?_
  refine z_iload_n (pc' := 22) C 3 dX9_fullBy_21 rfl rfl rfl ?_
  refine z_cV (pc' := 25) C hf (As := [.int p1, .int p2]) (fun hq => c_X9_itemAt (a := a) (zc_o (o := 0) h_a0 rfl) hq) (fun _ => (zu h a [(5, .inl (w.2.2.1 1, 128, .inr (.inl m_pile)))])) (fun q_22 => [.int q_22, .ref (zo w + a), .long (p3 - (if (p3 - q_5) < (0 : Int64) then (0 : Int64) else (p3 - q_5)))]) (fun _ => rfl) (fun _ => rfl) zy_X9_itemAt zw_1401 zw_1403 zv_50 (ci := 9) rfl (zc_o (o := 0) h_a0 rfl) ⟨rfl, rfl⟩ rfl rfl rfl rfl rfl dX9_fullBy_22 rfl (fun q_22 hf => ?_)
  refine z_iconst (pc' := 26) C dX9_fullBy_25 zk_iconst_1 rfl ?_
  refine z_iadd (pc' := 27) C dX9_fullBy_26 rfl ?_
  refine z_cV (pc' := 30) C hf (As := [.int (q_22 + (1 : Int32))]) (fun hq => c_X9_get (a := a) (zc_o (o := 0) h_a0 rfl) (zc_o (o := 1) h_a1 rfl) hq) (fun _ => (zu h a [(5, .inl (w.2.2.1 1, 128, .inr (.inl m_pile)))])) (fun q_27 => [.long q_27, .long (p3 - (if (p3 - q_5) < (0 : Int64) then (0 : Int64) else (p3 - q_5)))]) (fun _ => rfl) (fun _ => rfl) zy_X9_get zw_1349 zw_1351 zv_43 (ci := 9) rfl (zc_o (o := 0) h_a0 rfl) ⟨rfl, rfl⟩ rfl rfl rfl rfl rfl dX9_fullBy_27 rfl (fun q_27 hf => ?_)
  refine z_lmul (pc' := 31) C dX9_fullBy_30 rfl ?_
  refine z_lload (pc' := 33) C 0 dX9_fullBy_31 rfl rfl ?_
  refine z_aload_n (pc' := 34) C 1 dX9_fullBy_33 rfl rfl rfl ?_
  refine z_iload_n (pc' := 35) C 2 dX9_fullBy_34 rfl rfl rfl ?_
  refine z_iload_n (pc' := 36) C 3 dX9_fullBy_35 rfl rfl rfl ?_
  refine z_lload_n (pc' := 37) C 4 dX9_fullBy_36 rfl rfl rfl ?_
  refine z_cV (pc' := 40) C hf (As := [.int p1, .int p2, .long p3]) (fun hq => c_X9_rateBy (a := a) (zc_o (o := 0) h_a0 rfl) (zc_o (o := 1) h_a1 rfl) (zc_i (o := 5) n_a5 rfl) hq) (fun q_37 => (zu h a [(5, .inl (w.2.2.1 1, 128, .inr (.inl q_37.2)))])) (fun q_37 => [.long q_37.1, .long (if (p3 - q_5) < (0 : Int64) then (0 : Int64) else (p3 - q_5)), .long ((p3 - (if (p3 - q_5) < (0 : Int64) then (0 : Int64) else (p3 - q_5))) * q_27)]) (fun _ => zu_sh (d := 0) rfl rfl) (fun _ => rfl) zy_X9_rateBy zw_1409 zw_1411 zv_51 (ci := 9) rfl (zc_o (o := 0) h_a0 rfl) ⟨rfl, rfl⟩ rfl rfl rfl rfl rfl dX9_fullBy_37 rfl (fun q_37 hf => ?_)
  refine z_lmul (pc' := 41) C dX9_fullBy_40 rfl ?_
  refine z_ladd (pc' := 42) C dX9_fullBy_41 rfl ?_
  cases hf
  exact z_lret C rfl rfl dX9_fullBy_42
set_option maxRecDepth 20000 in
theorem c_X9_valueOf {w : zV} {N : Nat} {h : zH} {a : Nat} {m_thrown : Int32} {m_next : Int32} {m_error : Int32} {m_place : Int32} {m_began : Int32} {m_nested : Int32} {m_once : Int32} {m_now : Int32} {m_undoable : Int32} {m_bytes : Int32} {m_errorAt : Int32} {m_size : Int32} {m_rows : Nat → Int64} {m_pile : Nat → Int64} {p1 : Int32} {p2 : Int32} (h_a0 : zc N h (a + 0) (.inr (9, [.int m_thrown, .ref (zo w + (a + 1)), .ref (zo w + (a + 2)), .ref (zo w + (a + 3)), .int m_now, .int m_undoable, .ref (zo w + (a + 4)), .int m_bytes, .int m_errorAt, .int m_size, .int m_next, .int m_error, .int m_place, .int m_began, .int m_nested, .int m_once, .ref (zo w + (a + 5))]))) (h_a1 : zc N h (a + 1) (.inl (w.2.2.1 1, 22500, .inr (.inl m_rows)))) (h_a5 : zc N h (a + 5) (.inl (w.2.2.1 1, 128, .inr (.inl m_pile)))) {r : Int64 × (Nat → Int64)} (hf : f_X9_valueOf m_now m_rows m_pile p1 p2 = some r) : zM w yX9_valueOf cX9_valueOf 3 (some .long) (zr 5 167) false N N h [.ref (zo w + a), .int p1, .int p2] (some (.long r.1)) (zu h a [(5, .inl (w.2.2.1 1, 128, .inr (.inl r.2)))]) := by
  unfold f_X9_valueOf at hf
  refine zM_of (by decide) rfl (fun X C _ => ?_)
  refine z_eq (h' := (zu h a [(5, .inl (w.2.2.1 1, 128, .inr (.inl m_pile)))])) (zu_s h_a5 zu_0).symm ?_
  have n_a5 := h_a5.1
  refine z_pick (lv' := [(0, .ref (zo w + a)), (1, .int p1), (2, .int p2)]) [0, 1, 2] rfl ?_
  refine z_aload_n (pc' := 1) C 0 dX9_valueOf_0 rfl rfl rfl ?_
  refine z_iload_n (pc' := 2) C 1 dX9_valueOf_1 rfl rfl rfl ?_
  refine z_iload_n (pc' := 3) C 2 dX9_valueOf_2 rfl rfl rfl ?_
  refine z_aload_n (pc' := 4) C 0 dX9_valueOf_3 rfl rfl rfl ?_
  refine z_iload_n (pc' := 5) C 1 dX9_valueOf_4 rfl rfl rfl ?_
  refine z_iload_n (pc' := 6) C 2 dX9_valueOf_5 rfl rfl rfl ?_
  refine z_cV (pc' := 9) C hf (As := [.int p1, .int p2]) (fun hq => c_X9_quantityOf (a := a) (zc_o (o := 0) h_a0 rfl) (zc_o (o := 1) h_a1 rfl) hq) (fun _ => (zu h a [(5, .inl (w.2.2.1 1, 128, .inr (.inl m_pile)))])) (fun q_6 => [.long q_6, .int p2, .int p1, .ref (zo w + a)]) (fun _ => rfl) (fun _ => rfl) zy_X9_quantityOf zw_1397 zw_1399 zv_49 (ci := 9) rfl (zc_o (o := 0) h_a0 rfl) ⟨rfl, rfl⟩ rfl rfl rfl rfl rfl dX9_valueOf_6 rfl (fun q_6 hf => ?_)
  refine z_cV (pc' := 12) C hf (As := [.int p1, .int p2, .long q_6]) (fun hq => c_X9_fullBy (a := a) (zc_o (o := 0) h_a0 rfl) (zc_o (o := 1) h_a1 rfl) (zc_i (o := 5) n_a5 rfl) hq) (fun q_9 => (zu h a [(5, .inl (w.2.2.1 1, 128, .inr (.inl q_9.2)))])) (fun q_9 => [.long q_9.1]) (fun _ => zu_sh (d := 0) rfl rfl) (fun _ => rfl) zy_X9_fullBy zw_1437 zw_1439 zv_55 (ci := 9) rfl (zc_o (o := 0) h_a0 rfl) ⟨rfl, rfl⟩ rfl rfl rfl rfl rfl dX9_valueOf_9 rfl (fun q_9 hf => ?_)
  refine z_aload_n (pc' := 13) C 0 dX9_valueOf_12 rfl rfl rfl ?_
  refine z_aload_n (pc' := 14) C 0 dX9_valueOf_13 rfl rfl rfl ?_
  refine z_iload_n (pc' := 15) C 1 dX9_valueOf_14 rfl rfl rfl ?_
  refine z_iload_n (pc' := 16) C 2 dX9_valueOf_15 rfl rfl rfl ?_
  refine z_cV (pc' := 19) C hf (As := [.int p1, .int p2]) (fun hq => c_X9_itemAt (a := a) (zc_o (o := 0) h_a0 rfl) hq) (fun _ => (zu h a [(5, .inl (w.2.2.1 1, 128, .inr (.inl q_9.2)))])) (fun q_16 => [.int q_16, .ref (zo w + a), .long q_9.1]) (fun _ => rfl) (fun _ => rfl) zy_X9_itemAt zw_1401 zw_1403 zv_50 (ci := 9) rfl (zc_o (o := 0) h_a0 rfl) ⟨rfl, rfl⟩ rfl rfl rfl rfl rfl dX9_valueOf_16 rfl (fun q_16 hf => ?_)
  refine z_iconst (pc' := 20) C dX9_valueOf_19 zk_iconst_2 rfl ?_
  refine z_iadd (pc' := 21) C dX9_valueOf_20 rfl ?_
  refine z_cV (pc' := 24) C hf (As := [.int (q_16 + (2 : Int32))]) (fun hq => c_X9_get (a := a) (zc_o (o := 0) h_a0 rfl) (zc_o (o := 1) h_a1 rfl) hq) (fun _ => (zu h a [(5, .inl (w.2.2.1 1, 128, .inr (.inl q_9.2)))])) (fun q_21 => [.long q_21, .long q_9.1]) (fun _ => rfl) (fun _ => rfl) zy_X9_get zw_1349 zw_1351 zv_43 (ci := 9) rfl (zc_o (o := 0) h_a0 rfl) ⟨rfl, rfl⟩ rfl rfl rfl rfl rfl dX9_valueOf_21 rfl (fun q_21 hf => ?_)
  refine z_lmul (pc' := 25) C dX9_valueOf_24 rfl ?_
  refine z_ldc2 (pc' := 28) C zw_1417 dX9_valueOf_25 rfl ?_
  refine z_ldiv (pc' := 29) C dX9_valueOf_28 (by decide) rfl ?_
  cases hf
  exact z_lret C rfl rfl dX9_valueOf_29
set_option maxRecDepth 20000 in
theorem c_X9_isContract {w : zV} {N : Nat} {h : zH} {a : Nat} {m_thrown : Int32} {m_next : Int32} {m_error : Int32} {m_place : Int32} {m_began : Int32} {m_nested : Int32} {m_once : Int32} {m_now : Int32} {m_undoable : Int32} {m_bytes : Int32} {m_errorAt : Int32} {m_size : Int32} {m_rows : Nat → Int64} {p1 : Int32} (h_a0 : zc N h (a + 0) (.inr (9, [.int m_thrown, .ref (zo w + (a + 1)), .ref (zo w + (a + 2)), .ref (zo w + (a + 3)), .int m_now, .int m_undoable, .ref (zo w + (a + 4)), .int m_bytes, .int m_errorAt, .int m_size, .int m_next, .int m_error, .int m_place, .int m_began, .int m_nested, .int m_once, .ref (zo w + (a + 5))]))) (h_a1 : zc N h (a + 1) (.inl (w.2.2.1 1, 22500, .inr (.inl m_rows)))) {r : Int32 × Int32} (hf : f_X9_isContract m_thrown m_now m_rows p1 = some r) : zM w yX9_isContract cX9_isContract 2 (some .boolean) (zr 1 33) false N N h [.ref (zo w + a), .int p1] (some (.int r.1)) (zu h a [(0, .inr (9, [.int r.2, .ref (zo w + (a + 1)), .ref (zo w + (a + 2)), .ref (zo w + (a + 3)), .int m_now, .int m_undoable, .ref (zo w + (a + 4)), .int m_bytes, .int m_errorAt, .int m_size, .int m_next, .int m_error, .int m_place, .int m_began, .int m_nested, .int m_once, .ref (zo w + (a + 5))]))]) := by
  unfold f_X9_isContract at hf
  refine zM_of (by decide) rfl (fun X C _ => ?_)
  refine z_eq (h' := (zu h a [(0, .inr (9, [.int m_thrown, .ref (zo w + (a + 1)), .ref (zo w + (a + 2)), .ref (zo w + (a + 3)), .int m_now, .int m_undoable, .ref (zo w + (a + 4)), .int m_bytes, .int m_errorAt, .int m_size, .int m_next, .int m_error, .int m_place, .int m_began, .int m_nested, .int m_once, .ref (zo w + (a + 5))]))])) (zu_s h_a0 zu_0).symm ?_
  have n_a0 := h_a0.1
  refine z_pick (lv' := [(0, .ref (zo w + a)), (1, .int p1)]) [0, 1] rfl ?_
  refine z_aload_n (pc' := 1) C 0 dX9_isContract_0 rfl rfl rfl ?_
  refine z_iconst (pc' := 2) C dX9_isContract_1 zk_iconst_0 rfl ?_
  refine z_putf (pc' := 5) C zci_9 zw_1184 (j := 0) rfl (zc_i (o := 0) n_a0 rfl) (fs' := [.int (0 : Int32), .ref (zo w + (a + 1)), .ref (zo w + (a + 2)), .ref (zo w + (a + 3)), .int m_now, .int m_undoable, .ref (zo w + (a + 4)), .int m_bytes, .int m_errorAt, .int m_size, .int m_next, .int m_error, .int m_place, .int m_began, .int m_nested, .int m_once, .ref (zo w + (a + 5))]) rfl rfl rfl rfl rfl (zu_put (o := 0) (L' := [(0, .inr (9, [.int (0 : Int32), .ref (zo w + (a + 1)), .ref (zo w + (a + 2)), .ref (zo w + (a + 3)), .int m_now, .int m_undoable, .ref (zo w + (a + 4)), .int m_bytes, .int m_errorAt, .int m_size, .int m_next, .int m_error, .int m_place, .int m_began, .int m_nested, .int m_once, .ref (zo w + (a + 5))]))]) rfl) dX9_isContract_2 rfl ?_
  refine z_aload_n (pc' := 6) C 0 dX9_isContract_5 rfl rfl rfl ?_
  refine z_iload_n (pc' := 7) C 1 dX9_isContract_6 rfl rfl rfl ?_
  refine z_i2l (pc' := 8) C dX9_isContract_7 rfl ?_
  refine z_lconst (pc' := 9) C dX9_isContract_8 zl_0 rfl ?_
  refine z_aload_n (pc' := 10) C 0 dX9_isContract_9 rfl rfl rfl ?_
  refine z_iconst (pc' := 11) C dX9_isContract_10 zk_iconst_0 rfl ?_
  refine z_cV (pc' := 14) C hf (As := [.int (0 : Int32)]) (fun hq => c_X9_get (a := a) (zc_i (o := 0) n_a0 rfl) (zc_o (o := 1) h_a1 rfl) hq) (fun _ => (zu h a [(0, .inr (9, [.int (0 : Int32), .ref (zo w + (a + 1)), .ref (zo w + (a + 2)), .ref (zo w + (a + 3)), .int m_now, .int m_undoable, .ref (zo w + (a + 4)), .int m_bytes, .int m_errorAt, .int m_size, .int m_next, .int m_error, .int m_place, .int m_began, .int m_nested, .int m_once, .ref (zo w + (a + 5))]))])) (fun q_11 => [.long q_11, .long (0 : Int64), .long (p1).toInt64, .ref (zo w + a)]) (fun _ => rfl) (fun _ => rfl) zy_X9_get zw_1349 zw_1351 zv_43 (ci := 9) rfl (zc_i (o := 0) n_a0 rfl) ⟨rfl, rfl⟩ rfl rfl rfl rfl rfl dX9_isContract_11 rfl (fun q_11 hf => ?_)
  refine z_lconst (pc' := 15) C dX9_isContract_14 zl_1 rfl ?_
  refine z_lsub (pc' := 16) C dX9_isContract_15 rfl ?_
  refine z_cS (pc' := 19) C hf (As := [.long (p1).toInt64, .long (0 : Int64), .long (q_11 - (1 : Int64))]) (fun hq => c_X9_isIn  hq) (fun _ => (zu h a [(0, .inr (9, [.int (0 : Int32), .ref (zo w + (a + 1)), .ref (zo w + (a + 2)), .ref (zo w + (a + 3)), .int m_now, .int m_undoable, .ref (zo w + (a + 4)), .int m_bytes, .int m_errorAt, .int m_size, .int m_next, .int m_error, .int m_place, .int m_began, .int m_nested, .int m_once, .ref (zo w + (a + 5))]))])) (fun q_16 => [.int q_16, .ref (zo w + a)]) (fun _ => rfl) (fun _ => rfl) zy_X9_isIn zw_1248 zw_1249 ⟨rfl, rfl⟩ rfl rfl rfl rfl rfl dX9_isContract_16 rfl (fun q_16 hf => ?_)
  refine z_iconst (pc' := 20) C dX9_isContract_19 zk_iconst_1 rfl ?_
  refine z_cV (pc' := 23) C hf (As := [.int q_16, .int (1 : Int32)]) (fun hq => c_X9_right (a := a) (zc_i (o := 0) n_a0 rfl) hq) (fun q_20 => (zu h a [(0, .inr (9, [.int q_20.2, .ref (zo w + (a + 1)), .ref (zo w + (a + 2)), .ref (zo w + (a + 3)), .int m_now, .int m_undoable, .ref (zo w + (a + 4)), .int m_bytes, .int m_errorAt, .int m_size, .int m_next, .int m_error, .int m_place, .int m_began, .int m_nested, .int m_once, .ref (zo w + (a + 5))]))])) (fun q_20 => [.int q_20.1]) (fun _ => zu_sh (d := 0) rfl rfl) (fun _ => rfl) zy_X9_right zw_1251 zw_1253 zv_23 (ci := 9) rfl (zc_i (o := 0) n_a0 rfl) ⟨rfl, rfl⟩ rfl rfl rfl rfl rfl dX9_isContract_20 rfl (fun q_20 hf => ?_)
  obtain ⟨g_23, hf⟩ := zG1_s hf
  cases hf
  exact z_zret C g_23 rfl rfl dX9_isContract_23
set_option maxRecDepth 20000 in
theorem c_X9_isItem {w : zV} {N : Nat} {h : zH} {a : Nat} {m_thrown : Int32} {m_next : Int32} {m_error : Int32} {m_place : Int32} {m_began : Int32} {m_nested : Int32} {m_once : Int32} {m_now : Int32} {m_undoable : Int32} {m_bytes : Int32} {m_errorAt : Int32} {m_size : Int32} {m_rows : Nat → Int64} {p1 : Int32} {p2 : Int32} (h_a0 : zc N h (a + 0) (.inr (9, [.int m_thrown, .ref (zo w + (a + 1)), .ref (zo w + (a + 2)), .ref (zo w + (a + 3)), .int m_now, .int m_undoable, .ref (zo w + (a + 4)), .int m_bytes, .int m_errorAt, .int m_size, .int m_next, .int m_error, .int m_place, .int m_began, .int m_nested, .int m_once, .ref (zo w + (a + 5))]))) (h_a1 : zc N h (a + 1) (.inl (w.2.2.1 1, 22500, .inr (.inl m_rows)))) {r : Int32 × Int32} (hf : f_X9_isItem m_thrown m_now m_rows p1 p2 = some r) : zM w yX9_isItem cX9_isItem 3 (some .boolean) (zr 2 62) false N N h [.ref (zo w + a), .int p1, .int p2] (some (.int r.1)) (zu h a [(0, .inr (9, [.int r.2, .ref (zo w + (a + 1)), .ref (zo w + (a + 2)), .ref (zo w + (a + 3)), .int m_now, .int m_undoable, .ref (zo w + (a + 4)), .int m_bytes, .int m_errorAt, .int m_size, .int m_next, .int m_error, .int m_place, .int m_began, .int m_nested, .int m_once, .ref (zo w + (a + 5))]))]) := by
  unfold f_X9_isItem at hf
  refine zM_of (by decide) rfl (fun X C _ => ?_)
  refine z_eq (h' := (zu h a [(0, .inr (9, [.int m_thrown, .ref (zo w + (a + 1)), .ref (zo w + (a + 2)), .ref (zo w + (a + 3)), .int m_now, .int m_undoable, .ref (zo w + (a + 4)), .int m_bytes, .int m_errorAt, .int m_size, .int m_next, .int m_error, .int m_place, .int m_began, .int m_nested, .int m_once, .ref (zo w + (a + 5))]))])) (zu_s h_a0 zu_0).symm ?_
  have n_a0 := h_a0.1
  refine z_pick (lv' := [(0, .ref (zo w + a)), (1, .int p1), (2, .int p2)]) [0, 1, 2] rfl ?_
  refine z_aload_n (pc' := 1) C 0 dX9_isItem_0 rfl rfl rfl ?_
  refine z_iload_n (pc' := 2) C 1 dX9_isItem_1 rfl rfl rfl ?_
  refine z_cV (pc' := 5) C hf (As := [.int p1]) (fun hq => c_X9_isContract (a := a) (zc_i (o := 0) n_a0 rfl) (zc_o (o := 1) h_a1 rfl) hq) (fun q_2 => (zu h a [(0, .inr (9, [.int q_2.2, .ref (zo w + (a + 1)), .ref (zo w + (a + 2)), .ref (zo w + (a + 3)), .int m_now, .int m_undoable, .ref (zo w + (a + 4)), .int m_bytes, .int m_errorAt, .int m_size, .int m_next, .int m_error, .int m_place, .int m_began, .int m_nested, .int m_once, .ref (zo w + (a + 5))]))])) (fun q_2 => [.int q_2.1]) (fun _ => zu_sh (d := 0) rfl rfl) (fun _ => rfl) zy_X9_isContract zw_1377 zw_1379 zv_46 (ci := 9) rfl (zc_i (o := 0) n_a0 rfl) ⟨rfl, rfl⟩ rfl rfl rfl rfl rfl dX9_isItem_2 rfl (fun q_2 hf => ?_)
  refine z_if_eq (pc' := 8) C 40 hf dX9_isItem_5 rfl rfl (fun g_5 hf => ?_) (fun g_5 hf => ?_)
  · refine z_iconst (pc' := 41) C dX9_isItem_40 zk_iconst_0 rfl ?_
    cases hf
    exact z_zret C zb_0 rfl rfl dX9_isItem_41
  · refine z_aload_n (pc' := 9) C 0 dX9_isItem_8 rfl rfl rfl ?_
    refine z_iload_n (pc' := 10) C 2 dX9_isItem_9 rfl rfl rfl ?_
    refine z_i2l (pc' := 11) C dX9_isItem_10 rfl ?_
    refine z_lconst (pc' := 12) C dX9_isItem_11 zl_0 rfl ?_
    refine z_aload_n (pc' := 13) C 0 dX9_isItem_12 rfl rfl rfl ?_
    refine z_aload_n (pc' := 14) C 0 dX9_isItem_13 rfl rfl rfl ?_
    refine z_iload_n (pc' := 15) C 1 dX9_isItem_14 rfl rfl rfl ?_
    refine z_cV (pc' := 18) C hf (As := [.int p1]) (fun hq => c_X9_at (a := a)  hq) (fun _ => (zu h a [(0, .inr (9, [.int q_2.2, .ref (zo w + (a + 1)), .ref (zo w + (a + 2)), .ref (zo w + (a + 3)), .int m_now, .int m_undoable, .ref (zo w + (a + 4)), .int m_bytes, .int m_errorAt, .int m_size, .int m_next, .int m_error, .int m_place, .int m_began, .int m_nested, .int m_once, .ref (zo w + (a + 5))]))])) (fun q_15 => [.int q_15, .ref (zo w + a), .long (0 : Int64), .long (p2).toInt64, .ref (zo w + a)]) (fun _ => rfl) (fun _ => rfl) zy_X9_at zw_1381 zw_1383 zv_47 (ci := 9) rfl (zc_i (o := 0) n_a0 rfl) ⟨rfl, rfl⟩ rfl rfl rfl rfl rfl dX9_isItem_15 rfl (fun q_15 hf => ?_)
    refine z_bipush (pc' := 20) C dX9_isItem_18 zk_bipush_7 rfl ?_
    refine z_iadd (pc' := 21) C dX9_isItem_20 rfl ?_
    refine z_cV (pc' := 24) C hf (As := [.int (q_15 + (7 : Int32))]) (fun hq => c_X9_get (a := a) (zc_i (o := 0) n_a0 rfl) (zc_o (o := 1) h_a1 rfl) hq) (fun _ => (zu h a [(0, .inr (9, [.int q_2.2, .ref (zo w + (a + 1)), .ref (zo w + (a + 2)), .ref (zo w + (a + 3)), .int m_now, .int m_undoable, .ref (zo w + (a + 4)), .int m_bytes, .int m_errorAt, .int m_size, .int m_next, .int m_error, .int m_place, .int m_began, .int m_nested, .int m_once, .ref (zo w + (a + 5))]))])) (fun q_21 => [.long q_21, .long (0 : Int64), .long (p2).toInt64, .ref (zo w + a)]) (fun _ => rfl) (fun _ => rfl) zy_X9_get zw_1349 zw_1351 zv_43 (ci := 9) rfl (zc_i (o := 0) n_a0 rfl) ⟨rfl, rfl⟩ rfl rfl rfl rfl rfl dX9_isItem_21 rfl (fun q_21 hf => ?_)
    refine z_lconst (pc' := 25) C dX9_isItem_24 zl_1 rfl ?_
    refine z_lsub (pc' := 26) C dX9_isItem_25 rfl ?_
    refine z_cS (pc' := 29) C hf (As := [.long (p2).toInt64, .long (0 : Int64), .long (q_21 - (1 : Int64))]) (fun hq => c_X9_isIn  hq) (fun _ => (zu h a [(0, .inr (9, [.int q_2.2, .ref (zo w + (a + 1)), .ref (zo w + (a + 2)), .ref (zo w + (a + 3)), .int m_now, .int m_undoable, .ref (zo w + (a + 4)), .int m_bytes, .int m_errorAt, .int m_size, .int m_next, .int m_error, .int m_place, .int m_began, .int m_nested, .int m_once, .ref (zo w + (a + 5))]))])) (fun q_26 => [.int q_26, .ref (zo w + a)]) (fun _ => rfl) (fun _ => rfl) zy_X9_isIn zw_1248 zw_1249 ⟨rfl, rfl⟩ rfl rfl rfl rfl rfl dX9_isItem_26 rfl (fun q_26 hf => ?_)
    refine z_iconst (pc' := 30) C dX9_isItem_29 zk_iconst_1 rfl ?_
    refine z_cV (pc' := 33) C hf (As := [.int q_26, .int (1 : Int32)]) (fun hq => c_X9_right (a := a) (zc_i (o := 0) n_a0 rfl) hq) (fun q_30 => (zu h a [(0, .inr (9, [.int q_30.2, .ref (zo w + (a + 1)), .ref (zo w + (a + 2)), .ref (zo w + (a + 3)), .int m_now, .int m_undoable, .ref (zo w + (a + 4)), .int m_bytes, .int m_errorAt, .int m_size, .int m_next, .int m_error, .int m_place, .int m_began, .int m_nested, .int m_once, .ref (zo w + (a + 5))]))])) (fun q_30 => [.int q_30.1]) (fun _ => zu_sh (d := 0) rfl rfl) (fun _ => rfl) zy_X9_right zw_1251 zw_1253 zv_23 (ci := 9) rfl (zc_i (o := 0) n_a0 rfl) ⟨rfl, rfl⟩ rfl rfl rfl rfl rfl dX9_isItem_30 rfl (fun q_30 hf => ?_)
    refine z_if_eq (pc' := 36) C 40 hf dX9_isItem_33 rfl rfl (fun g_33 hf => ?_) (fun g_33 hf => ?_)
    · refine z_iconst (pc' := 41) C dX9_isItem_40 zk_iconst_0 rfl ?_
      cases hf
      exact z_zret C zb_0 rfl rfl dX9_isItem_41
    · refine z_iconst (pc' := 37) C dX9_isItem_36 zk_iconst_1 rfl ?_
      refine z_goto C 41 dX9_isItem_37 rfl ?_
      cases hf
      exact z_zret C zb_1 rfl rfl dX9_isItem_41
set_option maxRecDepth 20000 in
theorem c_X9_day {w : zV} {N : Nat} {h : zH} {a : Nat} {m_thrown : Int32} {m_next : Int32} {m_error : Int32} {m_place : Int32} {m_began : Int32} {m_nested : Int32} {m_once : Int32} {m_now : Int32} {m_undoable : Int32} {m_bytes : Int32} {m_errorAt : Int32} {m_size : Int32} {m_rows : Nat → Int64} (h_a0 : zc N h (a + 0) (.inr (9, [.int m_thrown, .ref (zo w + (a + 1)), .ref (zo w + (a + 2)), .ref (zo w + (a + 3)), .int m_now, .int m_undoable, .ref (zo w + (a + 4)), .int m_bytes, .int m_errorAt, .int m_size, .int m_next, .int m_error, .int m_place, .int m_began, .int m_nested, .int m_once, .ref (zo w + (a + 5))]))) (h_a1 : zc N h (a + 1) (.inl (w.2.2.1 1, 22500, .inr (.inl m_rows)))) {r : Int32 × Int32} (hf : f_X9_day m_thrown m_now m_rows = some r) : zM w yX9_day cX9_day 1 (some .int) (zr 2 58) false N N h [.ref (zo w + a)] (some (.int r.1)) (zu h a [(0, .inr (9, [.int r.2, .ref (zo w + (a + 1)), .ref (zo w + (a + 2)), .ref (zo w + (a + 3)), .int m_now, .int m_undoable, .ref (zo w + (a + 4)), .int m_bytes, .int m_errorAt, .int m_size, .int m_next, .int m_error, .int m_place, .int m_began, .int m_nested, .int m_once, .ref (zo w + (a + 5))]))]) := by
  unfold f_X9_day at hf
  refine zM_of (by decide) rfl (fun X C _ => ?_)
  refine z_eq (h' := (zu h a [(0, .inr (9, [.int m_thrown, .ref (zo w + (a + 1)), .ref (zo w + (a + 2)), .ref (zo w + (a + 3)), .int m_now, .int m_undoable, .ref (zo w + (a + 4)), .int m_bytes, .int m_errorAt, .int m_size, .int m_next, .int m_error, .int m_place, .int m_began, .int m_nested, .int m_once, .ref (zo w + (a + 5))]))])) (zu_s h_a0 zu_0).symm ?_
  have n_a0 := h_a0.1
  refine z_pick (lv' := [(0, .ref (zo w + a))]) [0] rfl ?_
  refine z_aload_n (pc' := 1) C 0 dX9_day_0 rfl rfl rfl ?_
  refine z_iconst (pc' := 2) C dX9_day_1 zk_iconst_0 rfl ?_
  refine z_putf (pc' := 5) C zci_9 zw_1184 (j := 0) rfl (zc_i (o := 0) n_a0 rfl) (fs' := [.int (0 : Int32), .ref (zo w + (a + 1)), .ref (zo w + (a + 2)), .ref (zo w + (a + 3)), .int m_now, .int m_undoable, .ref (zo w + (a + 4)), .int m_bytes, .int m_errorAt, .int m_size, .int m_next, .int m_error, .int m_place, .int m_began, .int m_nested, .int m_once, .ref (zo w + (a + 5))]) rfl rfl rfl rfl rfl (zu_put (o := 0) (L' := [(0, .inr (9, [.int (0 : Int32), .ref (zo w + (a + 1)), .ref (zo w + (a + 2)), .ref (zo w + (a + 3)), .int m_now, .int m_undoable, .ref (zo w + (a + 4)), .int m_bytes, .int m_errorAt, .int m_size, .int m_next, .int m_error, .int m_place, .int m_began, .int m_nested, .int m_once, .ref (zo w + (a + 5))]))]) rfl) dX9_day_2 rfl ?_
  refine z_aload_n (pc' := 6) C 0 dX9_day_5 rfl rfl rfl ?_
  refine z_iconst (pc' := 7) C dX9_day_6 zk_iconst_1 rfl ?_
  refine z_cV (pc' := 10) C hf (As := [.int (1 : Int32)]) (fun hq => c_X9_small (a := a) (zc_i (o := 0) n_a0 rfl) (zc_o (o := 1) h_a1 rfl) hq) (fun _ => (zu h a [(0, .inr (9, [.int (0 : Int32), .ref (zo w + (a + 1)), .ref (zo w + (a + 2)), .ref (zo w + (a + 3)), .int m_now, .int m_undoable, .ref (zo w + (a + 4)), .int m_bytes, .int m_errorAt, .int m_size, .int m_next, .int m_error, .int m_place, .int m_began, .int m_nested, .int m_once, .ref (zo w + (a + 5))]))])) (fun q_7 => [.int q_7]) (fun _ => rfl) (fun _ => rfl) zy_X9_small zw_1357 zw_1359 zv_45 (ci := 9) rfl (zc_i (o := 0) n_a0 rfl) ⟨rfl, rfl⟩ rfl rfl rfl rfl rfl dX9_day_7 rfl (fun q_7 hf => ?_)
  cases hf
  exact z_iret C rfl rfl dX9_day_10
set_option maxRecDepth 20000 in
theorem c_X9_contractCount {w : zV} {N : Nat} {h : zH} {a : Nat} {m_thrown : Int32} {m_next : Int32} {m_error : Int32} {m_place : Int32} {m_began : Int32} {m_nested : Int32} {m_once : Int32} {m_now : Int32} {m_undoable : Int32} {m_bytes : Int32} {m_errorAt : Int32} {m_size : Int32} {m_rows : Nat → Int64} (h_a0 : zc N h (a + 0) (.inr (9, [.int m_thrown, .ref (zo w + (a + 1)), .ref (zo w + (a + 2)), .ref (zo w + (a + 3)), .int m_now, .int m_undoable, .ref (zo w + (a + 4)), .int m_bytes, .int m_errorAt, .int m_size, .int m_next, .int m_error, .int m_place, .int m_began, .int m_nested, .int m_once, .ref (zo w + (a + 5))]))) (h_a1 : zc N h (a + 1) (.inl (w.2.2.1 1, 22500, .inr (.inl m_rows)))) {r : Int32 × Int32} (hf : f_X9_contractCount m_thrown m_now m_rows = some r) : zM w yX9_contractCount cX9_contractCount 1 (some .int) (zr 2 58) false N N h [.ref (zo w + a)] (some (.int r.1)) (zu h a [(0, .inr (9, [.int r.2, .ref (zo w + (a + 1)), .ref (zo w + (a + 2)), .ref (zo w + (a + 3)), .int m_now, .int m_undoable, .ref (zo w + (a + 4)), .int m_bytes, .int m_errorAt, .int m_size, .int m_next, .int m_error, .int m_place, .int m_began, .int m_nested, .int m_once, .ref (zo w + (a + 5))]))]) := by
  unfold f_X9_contractCount at hf
  refine zM_of (by decide) rfl (fun X C _ => ?_)
  refine z_eq (h' := (zu h a [(0, .inr (9, [.int m_thrown, .ref (zo w + (a + 1)), .ref (zo w + (a + 2)), .ref (zo w + (a + 3)), .int m_now, .int m_undoable, .ref (zo w + (a + 4)), .int m_bytes, .int m_errorAt, .int m_size, .int m_next, .int m_error, .int m_place, .int m_began, .int m_nested, .int m_once, .ref (zo w + (a + 5))]))])) (zu_s h_a0 zu_0).symm ?_
  have n_a0 := h_a0.1
  refine z_pick (lv' := [(0, .ref (zo w + a))]) [0] rfl ?_
  refine z_aload_n (pc' := 1) C 0 dX9_contractCount_0 rfl rfl rfl ?_
  refine z_iconst (pc' := 2) C dX9_contractCount_1 zk_iconst_0 rfl ?_
  refine z_putf (pc' := 5) C zci_9 zw_1184 (j := 0) rfl (zc_i (o := 0) n_a0 rfl) (fs' := [.int (0 : Int32), .ref (zo w + (a + 1)), .ref (zo w + (a + 2)), .ref (zo w + (a + 3)), .int m_now, .int m_undoable, .ref (zo w + (a + 4)), .int m_bytes, .int m_errorAt, .int m_size, .int m_next, .int m_error, .int m_place, .int m_began, .int m_nested, .int m_once, .ref (zo w + (a + 5))]) rfl rfl rfl rfl rfl (zu_put (o := 0) (L' := [(0, .inr (9, [.int (0 : Int32), .ref (zo w + (a + 1)), .ref (zo w + (a + 2)), .ref (zo w + (a + 3)), .int m_now, .int m_undoable, .ref (zo w + (a + 4)), .int m_bytes, .int m_errorAt, .int m_size, .int m_next, .int m_error, .int m_place, .int m_began, .int m_nested, .int m_once, .ref (zo w + (a + 5))]))]) rfl) dX9_contractCount_2 rfl ?_
  refine z_aload_n (pc' := 6) C 0 dX9_contractCount_5 rfl rfl rfl ?_
  refine z_iconst (pc' := 7) C dX9_contractCount_6 zk_iconst_0 rfl ?_
  refine z_cV (pc' := 10) C hf (As := [.int (0 : Int32)]) (fun hq => c_X9_small (a := a) (zc_i (o := 0) n_a0 rfl) (zc_o (o := 1) h_a1 rfl) hq) (fun _ => (zu h a [(0, .inr (9, [.int (0 : Int32), .ref (zo w + (a + 1)), .ref (zo w + (a + 2)), .ref (zo w + (a + 3)), .int m_now, .int m_undoable, .ref (zo w + (a + 4)), .int m_bytes, .int m_errorAt, .int m_size, .int m_next, .int m_error, .int m_place, .int m_began, .int m_nested, .int m_once, .ref (zo w + (a + 5))]))])) (fun q_7 => [.int q_7]) (fun _ => rfl) (fun _ => rfl) zy_X9_small zw_1357 zw_1359 zv_45 (ci := 9) rfl (zc_i (o := 0) n_a0 rfl) ⟨rfl, rfl⟩ rfl rfl rfl rfl rfl dX9_contractCount_7 rfl (fun q_7 hf => ?_)
  cases hf
  exact z_iret C rfl rfl dX9_contractCount_10
set_option maxRecDepth 20000 in
theorem c_X9_parent {w : zV} {N : Nat} {h : zH} {a : Nat} {m_thrown : Int32} {m_next : Int32} {m_error : Int32} {m_place : Int32} {m_began : Int32} {m_nested : Int32} {m_once : Int32} {m_now : Int32} {m_undoable : Int32} {m_bytes : Int32} {m_errorAt : Int32} {m_size : Int32} {m_rows : Nat → Int64} {p1 : Int32} (h_a0 : zc N h (a + 0) (.inr (9, [.int m_thrown, .ref (zo w + (a + 1)), .ref (zo w + (a + 2)), .ref (zo w + (a + 3)), .int m_now, .int m_undoable, .ref (zo w + (a + 4)), .int m_bytes, .int m_errorAt, .int m_size, .int m_next, .int m_error, .int m_place, .int m_began, .int m_nested, .int m_once, .ref (zo w + (a + 5))]))) (h_a1 : zc N h (a + 1) (.inl (w.2.2.1 1, 22500, .inr (.inl m_rows)))) {r : Int32 × Int32} (hf : f_X9_parent m_thrown m_now m_rows p1 = some r) : zM w yX9_parent cX9_parent 2 (some .int) (zr 2 62) false N N h [.ref (zo w + a), .int p1] (some (.int r.1)) (zu h a [(0, .inr (9, [.int r.2, .ref (zo w + (a + 1)), .ref (zo w + (a + 2)), .ref (zo w + (a + 3)), .int m_now, .int m_undoable, .ref (zo w + (a + 4)), .int m_bytes, .int m_errorAt, .int m_size, .int m_next, .int m_error, .int m_place, .int m_began, .int m_nested, .int m_once, .ref (zo w + (a + 5))]))]) := by
  unfold f_X9_parent at hf
  refine zM_of (by decide) rfl (fun X C _ => ?_)
  refine z_eq (h' := (zu h a [(0, .inr (9, [.int m_thrown, .ref (zo w + (a + 1)), .ref (zo w + (a + 2)), .ref (zo w + (a + 3)), .int m_now, .int m_undoable, .ref (zo w + (a + 4)), .int m_bytes, .int m_errorAt, .int m_size, .int m_next, .int m_error, .int m_place, .int m_began, .int m_nested, .int m_once, .ref (zo w + (a + 5))]))])) (zu_s h_a0 zu_0).symm ?_
  have n_a0 := h_a0.1
  refine z_pick (lv' := [(0, .ref (zo w + a)), (1, .int p1)]) [0, 1] rfl ?_
  refine z_aload_n (pc' := 1) C 0 dX9_parent_0 rfl rfl rfl ?_
  refine z_iload_n (pc' := 2) C 1 dX9_parent_1 rfl rfl rfl ?_
  refine z_cV (pc' := 5) C hf (As := [.int p1]) (fun hq => c_X9_isContract (a := a) (zc_i (o := 0) n_a0 rfl) (zc_o (o := 1) h_a1 rfl) hq) (fun q_2 => (zu h a [(0, .inr (9, [.int q_2.2, .ref (zo w + (a + 1)), .ref (zo w + (a + 2)), .ref (zo w + (a + 3)), .int m_now, .int m_undoable, .ref (zo w + (a + 4)), .int m_bytes, .int m_errorAt, .int m_size, .int m_next, .int m_error, .int m_place, .int m_began, .int m_nested, .int m_once, .ref (zo w + (a + 5))]))])) (fun q_2 => [.int q_2.1]) (fun _ => zu_sh (d := 0) rfl rfl) (fun _ => rfl) zy_X9_isContract zw_1377 zw_1379 zv_46 (ci := 9) rfl (zc_i (o := 0) n_a0 rfl) ⟨rfl, rfl⟩ rfl rfl rfl rfl rfl dX9_parent_2 rfl (fun q_2 hf => ?_)
  refine z_if_eq (pc' := 8) C 22 hf dX9_parent_5 rfl rfl (fun g_5 hf => ?_) (fun g_5 hf => ?_)
  · refine z_iconst (pc' := 23) C dX9_parent_22 zk_iconst_0 rfl ?_
    cases hf
    exact z_iret C rfl rfl dX9_parent_23
  · refine z_aload_n (pc' := 9) C 0 dX9_parent_8 rfl rfl rfl ?_
    refine z_aload_n (pc' := 10) C 0 dX9_parent_9 rfl rfl rfl ?_
    refine z_iload_n (pc' := 11) C 1 dX9_parent_10 rfl rfl rfl ?_
    refine z_cV (pc' := 14) C hf (As := [.int p1]) (fun hq => c_X9_at (a := a)  hq) (fun _ => (zu h a [(0, .inr (9, [.int q_2.2, .ref (zo w + (a + 1)), .ref (zo w + (a + 2)), .ref (zo w + (a + 3)), .int m_now, .int m_undoable, .ref (zo w + (a + 4)), .int m_bytes, .int m_errorAt, .int m_size, .int m_next, .int m_error, .int m_place, .int m_began, .int m_nested, .int m_once, .ref (zo w + (a + 5))]))])) (fun q_11 => [.int q_11, .ref (zo w + a)]) (fun _ => rfl) (fun _ => rfl) zy_X9_at zw_1381 zw_1383 zv_47 (ci := 9) rfl (zc_i (o := 0) n_a0 rfl) ⟨rfl, rfl⟩ rfl rfl rfl rfl rfl dX9_parent_11 rfl (fun q_11 hf => ?_)
    refine z_iconst (pc' := 15) C dX9_parent_14 zk_iconst_0 rfl ?_
    refine z_iadd (pc' := 16) C dX9_parent_15 rfl ?_
    refine z_cV (pc' := 19) C hf (As := [.int (q_11 + (0 : Int32))]) (fun hq => c_X9_small (a := a) (zc_i (o := 0) n_a0 rfl) (zc_o (o := 1) h_a1 rfl) hq) (fun _ => (zu h a [(0, .inr (9, [.int q_2.2, .ref (zo w + (a + 1)), .ref (zo w + (a + 2)), .ref (zo w + (a + 3)), .int m_now, .int m_undoable, .ref (zo w + (a + 4)), .int m_bytes, .int m_errorAt, .int m_size, .int m_next, .int m_error, .int m_place, .int m_began, .int m_nested, .int m_once, .ref (zo w + (a + 5))]))])) (fun q_16 => [.int q_16]) (fun _ => rfl) (fun _ => rfl) zy_X9_small zw_1357 zw_1359 zv_45 (ci := 9) rfl (zc_i (o := 0) n_a0 rfl) ⟨rfl, rfl⟩ rfl rfl rfl rfl rfl dX9_parent_16 rfl (fun q_16 hf => ?_)
    refine z_goto C 23 dX9_parent_19 rfl ?_
    cases hf
    exact z_iret C rfl rfl dX9_parent_23
set_option maxRecDepth 20000 in
theorem c_X9_itemCount {w : zV} {N : Nat} {h : zH} {a : Nat} {m_thrown : Int32} {m_next : Int32} {m_error : Int32} {m_place : Int32} {m_began : Int32} {m_nested : Int32} {m_once : Int32} {m_now : Int32} {m_undoable : Int32} {m_bytes : Int32} {m_errorAt : Int32} {m_size : Int32} {m_rows : Nat → Int64} {p1 : Int32} (h_a0 : zc N h (a + 0) (.inr (9, [.int m_thrown, .ref (zo w + (a + 1)), .ref (zo w + (a + 2)), .ref (zo w + (a + 3)), .int m_now, .int m_undoable, .ref (zo w + (a + 4)), .int m_bytes, .int m_errorAt, .int m_size, .int m_next, .int m_error, .int m_place, .int m_began, .int m_nested, .int m_once, .ref (zo w + (a + 5))]))) (h_a1 : zc N h (a + 1) (.inl (w.2.2.1 1, 22500, .inr (.inl m_rows)))) {r : Int32 × Int32} (hf : f_X9_itemCount m_thrown m_now m_rows p1 = some r) : zM w yX9_itemCount cX9_itemCount 2 (some .int) (zr 2 62) false N N h [.ref (zo w + a), .int p1] (some (.int r.1)) (zu h a [(0, .inr (9, [.int r.2, .ref (zo w + (a + 1)), .ref (zo w + (a + 2)), .ref (zo w + (a + 3)), .int m_now, .int m_undoable, .ref (zo w + (a + 4)), .int m_bytes, .int m_errorAt, .int m_size, .int m_next, .int m_error, .int m_place, .int m_began, .int m_nested, .int m_once, .ref (zo w + (a + 5))]))]) := by
  unfold f_X9_itemCount at hf
  refine zM_of (by decide) rfl (fun X C _ => ?_)
  refine z_eq (h' := (zu h a [(0, .inr (9, [.int m_thrown, .ref (zo w + (a + 1)), .ref (zo w + (a + 2)), .ref (zo w + (a + 3)), .int m_now, .int m_undoable, .ref (zo w + (a + 4)), .int m_bytes, .int m_errorAt, .int m_size, .int m_next, .int m_error, .int m_place, .int m_began, .int m_nested, .int m_once, .ref (zo w + (a + 5))]))])) (zu_s h_a0 zu_0).symm ?_
  have n_a0 := h_a0.1
  refine z_pick (lv' := [(0, .ref (zo w + a)), (1, .int p1)]) [0, 1] rfl ?_
  refine z_aload_n (pc' := 1) C 0 dX9_itemCount_0 rfl rfl rfl ?_
  refine z_iload_n (pc' := 2) C 1 dX9_itemCount_1 rfl rfl rfl ?_
  refine z_cV (pc' := 5) C hf (As := [.int p1]) (fun hq => c_X9_isContract (a := a) (zc_i (o := 0) n_a0 rfl) (zc_o (o := 1) h_a1 rfl) hq) (fun q_2 => (zu h a [(0, .inr (9, [.int q_2.2, .ref (zo w + (a + 1)), .ref (zo w + (a + 2)), .ref (zo w + (a + 3)), .int m_now, .int m_undoable, .ref (zo w + (a + 4)), .int m_bytes, .int m_errorAt, .int m_size, .int m_next, .int m_error, .int m_place, .int m_began, .int m_nested, .int m_once, .ref (zo w + (a + 5))]))])) (fun q_2 => [.int q_2.1]) (fun _ => zu_sh (d := 0) rfl rfl) (fun _ => rfl) zy_X9_isContract zw_1377 zw_1379 zv_46 (ci := 9) rfl (zc_i (o := 0) n_a0 rfl) ⟨rfl, rfl⟩ rfl rfl rfl rfl rfl dX9_itemCount_2 rfl (fun q_2 hf => ?_)
  refine z_if_eq (pc' := 8) C 23 hf dX9_itemCount_5 rfl rfl (fun g_5 hf => ?_) (fun g_5 hf => ?_)
  · refine z_iconst (pc' := 24) C dX9_itemCount_23 zk_iconst_0 rfl ?_
    cases hf
    exact z_iret C rfl rfl dX9_itemCount_24
  · refine z_aload_n (pc' := 9) C 0 dX9_itemCount_8 rfl rfl rfl ?_
    refine z_aload_n (pc' := 10) C 0 dX9_itemCount_9 rfl rfl rfl ?_
    refine z_iload_n (pc' := 11) C 1 dX9_itemCount_10 rfl rfl rfl ?_
    refine z_cV (pc' := 14) C hf (As := [.int p1]) (fun hq => c_X9_at (a := a)  hq) (fun _ => (zu h a [(0, .inr (9, [.int q_2.2, .ref (zo w + (a + 1)), .ref (zo w + (a + 2)), .ref (zo w + (a + 3)), .int m_now, .int m_undoable, .ref (zo w + (a + 4)), .int m_bytes, .int m_errorAt, .int m_size, .int m_next, .int m_error, .int m_place, .int m_began, .int m_nested, .int m_once, .ref (zo w + (a + 5))]))])) (fun q_11 => [.int q_11, .ref (zo w + a)]) (fun _ => rfl) (fun _ => rfl) zy_X9_at zw_1381 zw_1383 zv_47 (ci := 9) rfl (zc_i (o := 0) n_a0 rfl) ⟨rfl, rfl⟩ rfl rfl rfl rfl rfl dX9_itemCount_11 rfl (fun q_11 hf => ?_)
    refine z_bipush (pc' := 16) C dX9_itemCount_14 zk_bipush_7 rfl ?_
    refine z_iadd (pc' := 17) C dX9_itemCount_16 rfl ?_
    refine z_cV (pc' := 20) C hf (As := [.int (q_11 + (7 : Int32))]) (fun hq => c_X9_small (a := a) (zc_i (o := 0) n_a0 rfl) (zc_o (o := 1) h_a1 rfl) hq) (fun _ => (zu h a [(0, .inr (9, [.int q_2.2, .ref (zo w + (a + 1)), .ref (zo w + (a + 2)), .ref (zo w + (a + 3)), .int m_now, .int m_undoable, .ref (zo w + (a + 4)), .int m_bytes, .int m_errorAt, .int m_size, .int m_next, .int m_error, .int m_place, .int m_began, .int m_nested, .int m_once, .ref (zo w + (a + 5))]))])) (fun q_17 => [.int q_17]) (fun _ => rfl) (fun _ => rfl) zy_X9_small zw_1357 zw_1359 zv_45 (ci := 9) rfl (zc_i (o := 0) n_a0 rfl) ⟨rfl, rfl⟩ rfl rfl rfl rfl rfl dX9_itemCount_17 rfl (fun q_17 hf => ?_)
    refine z_goto C 24 dX9_itemCount_20 rfl ?_
    cases hf
    exact z_iret C rfl rfl dX9_itemCount_24
set_option maxRecDepth 20000 in
theorem c_X9_quantity {w : zV} {N : Nat} {h : zH} {a : Nat} {m_thrown : Int32} {m_next : Int32} {m_error : Int32} {m_place : Int32} {m_began : Int32} {m_nested : Int32} {m_once : Int32} {m_now : Int32} {m_undoable : Int32} {m_bytes : Int32} {m_errorAt : Int32} {m_size : Int32} {m_rows : Nat → Int64} {p1 : Int32} {p2 : Int32} (h_a0 : zc N h (a + 0) (.inr (9, [.int m_thrown, .ref (zo w + (a + 1)), .ref (zo w + (a + 2)), .ref (zo w + (a + 3)), .int m_now, .int m_undoable, .ref (zo w + (a + 4)), .int m_bytes, .int m_errorAt, .int m_size, .int m_next, .int m_error, .int m_place, .int m_began, .int m_nested, .int m_once, .ref (zo w + (a + 5))]))) (h_a1 : zc N h (a + 1) (.inl (w.2.2.1 1, 22500, .inr (.inl m_rows)))) {r : Int32 × Int32} (hf : f_X9_quantity m_thrown m_now m_rows p1 p2 = some r) : zM w yX9_quantity cX9_quantity 3 (some .int) (zr 3 93) false N N h [.ref (zo w + a), .int p1, .int p2] (some (.int r.1)) (zu h a [(0, .inr (9, [.int r.2, .ref (zo w + (a + 1)), .ref (zo w + (a + 2)), .ref (zo w + (a + 3)), .int m_now, .int m_undoable, .ref (zo w + (a + 4)), .int m_bytes, .int m_errorAt, .int m_size, .int m_next, .int m_error, .int m_place, .int m_began, .int m_nested, .int m_once, .ref (zo w + (a + 5))]))]) := by
  unfold f_X9_quantity at hf
  refine zM_of (by decide) rfl (fun X C _ => ?_)
  refine z_eq (h' := (zu h a [(0, .inr (9, [.int m_thrown, .ref (zo w + (a + 1)), .ref (zo w + (a + 2)), .ref (zo w + (a + 3)), .int m_now, .int m_undoable, .ref (zo w + (a + 4)), .int m_bytes, .int m_errorAt, .int m_size, .int m_next, .int m_error, .int m_place, .int m_began, .int m_nested, .int m_once, .ref (zo w + (a + 5))]))])) (zu_s h_a0 zu_0).symm ?_
  have n_a0 := h_a0.1
  refine z_pick (lv' := [(0, .ref (zo w + a)), (1, .int p1), (2, .int p2)]) [0, 1, 2] rfl ?_
  refine z_aload_n (pc' := 1) C 0 dX9_quantity_0 rfl rfl rfl ?_
  refine z_iload_n (pc' := 2) C 1 dX9_quantity_1 rfl rfl rfl ?_
  refine z_iload_n (pc' := 3) C 2 dX9_quantity_2 rfl rfl rfl ?_
  refine z_cV (pc' := 6) C hf (As := [.int p1, .int p2]) (fun hq => c_X9_isItem (a := a) (zc_i (o := 0) n_a0 rfl) (zc_o (o := 1) h_a1 rfl) hq) (fun q_3 => (zu h a [(0, .inr (9, [.int q_3.2, .ref (zo w + (a + 1)), .ref (zo w + (a + 2)), .ref (zo w + (a + 3)), .int m_now, .int m_undoable, .ref (zo w + (a + 4)), .int m_bytes, .int m_errorAt, .int m_size, .int m_next, .int m_error, .int m_place, .int m_began, .int m_nested, .int m_once, .ref (zo w + (a + 5))]))])) (fun q_3 => [.int q_3.1]) (fun _ => zu_sh (d := 0) rfl rfl) (fun _ => rfl) zy_X9_isItem zw_1393 zw_1395 zv_48 (ci := 9) rfl (zc_i (o := 0) n_a0 rfl) ⟨rfl, rfl⟩ rfl rfl rfl rfl rfl dX9_quantity_3 rfl (fun q_3 hf => ?_)
  refine z_if_eq (pc' := 9) C 19 hf dX9_quantity_6 rfl rfl (fun g_6 hf => ?_) (fun g_6 hf => ?_)
  · refine z_iconst (pc' := 20) C dX9_quantity_19 zk_iconst_0 rfl ?_
    cases hf
    exact z_iret C rfl rfl dX9_quantity_20
  · refine z_aload_n (pc' := 10) C 0 dX9_quantity_9 rfl rfl rfl ?_
    refine z_iload_n (pc' := 11) C 1 dX9_quantity_10 rfl rfl rfl ?_
    refine z_iload_n (pc' := 12) C 2 dX9_quantity_11 rfl rfl rfl ?_
    refine z_cV (pc' := 15) C hf (As := [.int p1, .int p2]) (fun hq => c_X9_quantityOf (a := a) (zc_i (o := 0) n_a0 rfl) (zc_o (o := 1) h_a1 rfl) hq) (fun _ => (zu h a [(0, .inr (9, [.int q_3.2, .ref (zo w + (a + 1)), .ref (zo w + (a + 2)), .ref (zo w + (a + 3)), .int m_now, .int m_undoable, .ref (zo w + (a + 4)), .int m_bytes, .int m_errorAt, .int m_size, .int m_next, .int m_error, .int m_place, .int m_began, .int m_nested, .int m_once, .ref (zo w + (a + 5))]))])) (fun q_12 => [.long q_12]) (fun _ => rfl) (fun _ => rfl) zy_X9_quantityOf zw_1397 zw_1399 zv_49 (ci := 9) rfl (zc_i (o := 0) n_a0 rfl) ⟨rfl, rfl⟩ rfl rfl rfl rfl rfl dX9_quantity_12 rfl (fun q_12 hf => ?_)
    refine z_l2i (pc' := 16) C dX9_quantity_15 rfl ?_
    refine z_goto C 20 dX9_quantity_16 rfl ?_
    cases hf
    exact z_iret C rfl rfl dX9_quantity_20
set_option maxRecDepth 20000 in
theorem c_X9_specialRate {w : zV} {N : Nat} {h : zH} {a : Nat} {m_thrown : Int32} {m_next : Int32} {m_error : Int32} {m_place : Int32} {m_began : Int32} {m_nested : Int32} {m_once : Int32} {m_now : Int32} {m_undoable : Int32} {m_bytes : Int32} {m_errorAt : Int32} {m_size : Int32} {m_rows : Nat → Int64} {m_pile : Nat → Int64} {p1 : Int32} {p2 : Int32} (h_a0 : zc N h (a + 0) (.inr (9, [.int m_thrown, .ref (zo w + (a + 1)), .ref (zo w + (a + 2)), .ref (zo w + (a + 3)), .int m_now, .int m_undoable, .ref (zo w + (a + 4)), .int m_bytes, .int m_errorAt, .int m_size, .int m_next, .int m_error, .int m_place, .int m_began, .int m_nested, .int m_once, .ref (zo w + (a + 5))]))) (h_a1 : zc N h (a + 1) (.inl (w.2.2.1 1, 22500, .inr (.inl m_rows)))) (h_a5 : zc N h (a + 5) (.inl (w.2.2.1 1, 128, .inr (.inl m_pile)))) {r : Int32 × Int32 × (Nat → Int64)} (hf : f_X9_specialRate m_thrown m_now m_rows m_pile p1 p2 = some r) : zM w yX9_specialRate cX9_specialRate 3 (some .int) (zr 4 133) false N N h [.ref (zo w + a), .int p1, .int p2] (some (.int r.1)) (zu h a [(0, .inr (9, [.int r.2.1, .ref (zo w + (a + 1)), .ref (zo w + (a + 2)), .ref (zo w + (a + 3)), .int m_now, .int m_undoable, .ref (zo w + (a + 4)), .int m_bytes, .int m_errorAt, .int m_size, .int m_next, .int m_error, .int m_place, .int m_began, .int m_nested, .int m_once, .ref (zo w + (a + 5))])), (5, .inl (w.2.2.1 1, 128, .inr (.inl r.2.2)))]) := by
  unfold f_X9_specialRate at hf
  refine zM_of (by decide) rfl (fun X C _ => ?_)
  refine z_eq (h' := (zu h a [(0, .inr (9, [.int m_thrown, .ref (zo w + (a + 1)), .ref (zo w + (a + 2)), .ref (zo w + (a + 3)), .int m_now, .int m_undoable, .ref (zo w + (a + 4)), .int m_bytes, .int m_errorAt, .int m_size, .int m_next, .int m_error, .int m_place, .int m_began, .int m_nested, .int m_once, .ref (zo w + (a + 5))])), (5, .inl (w.2.2.1 1, 128, .inr (.inl m_pile)))])) (zu_s h_a0 (zu_s h_a5 zu_0)).symm ?_
  have n_a0 := h_a0.1
  have n_a5 := h_a5.1
  refine z_pick (lv' := [(0, .ref (zo w + a)), (1, .int p1), (2, .int p2)]) [0, 1, 2] rfl ?_
  refine z_aload_n (pc' := 1) C 0 dX9_specialRate_0 rfl rfl rfl ?_
  refine z_iload_n (pc' := 2) C 1 dX9_specialRate_1 rfl rfl rfl ?_
  refine z_iload_n (pc' := 3) C 2 dX9_specialRate_2 rfl rfl rfl ?_
  refine z_cV (pc' := 6) C hf (As := [.int p1, .int p2]) (fun hq => c_X9_isItem (a := a) (zc_i (o := 0) n_a0 rfl) (zc_o (o := 1) h_a1 rfl) hq) (fun q_3 => (zu h a [(0, .inr (9, [.int q_3.2, .ref (zo w + (a + 1)), .ref (zo w + (a + 2)), .ref (zo w + (a + 3)), .int m_now, .int m_undoable, .ref (zo w + (a + 4)), .int m_bytes, .int m_errorAt, .int m_size, .int m_next, .int m_error, .int m_place, .int m_began, .int m_nested, .int m_once, .ref (zo w + (a + 5))])), (5, .inl (w.2.2.1 1, 128, .inr (.inl m_pile)))])) (fun q_3 => [.int q_3.1]) (fun _ => zu_sh (d := 0) rfl rfl) (fun _ => rfl) zy_X9_isItem zw_1393 zw_1395 zv_48 (ci := 9) rfl (zc_i (o := 0) n_a0 rfl) ⟨rfl, rfl⟩ rfl rfl rfl rfl rfl dX9_specialRate_3 rfl (fun q_3 hf => ?_)
  refine z_if_eq (pc' := 9) C 25 hf dX9_specialRate_6 rfl rfl (fun g_6 hf => ?_) (fun g_6 hf => ?_)
  · refine z_iconst (pc' := 26) C dX9_specialRate_25 zk_iconst_0 rfl ?_
    cases hf
    exact z_iret C rfl rfl dX9_specialRate_26
  · refine z_aload_n (pc' := 10) C 0 dX9_specialRate_9 rfl rfl rfl ?_
    refine z_iload_n (pc' := 11) C 1 dX9_specialRate_10 rfl rfl rfl ?_
    refine z_iload_n (pc' := 12) C 2 dX9_specialRate_11 rfl rfl rfl ?_
    refine z_aload_n (pc' := 13) C 0 dX9_specialRate_12 rfl rfl rfl ?_
    refine z_iload_n (pc' := 14) C 1 dX9_specialRate_13 rfl rfl rfl ?_
    refine z_iload_n (pc' := 15) C 2 dX9_specialRate_14 rfl rfl rfl ?_
    refine z_cV (pc' := 18) C hf (As := [.int p1, .int p2]) (fun hq => c_X9_quantityOf (a := a) (zc_i (o := 0) n_a0 rfl) (zc_o (o := 1) h_a1 rfl) hq) (fun _ => (zu h a [(0, .inr (9, [.int q_3.2, .ref (zo w + (a + 1)), .ref (zo w + (a + 2)), .ref (zo w + (a + 3)), .int m_now, .int m_undoable, .ref (zo w + (a + 4)), .int m_bytes, .int m_errorAt, .int m_size, .int m_next, .int m_error, .int m_place, .int m_began, .int m_nested, .int m_once, .ref (zo w + (a + 5))])), (5, .inl (w.2.2.1 1, 128, .inr (.inl m_pile)))])) (fun q_15 => [.long q_15, .int p2, .int p1, .ref (zo w + a)]) (fun _ => rfl) (fun _ => rfl) zy_X9_quantityOf zw_1397 zw_1399 zv_49 (ci := 9) rfl (zc_i (o := 0) n_a0 rfl) ⟨rfl, rfl⟩ rfl rfl rfl rfl rfl dX9_specialRate_15 rfl (fun q_15 hf => ?_)
    refine z_cV (pc' := 21) C hf (As := [.int p1, .int p2, .long q_15]) (fun hq => c_X9_rateBy (a := a) (zc_i (o := 0) n_a0 rfl) (zc_o (o := 1) h_a1 rfl) (zc_i (o := 5) n_a5 rfl) hq) (fun q_18 => (zu h a [(0, .inr (9, [.int q_3.2, .ref (zo w + (a + 1)), .ref (zo w + (a + 2)), .ref (zo w + (a + 3)), .int m_now, .int m_undoable, .ref (zo w + (a + 4)), .int m_bytes, .int m_errorAt, .int m_size, .int m_next, .int m_error, .int m_place, .int m_began, .int m_nested, .int m_once, .ref (zo w + (a + 5))])), (5, .inl (w.2.2.1 1, 128, .inr (.inl q_18.2)))])) (fun q_18 => [.long q_18.1]) (fun _ => zu_sh (d := 0) rfl rfl) (fun _ => rfl) zy_X9_rateBy zw_1409 zw_1411 zv_51 (ci := 9) rfl (zc_i (o := 0) n_a0 rfl) ⟨rfl, rfl⟩ rfl rfl rfl rfl rfl dX9_specialRate_18 rfl (fun q_18 hf => ?_)
    refine z_l2i (pc' := 22) C dX9_specialRate_21 rfl ?_
    refine z_goto C 26 dX9_specialRate_22 rfl ?_
    cases hf
    exact z_iret C rfl rfl dX9_specialRate_26
set_option maxRecDepth 20000 in
theorem c_X9_itemValue {w : zV} {N : Nat} {h : zH} {a : Nat} {m_thrown : Int32} {m_next : Int32} {m_error : Int32} {m_place : Int32} {m_began : Int32} {m_nested : Int32} {m_once : Int32} {m_now : Int32} {m_undoable : Int32} {m_bytes : Int32} {m_errorAt : Int32} {m_size : Int32} {m_rows : Nat → Int64} {m_pile : Nat → Int64} {p1 : Int32} {p2 : Int32} (h_a0 : zc N h (a + 0) (.inr (9, [.int m_thrown, .ref (zo w + (a + 1)), .ref (zo w + (a + 2)), .ref (zo w + (a + 3)), .int m_now, .int m_undoable, .ref (zo w + (a + 4)), .int m_bytes, .int m_errorAt, .int m_size, .int m_next, .int m_error, .int m_place, .int m_began, .int m_nested, .int m_once, .ref (zo w + (a + 5))]))) (h_a1 : zc N h (a + 1) (.inl (w.2.2.1 1, 22500, .inr (.inl m_rows)))) (h_a5 : zc N h (a + 5) (.inl (w.2.2.1 1, 128, .inr (.inl m_pile)))) {r : Int64 × Int32 × (Nat → Int64)} (hf : f_X9_itemValue m_thrown m_now m_rows m_pile p1 p2 = some r) : zM w yX9_itemValue cX9_itemValue 3 (some .long) (zr 6 197) false N N h [.ref (zo w + a), .int p1, .int p2] (some (.long r.1)) (zu h a [(0, .inr (9, [.int r.2.1, .ref (zo w + (a + 1)), .ref (zo w + (a + 2)), .ref (zo w + (a + 3)), .int m_now, .int m_undoable, .ref (zo w + (a + 4)), .int m_bytes, .int m_errorAt, .int m_size, .int m_next, .int m_error, .int m_place, .int m_began, .int m_nested, .int m_once, .ref (zo w + (a + 5))])), (5, .inl (w.2.2.1 1, 128, .inr (.inl r.2.2)))]) := by
  unfold f_X9_itemValue at hf
  refine zM_of (by decide) rfl (fun X C _ => ?_)
  refine z_eq (h' := (zu h a [(0, .inr (9, [.int m_thrown, .ref (zo w + (a + 1)), .ref (zo w + (a + 2)), .ref (zo w + (a + 3)), .int m_now, .int m_undoable, .ref (zo w + (a + 4)), .int m_bytes, .int m_errorAt, .int m_size, .int m_next, .int m_error, .int m_place, .int m_began, .int m_nested, .int m_once, .ref (zo w + (a + 5))])), (5, .inl (w.2.2.1 1, 128, .inr (.inl m_pile)))])) (zu_s h_a0 (zu_s h_a5 zu_0)).symm ?_
  have n_a0 := h_a0.1
  have n_a5 := h_a5.1
  refine z_pick (lv' := [(0, .ref (zo w + a)), (1, .int p1), (2, .int p2)]) [0, 1, 2] rfl ?_
  refine z_aload_n (pc' := 1) C 0 dX9_itemValue_0 rfl rfl rfl ?_
  refine z_iload_n (pc' := 2) C 1 dX9_itemValue_1 rfl rfl rfl ?_
  refine z_iload_n (pc' := 3) C 2 dX9_itemValue_2 rfl rfl rfl ?_
  refine z_cV (pc' := 6) C hf (As := [.int p1, .int p2]) (fun hq => c_X9_isItem (a := a) (zc_i (o := 0) n_a0 rfl) (zc_o (o := 1) h_a1 rfl) hq) (fun q_3 => (zu h a [(0, .inr (9, [.int q_3.2, .ref (zo w + (a + 1)), .ref (zo w + (a + 2)), .ref (zo w + (a + 3)), .int m_now, .int m_undoable, .ref (zo w + (a + 4)), .int m_bytes, .int m_errorAt, .int m_size, .int m_next, .int m_error, .int m_place, .int m_began, .int m_nested, .int m_once, .ref (zo w + (a + 5))])), (5, .inl (w.2.2.1 1, 128, .inr (.inl m_pile)))])) (fun q_3 => [.int q_3.1]) (fun _ => zu_sh (d := 0) rfl rfl) (fun _ => rfl) zy_X9_isItem zw_1393 zw_1395 zv_48 (ci := 9) rfl (zc_i (o := 0) n_a0 rfl) ⟨rfl, rfl⟩ rfl rfl rfl rfl rfl dX9_itemValue_3 rfl (fun q_3 hf => ?_)
  refine z_if_eq (pc' := 9) C 18 hf dX9_itemValue_6 rfl rfl (fun g_6 hf => ?_) (fun g_6 hf => ?_)
  · refine z_lconst (pc' := 19) C dX9_itemValue_18 zl_0 rfl ?_
    cases hf
    exact z_lret C rfl rfl dX9_itemValue_19
  · refine z_aload_n (pc' := 10) C 0 dX9_itemValue_9 rfl rfl rfl ?_
    refine z_iload_n (pc' := 11) C 1 dX9_itemValue_10 rfl rfl rfl ?_
    refine z_iload_n (pc' := 12) C 2 dX9_itemValue_11 rfl rfl rfl ?_
    refine z_cV (pc' := 15) C hf (As := [.int p1, .int p2]) (fun hq => c_X9_valueOf (a := a) (zc_i (o := 0) n_a0 rfl) (zc_o (o := 1) h_a1 rfl) (zc_i (o := 5) n_a5 rfl) hq) (fun q_12 => (zu h a [(0, .inr (9, [.int q_3.2, .ref (zo w + (a + 1)), .ref (zo w + (a + 2)), .ref (zo w + (a + 3)), .int m_now, .int m_undoable, .ref (zo w + (a + 4)), .int m_bytes, .int m_errorAt, .int m_size, .int m_next, .int m_error, .int m_place, .int m_began, .int m_nested, .int m_once, .ref (zo w + (a + 5))])), (5, .inl (w.2.2.1 1, 128, .inr (.inl q_12.2)))])) (fun q_12 => [.long q_12.1]) (fun _ => zu_sh (d := 0) rfl rfl) (fun _ => rfl) zy_X9_valueOf zw_1433 zw_1435 zv_54 (ci := 9) rfl (zc_i (o := 0) n_a0 rfl) ⟨rfl, rfl⟩ rfl rfl rfl rfl rfl dX9_itemValue_12 rfl (fun q_12 hf => ?_)
    refine z_goto C 19 dX9_itemValue_15 rfl ?_
    cases hf
    exact z_lret C rfl rfl dX9_itemValue_19
set_option maxRecDepth 20000 in
theorem w_X9_firstOf_5 {X : zC} {w : zV} {N : Nat} {h : zH} {a : Nat} {m_thrown : Int32} {m_next : Int32} {m_error : Int32} {m_place : Int32} {m_began : Int32} {m_nested : Int32} {m_once : Int32} {m_now : Int32} {m_undoable : Int32} {m_bytes : Int32} {m_errorAt : Int32} {m_size : Int32} {m_rows : Nat → Int64} (C : zK X w RX9 cX9_firstOf 5 (some .long) (zr 2 59)) (h_a0 : zc N h (a + 0) (.inr (9, [.int m_thrown, .ref (zo w + (a + 1)), .ref (zo w + (a + 2)), .ref (zo w + (a + 3)), .int m_now, .int m_undoable, .ref (zo w + (a + 4)), .int m_bytes, .int m_errorAt, .int m_size, .int m_next, .int m_error, .int m_place, .int m_began, .int m_nested, .int m_once, .ref (zo w + (a + 5))]))) (h_a1 : zc N h (a + 1) (.inl (w.2.2.1 1, 22500, .inr (.inl m_rows)))) {r : Int64} (n : Nat) : ∀ {x1 : Int32} {x2 : Int64} {x4 : Int32}, f_X9_firstOf_5  n m_now m_rows x1 x2 x4 = some r → zZ X w (zQ X w (zr 2 59) (some (.long r)) false N h) 0 0 false N h 5 [(0, .ref (zo w + a)), (1, .int x1), (2, .long x2), (4, .int x4)] [] := by
  induction n with
  | zero =>
    intro x1 x2 x4 hf
    have hf : (none : Option (Int64)) = some r := hf
    cases hf
  | succ z ih =>
    intro x1 x2 x4 hf
    rw [f_X9_firstOf_5] at hf
    refine z_iload (pc' := 7) C 3 dX9_firstOf_5 rfl rfl ?_
    refine z_i2l (pc' := 8) C dX9_firstOf_7 rfl ?_
    refine z_aload_n (pc' := 9) C 0 dX9_firstOf_8 rfl rfl rfl ?_
    refine z_aload_n (pc' := 10) C 0 dX9_firstOf_9 rfl rfl rfl ?_
    refine z_iload_n (pc' := 11) C 1 dX9_firstOf_10 rfl rfl rfl ?_
    refine z_cV (pc' := 14) C hf (As := [.int x1]) (fun hq => c_X9_at (a := a)  hq) (fun _ => h) (fun q_11 => [.int q_11, .ref (zo w + a), .long (x4).toInt64]) (fun _ => rfl) (fun _ => rfl) zy_X9_at zw_1381 zw_1383 zv_47 (ci := 9) rfl h_a0 ⟨rfl, rfl⟩ rfl rfl rfl rfl rfl dX9_firstOf_11 rfl (fun q_11 hf => ?_)
    refine z_bipush (pc' := 16) C dX9_firstOf_14 zk_bipush_7 rfl ?_
    refine z_iadd (pc' := 17) C dX9_firstOf_16 rfl ?_
    refine z_cV (pc' := 20) C hf (As := [.int (q_11 + (7 : Int32))]) (fun hq => c_X9_get (a := a) h_a0 h_a1 hq) (fun _ => h) (fun q_17 => [.long q_17, .long (x4).toInt64]) (fun _ => rfl) (fun _ => rfl) zy_X9_get zw_1349 zw_1351 zv_43 (ci := 9) rfl h_a0 ⟨rfl, rfl⟩ rfl rfl rfl rfl rfl dX9_firstOf_17 rfl (fun q_17 hf => ?_)
    refine z_lcmp_ge (pc' := 24) C 58 hf dX9_firstOf_20 rfl dX9_firstOf_21 rfl rfl (fun g_20 hf => ?_) (fun g_20 hf => ?_)
    · refine z_lload_n (pc' := 59) C 2 dX9_firstOf_58 rfl rfl rfl ?_
      cases hf
      exact z_lret C rfl rfl dX9_firstOf_59
    · refine z_lload_n (pc' := 25) C 2 dX9_firstOf_24 rfl rfl rfl ?_
      refine z_aload_n (pc' := 26) C 0 dX9_firstOf_25 rfl rfl rfl ?_
      refine z_aload_n (pc' := 27) C 0 dX9_firstOf_26 rfl rfl rfl ?_
      refine z_iload_n (pc' := 28) C 1 dX9_firstOf_27 rfl rfl rfl ?_
      refine z_iload (pc' := 30) C 3 dX9_firstOf_28 rfl rfl ?_
      refine z_cV (pc' := 33) C hf (As := [.int x1, .int x4]) (fun hq => c_X9_itemAt (a := a) h_a0 hq) (fun _ => h) (fun q_30 => [.int q_30, .ref (zo w + a), .long x2]) (fun _ => rfl) (fun _ => rfl) zy_X9_itemAt zw_1401 zw_1403 zv_50 (ci := 9) rfl h_a0 ⟨rfl, rfl⟩ rfl rfl rfl rfl rfl dX9_firstOf_30 rfl (fun q_30 hf => ?_)
      refine z_cV (pc' := 36) C hf (As := [.int q_30]) (fun hq => c_X9_get (a := a) h_a0 h_a1 hq) (fun _ => h) (fun q_33 => [.long q_33, .long x2]) (fun _ => rfl) (fun _ => rfl) zy_X9_get zw_1349 zw_1351 zv_43 (ci := 9) rfl h_a0 ⟨rfl, rfl⟩ rfl rfl rfl rfl rfl dX9_firstOf_33 rfl (fun q_33 hf => ?_)
      refine z_aload_n (pc' := 37) C 0 dX9_firstOf_36 rfl rfl rfl ?_
      refine z_aload_n (pc' := 38) C 0 dX9_firstOf_37 rfl rfl rfl ?_
      refine z_iload_n (pc' := 39) C 1 dX9_firstOf_38 rfl rfl rfl ?_
      refine z_iload (pc' := 41) C 3 dX9_firstOf_39 rfl rfl ?_
      refine z_cV (pc' := 44) C hf (As := [.int x1, .int x4]) (fun hq => c_X9_itemAt (a := a) h_a0 hq) (fun _ => h) (fun q_41 => [.int q_41, .ref (zo w + a), .long q_33, .long x2]) (fun _ => rfl) (fun _ => rfl) zy_X9_itemAt zw_1401 zw_1403 zv_50 (ci := 9) rfl h_a0 ⟨rfl, rfl⟩ rfl rfl rfl rfl rfl dX9_firstOf_41 rfl (fun q_41 hf => ?_)
      refine z_iconst (pc' := 45) C dX9_firstOf_44 zk_iconst_1 rfl ?_
      refine z_iadd (pc' := 46) C dX9_firstOf_45 rfl ?_
      refine z_cV (pc' := 49) C hf (As := [.int (q_41 + (1 : Int32))]) (fun hq => c_X9_get (a := a) h_a0 h_a1 hq) (fun _ => h) (fun q_46 => [.long q_46, .long q_33, .long x2]) (fun _ => rfl) (fun _ => rfl) zy_X9_get zw_1349 zw_1351 zv_43 (ci := 9) rfl h_a0 ⟨rfl, rfl⟩ rfl rfl rfl rfl rfl dX9_firstOf_46 rfl (fun q_46 hf => ?_)
      refine z_lmul (pc' := 50) C dX9_firstOf_49 rfl ?_
      refine z_ladd (pc' := 51) C dX9_firstOf_50 rfl ?_
      refine z_lstore_n (pc' := 52) C [(2, .long (x2 + (q_33 * q_46))), (0, .ref (zo w + a)), (1, .int x1), (4, .int x4)] dX9_firstOf_51 rfl rfl rfl rfl ?_
      refine z_iinc (pc' := 55) C 3 [(4, .int (x4 + (1 : Int32))), (2, .long (x2 + (q_33 * q_46))), (0, .ref (zo w + a)), (1, .int x1)] dX9_firstOf_52 rfl zk_iconst_1 rfl rfl rfl ?_
      refine z_goto C 5 dX9_firstOf_55 rfl ?_
      refine z_pick (lv' := [(0, .ref (zo w + a)), (1, .int x1), (2, .long (x2 + (q_33 * q_46))), (4, .int (x4 + (1 : Int32)))]) [2, 3, 1, 0] rfl ?_
      exact ih hf
set_option maxRecDepth 20000 in
theorem c_X9_firstOf {w : zV} {N : Nat} {h : zH} {a : Nat} {m_thrown : Int32} {m_next : Int32} {m_error : Int32} {m_place : Int32} {m_began : Int32} {m_nested : Int32} {m_once : Int32} {m_now : Int32} {m_undoable : Int32} {m_bytes : Int32} {m_errorAt : Int32} {m_size : Int32} {m_rows : Nat → Int64} {p1 : Int32} (h_a0 : zc N h (a + 0) (.inr (9, [.int m_thrown, .ref (zo w + (a + 1)), .ref (zo w + (a + 2)), .ref (zo w + (a + 3)), .int m_now, .int m_undoable, .ref (zo w + (a + 4)), .int m_bytes, .int m_errorAt, .int m_size, .int m_next, .int m_error, .int m_place, .int m_began, .int m_nested, .int m_once, .ref (zo w + (a + 5))]))) (h_a1 : zc N h (a + 1) (.inl (w.2.2.1 1, 22500, .inr (.inl m_rows)))) {r : Int64} (hf : f_X9_firstOf m_now m_rows p1 = some r) : zM w yX9_firstOf cX9_firstOf 5 (some .long) (zr 2 59) false N N h [.ref (zo w + a), .int p1] (some (.long r)) h := by
  unfold f_X9_firstOf at hf
  refine zM_of (by decide) rfl (fun X C _ => ?_)
  refine z_pick (lv' := [(0, .ref (zo w + a)), (1, .int p1)]) [0, 1] rfl ?_
  refine z_lconst (pc' := 1) C dX9_firstOf_0 zl_0 rfl ?_
  refine z_lstore_n (pc' := 2) C [(2, .long (0 : Int64)), (0, .ref (zo w + a)), (1, .int p1)] dX9_firstOf_1 rfl rfl rfl rfl ?_
  refine z_iconst (pc' := 3) C dX9_firstOf_2 zk_iconst_0 rfl ?_
  refine z_istore (pc' := 5) C [(4, .int (0 : Int32)), (2, .long (0 : Int64)), (0, .ref (zo w + a)), (1, .int p1)] dX9_firstOf_3 rfl rfl rfl ?_
  refine z_pick (lv' := [(0, .ref (zo w + a)), (1, .int p1), (2, .long (0 : Int64)), (4, .int (0 : Int32))]) [2, 3, 1, 0] rfl ?_
  exact w_X9_firstOf_5 C h_a0 h_a1  FU hf
set_option maxRecDepth 20000 in
theorem w_X9_presentOf_5 {X : zC} {w : zV} {N : Nat} {h : zH} {a : Nat} {m_thrown : Int32} {m_next : Int32} {m_error : Int32} {m_place : Int32} {m_began : Int32} {m_nested : Int32} {m_once : Int32} {m_now : Int32} {m_undoable : Int32} {m_bytes : Int32} {m_errorAt : Int32} {m_size : Int32} {m_rows : Nat → Int64} (C : zK X w RX9 cX9_presentOf 5 (some .long) (zr 5 167)) (h_a0 : zc N h (a + 0) (.inr (9, [.int m_thrown, .ref (zo w + (a + 1)), .ref (zo w + (a + 2)), .ref (zo w + (a + 3)), .int m_now, .int m_undoable, .ref (zo w + (a + 4)), .int m_bytes, .int m_errorAt, .int m_size, .int m_next, .int m_error, .int m_place, .int m_began, .int m_nested, .int m_once, .ref (zo w + (a + 5))]))) (h_a1 : zc N h (a + 1) (.inl (w.2.2.1 1, 22500, .inr (.inl m_rows)))) (n_a5 : a + 5 < N) {r : Int64 × (Nat → Int64)} (n : Nat) : ∀ {m_pile : Nat → Int64} {x1 : Int32} {x2 : Int64} {x4 : Int32}, f_X9_presentOf_5  n m_now m_rows m_pile x1 x2 x4 = some r → zZ X w (zQ X w (zr 5 167) (some (.long r.1)) false N (zu h a [(5, .inl (w.2.2.1 1, 128, .inr (.inl r.2)))])) 0 0 false N (zu h a [(5, .inl (w.2.2.1 1, 128, .inr (.inl m_pile)))]) 5 [(0, .ref (zo w + a)), (1, .int x1), (2, .long x2), (4, .int x4)] [] := by
  induction n with
  | zero =>
    intro m_pile x1 x2 x4 hf
    have hf : (none : Option (Int64 × (Nat → Int64))) = some r := hf
    cases hf
  | succ z ih =>
    intro m_pile x1 x2 x4 hf
    rw [f_X9_presentOf_5] at hf
    refine z_iload (pc' := 7) C 3 dX9_presentOf_5 rfl rfl ?_
    refine z_i2l (pc' := 8) C dX9_presentOf_7 rfl ?_
    refine z_aload_n (pc' := 9) C 0 dX9_presentOf_8 rfl rfl rfl ?_
    refine z_aload_n (pc' := 10) C 0 dX9_presentOf_9 rfl rfl rfl ?_
    refine z_iload_n (pc' := 11) C 1 dX9_presentOf_10 rfl rfl rfl ?_
    refine z_cV (pc' := 14) C hf (As := [.int x1]) (fun hq => c_X9_at (a := a)  hq) (fun _ => (zu h a [(5, .inl (w.2.2.1 1, 128, .inr (.inl m_pile)))])) (fun q_11 => [.int q_11, .ref (zo w + a), .long (x4).toInt64]) (fun _ => rfl) (fun _ => rfl) zy_X9_at zw_1381 zw_1383 zv_47 (ci := 9) rfl (zc_o (o := 0) h_a0 rfl) ⟨rfl, rfl⟩ rfl rfl rfl rfl rfl dX9_presentOf_11 rfl (fun q_11 hf => ?_)
    refine z_bipush (pc' := 16) C dX9_presentOf_14 zk_bipush_7 rfl ?_
    refine z_iadd (pc' := 17) C dX9_presentOf_16 rfl ?_
    refine z_cV (pc' := 20) C hf (As := [.int (q_11 + (7 : Int32))]) (fun hq => c_X9_get (a := a) (zc_o (o := 0) h_a0 rfl) (zc_o (o := 1) h_a1 rfl) hq) (fun _ => (zu h a [(5, .inl (w.2.2.1 1, 128, .inr (.inl m_pile)))])) (fun q_17 => [.long q_17, .long (x4).toInt64]) (fun _ => rfl) (fun _ => rfl) zy_X9_get zw_1349 zw_1351 zv_43 (ci := 9) rfl (zc_o (o := 0) h_a0 rfl) ⟨rfl, rfl⟩ rfl rfl rfl rfl rfl dX9_presentOf_17 rfl (fun q_17 hf => ?_)
    refine z_lcmp_ge (pc' := 24) C 47 hf dX9_presentOf_20 rfl dX9_presentOf_21 rfl rfl (fun g_20 hf => ?_) (fun g_20 hf => ?_)
    · refine z_lload_n (pc' := 48) C 2 dX9_presentOf_47 rfl rfl rfl ?_
      cases hf
      exact z_lret C rfl rfl dX9_presentOf_48
    · refine z_lload_n (pc' := 25) C 2 dX9_presentOf_24 rfl rfl rfl ?_
      refine z_aload_n (pc' := 26) C 0 dX9_presentOf_25 rfl rfl rfl ?_
      refine z_iload_n (pc' := 27) C 1 dX9_presentOf_26 rfl rfl rfl ?_
      refine z_iload (pc' := 29) C 3 dX9_presentOf_27 rfl rfl ?_
      refine z_aload_n (pc' := 30) C 0 dX9_presentOf_29 rfl rfl rfl ?_
      refine z_iload_n (pc' := 31) C 1 dX9_presentOf_30 rfl rfl rfl ?_
      refine z_iload (pc' := 33) C 3 dX9_presentOf_31 rfl rfl ?_
      refine z_cV (pc' := 36) C hf (As := [.int x1, .int x4]) (fun hq => c_X9_quantityOf (a := a) (zc_o (o := 0) h_a0 rfl) (zc_o (o := 1) h_a1 rfl) hq) (fun _ => (zu h a [(5, .inl (w.2.2.1 1, 128, .inr (.inl m_pile)))])) (fun q_33 => [.long q_33, .int x4, .int x1, .ref (zo w + a), .long x2]) (fun _ => rfl) (fun _ => rfl) zy_X9_quantityOf zw_1397 zw_1399 zv_49 (ci := 9) rfl (zc_o (o := 0) h_a0 rfl) ⟨rfl, rfl⟩ rfl rfl rfl rfl rfl dX9_presentOf_33 rfl (fun q_33 hf => ?_)
      refine z_cV (pc' := 39) C hf (As := [.int x1, .int x4, .long q_33]) (fun hq => c_X9_fullBy (a := a) (zc_o (o := 0) h_a0 rfl) (zc_o (o := 1) h_a1 rfl) (zc_i (o := 5) n_a5 rfl) hq) (fun q_36 => (zu h a [(5, .inl (w.2.2.1 1, 128, .inr (.inl q_36.2)))])) (fun q_36 => [.long q_36.1, .long x2]) (fun _ => zu_sh (d := 0) rfl rfl) (fun _ => rfl) zy_X9_fullBy zw_1437 zw_1439 zv_55 (ci := 9) rfl (zc_o (o := 0) h_a0 rfl) ⟨rfl, rfl⟩ rfl rfl rfl rfl rfl dX9_presentOf_36 rfl (fun q_36 hf => ?_)
      refine z_ladd (pc' := 40) C dX9_presentOf_39 rfl ?_
      refine z_lstore_n (pc' := 41) C [(2, .long (x2 + q_36.1)), (0, .ref (zo w + a)), (1, .int x1), (4, .int x4)] dX9_presentOf_40 rfl rfl rfl rfl ?_
      refine z_iinc (pc' := 44) C 3 [(4, .int (x4 + (1 : Int32))), (2, .long (x2 + q_36.1)), (0, .ref (zo w + a)), (1, .int x1)] dX9_presentOf_41 rfl zk_iconst_1 rfl rfl rfl ?_
      refine z_goto C 5 dX9_presentOf_44 rfl ?_
      refine z_pick (lv' := [(0, .ref (zo w + a)), (1, .int x1), (2, .long (x2 + q_36.1)), (4, .int (x4 + (1 : Int32)))]) [2, 3, 1, 0] rfl ?_
      exact ih hf
set_option maxRecDepth 20000 in
theorem c_X9_presentOf {w : zV} {N : Nat} {h : zH} {a : Nat} {m_thrown : Int32} {m_next : Int32} {m_error : Int32} {m_place : Int32} {m_began : Int32} {m_nested : Int32} {m_once : Int32} {m_now : Int32} {m_undoable : Int32} {m_bytes : Int32} {m_errorAt : Int32} {m_size : Int32} {m_rows : Nat → Int64} {m_pile : Nat → Int64} {p1 : Int32} (h_a0 : zc N h (a + 0) (.inr (9, [.int m_thrown, .ref (zo w + (a + 1)), .ref (zo w + (a + 2)), .ref (zo w + (a + 3)), .int m_now, .int m_undoable, .ref (zo w + (a + 4)), .int m_bytes, .int m_errorAt, .int m_size, .int m_next, .int m_error, .int m_place, .int m_began, .int m_nested, .int m_once, .ref (zo w + (a + 5))]))) (h_a1 : zc N h (a + 1) (.inl (w.2.2.1 1, 22500, .inr (.inl m_rows)))) (h_a5 : zc N h (a + 5) (.inl (w.2.2.1 1, 128, .inr (.inl m_pile)))) {r : Int64 × (Nat → Int64)} (hf : f_X9_presentOf m_now m_rows m_pile p1 = some r) : zM w yX9_presentOf cX9_presentOf 5 (some .long) (zr 5 167) false N N h [.ref (zo w + a), .int p1] (some (.long r.1)) (zu h a [(5, .inl (w.2.2.1 1, 128, .inr (.inl r.2)))]) := by
  unfold f_X9_presentOf at hf
  refine zM_of (by decide) rfl (fun X C _ => ?_)
  refine z_eq (h' := (zu h a [(5, .inl (w.2.2.1 1, 128, .inr (.inl m_pile)))])) (zu_s h_a5 zu_0).symm ?_
  have n_a5 := h_a5.1
  refine z_pick (lv' := [(0, .ref (zo w + a)), (1, .int p1)]) [0, 1] rfl ?_
  refine z_lconst (pc' := 1) C dX9_presentOf_0 zl_0 rfl ?_
  refine z_lstore_n (pc' := 2) C [(2, .long (0 : Int64)), (0, .ref (zo w + a)), (1, .int p1)] dX9_presentOf_1 rfl rfl rfl rfl ?_
  refine z_iconst (pc' := 3) C dX9_presentOf_2 zk_iconst_0 rfl ?_
  refine z_istore (pc' := 5) C [(4, .int (0 : Int32)), (2, .long (0 : Int64)), (0, .ref (zo w + a)), (1, .int p1)] dX9_presentOf_3 rfl rfl rfl ?_
  refine z_pick (lv' := [(0, .ref (zo w + a)), (1, .int p1), (2, .long (0 : Int64)), (4, .int (0 : Int32))]) [2, 3, 1, 0] rfl ?_
  exact w_X9_presentOf_5 C h_a0 h_a1 n_a5  FU hf
set_option maxRecDepth 20000 in
theorem w_X9_grossOf_5 {X : zC} {w : zV} {N : Nat} {h : zH} {a : Nat} {m_thrown : Int32} {m_next : Int32} {m_error : Int32} {m_place : Int32} {m_began : Int32} {m_nested : Int32} {m_once : Int32} {m_now : Int32} {m_undoable : Int32} {m_bytes : Int32} {m_errorAt : Int32} {m_size : Int32} {m_rows : Nat → Int64} (C : zK X w RX9 cX9_grossOf 5 (some .long) (zr 6 197)) (h_a0 : zc N h (a + 0) (.inr (9, [.int m_thrown, .ref (zo w + (a + 1)), .ref (zo w + (a + 2)), .ref (zo w + (a + 3)), .int m_now, .int m_undoable, .ref (zo w + (a + 4)), .int m_bytes, .int m_errorAt, .int m_size, .int m_next, .int m_error, .int m_place, .int m_began, .int m_nested, .int m_once, .ref (zo w + (a + 5))]))) (h_a1 : zc N h (a + 1) (.inl (w.2.2.1 1, 22500, .inr (.inl m_rows)))) (n_a5 : a + 5 < N) {r : Int64 × (Nat → Int64)} (n : Nat) : ∀ {m_pile : Nat → Int64} {x1 : Int32} {x2 : Int64} {x4 : Int32}, f_X9_grossOf_5  n m_now m_rows m_pile x1 x2 x4 = some r → zZ X w (zQ X w (zr 6 197) (some (.long r.1)) false N (zu h a [(5, .inl (w.2.2.1 1, 128, .inr (.inl r.2)))])) 0 0 false N (zu h a [(5, .inl (w.2.2.1 1, 128, .inr (.inl m_pile)))]) 5 [(0, .ref (zo w + a)), (1, .int x1), (2, .long x2), (4, .int x4)] [] := by
  induction n with
  | zero =>
    intro m_pile x1 x2 x4 hf
    have hf : (none : Option (Int64 × (Nat → Int64))) = some r := hf
    cases hf
  | succ z ih =>
    intro m_pile x1 x2 x4 hf
    rw [f_X9_grossOf_5] at hf
    refine z_iload (pc' := 7) C 3 dX9_grossOf_5 rfl rfl ?_
    refine z_i2l (pc' := 8) C dX9_grossOf_7 rfl ?_
    refine z_aload_n (pc' := 9) C 0 dX9_grossOf_8 rfl rfl rfl ?_
    refine z_aload_n (pc' := 10) C 0 dX9_grossOf_9 rfl rfl rfl ?_
    refine z_iload_n (pc' := 11) C 1 dX9_grossOf_10 rfl rfl rfl ?_
    refine z_cV (pc' := 14) C hf (As := [.int x1]) (fun hq => c_X9_at (a := a)  hq) (fun _ => (zu h a [(5, .inl (w.2.2.1 1, 128, .inr (.inl m_pile)))])) (fun q_11 => [.int q_11, .ref (zo w + a), .long (x4).toInt64]) (fun _ => rfl) (fun _ => rfl) zy_X9_at zw_1381 zw_1383 zv_47 (ci := 9) rfl (zc_o (o := 0) h_a0 rfl) ⟨rfl, rfl⟩ rfl rfl rfl rfl rfl dX9_grossOf_11 rfl (fun q_11 hf => ?_)
    refine z_bipush (pc' := 16) C dX9_grossOf_14 zk_bipush_7 rfl ?_
    refine z_iadd (pc' := 17) C dX9_grossOf_16 rfl ?_
    refine z_cV (pc' := 20) C hf (As := [.int (q_11 + (7 : Int32))]) (fun hq => c_X9_get (a := a) (zc_o (o := 0) h_a0 rfl) (zc_o (o := 1) h_a1 rfl) hq) (fun _ => (zu h a [(5, .inl (w.2.2.1 1, 128, .inr (.inl m_pile)))])) (fun q_17 => [.long q_17, .long (x4).toInt64]) (fun _ => rfl) (fun _ => rfl) zy_X9_get zw_1349 zw_1351 zv_43 (ci := 9) rfl (zc_o (o := 0) h_a0 rfl) ⟨rfl, rfl⟩ rfl rfl rfl rfl rfl dX9_grossOf_17 rfl (fun q_17 hf => ?_)
    refine z_lcmp_ge (pc' := 24) C 40 hf dX9_grossOf_20 rfl dX9_grossOf_21 rfl rfl (fun g_20 hf => ?_) (fun g_20 hf => ?_)
    · refine z_lload_n (pc' := 41) C 2 dX9_grossOf_40 rfl rfl rfl ?_
      cases hf
      exact z_lret C rfl rfl dX9_grossOf_41
    · refine z_lload_n (pc' := 25) C 2 dX9_grossOf_24 rfl rfl rfl ?_
      refine z_aload_n (pc' := 26) C 0 dX9_grossOf_25 rfl rfl rfl ?_
      refine z_iload_n (pc' := 27) C 1 dX9_grossOf_26 rfl rfl rfl ?_
      refine z_iload (pc' := 29) C 3 dX9_grossOf_27 rfl rfl ?_
      refine z_cV (pc' := 32) C hf (As := [.int x1, .int x4]) (fun hq => c_X9_valueOf (a := a) (zc_o (o := 0) h_a0 rfl) (zc_o (o := 1) h_a1 rfl) (zc_i (o := 5) n_a5 rfl) hq) (fun q_29 => (zu h a [(5, .inl (w.2.2.1 1, 128, .inr (.inl q_29.2)))])) (fun q_29 => [.long q_29.1, .long x2]) (fun _ => zu_sh (d := 0) rfl rfl) (fun _ => rfl) zy_X9_valueOf zw_1433 zw_1435 zv_54 (ci := 9) rfl (zc_o (o := 0) h_a0 rfl) ⟨rfl, rfl⟩ rfl rfl rfl rfl rfl dX9_grossOf_29 rfl (fun q_29 hf => ?_)
      refine z_ladd (pc' := 33) C dX9_grossOf_32 rfl ?_
      refine z_lstore_n (pc' := 34) C [(2, .long (x2 + q_29.1)), (0, .ref (zo w + a)), (1, .int x1), (4, .int x4)] dX9_grossOf_33 rfl rfl rfl rfl ?_
      refine z_iinc (pc' := 37) C 3 [(4, .int (x4 + (1 : Int32))), (2, .long (x2 + q_29.1)), (0, .ref (zo w + a)), (1, .int x1)] dX9_grossOf_34 rfl zk_iconst_1 rfl rfl rfl ?_
      refine z_goto C 5 dX9_grossOf_37 rfl ?_
      refine z_pick (lv' := [(0, .ref (zo w + a)), (1, .int x1), (2, .long (x2 + q_29.1)), (4, .int (x4 + (1 : Int32)))]) [2, 3, 1, 0] rfl ?_
      exact ih hf
set_option maxRecDepth 20000 in
theorem c_X9_grossOf {w : zV} {N : Nat} {h : zH} {a : Nat} {m_thrown : Int32} {m_next : Int32} {m_error : Int32} {m_place : Int32} {m_began : Int32} {m_nested : Int32} {m_once : Int32} {m_now : Int32} {m_undoable : Int32} {m_bytes : Int32} {m_errorAt : Int32} {m_size : Int32} {m_rows : Nat → Int64} {m_pile : Nat → Int64} {p1 : Int32} (h_a0 : zc N h (a + 0) (.inr (9, [.int m_thrown, .ref (zo w + (a + 1)), .ref (zo w + (a + 2)), .ref (zo w + (a + 3)), .int m_now, .int m_undoable, .ref (zo w + (a + 4)), .int m_bytes, .int m_errorAt, .int m_size, .int m_next, .int m_error, .int m_place, .int m_began, .int m_nested, .int m_once, .ref (zo w + (a + 5))]))) (h_a1 : zc N h (a + 1) (.inl (w.2.2.1 1, 22500, .inr (.inl m_rows)))) (h_a5 : zc N h (a + 5) (.inl (w.2.2.1 1, 128, .inr (.inl m_pile)))) {r : Int64 × (Nat → Int64)} (hf : f_X9_grossOf m_now m_rows m_pile p1 = some r) : zM w yX9_grossOf cX9_grossOf 5 (some .long) (zr 6 197) false N N h [.ref (zo w + a), .int p1] (some (.long r.1)) (zu h a [(5, .inl (w.2.2.1 1, 128, .inr (.inl r.2)))]) := by
  unfold f_X9_grossOf at hf
  refine zM_of (by decide) rfl (fun X C _ => ?_)
  refine z_eq (h' := (zu h a [(5, .inl (w.2.2.1 1, 128, .inr (.inl m_pile)))])) (zu_s h_a5 zu_0).symm ?_
  have n_a5 := h_a5.1
  refine z_pick (lv' := [(0, .ref (zo w + a)), (1, .int p1)]) [0, 1] rfl ?_
  refine z_lconst (pc' := 1) C dX9_grossOf_0 zl_0 rfl ?_
  refine z_lstore_n (pc' := 2) C [(2, .long (0 : Int64)), (0, .ref (zo w + a)), (1, .int p1)] dX9_grossOf_1 rfl rfl rfl rfl ?_
  refine z_iconst (pc' := 3) C dX9_grossOf_2 zk_iconst_0 rfl ?_
  refine z_istore (pc' := 5) C [(4, .int (0 : Int32)), (2, .long (0 : Int64)), (0, .ref (zo w + a)), (1, .int p1)] dX9_grossOf_3 rfl rfl rfl ?_
  refine z_pick (lv' := [(0, .ref (zo w + a)), (1, .int p1), (2, .long (0 : Int64)), (4, .int (0 : Int32))]) [2, 3, 1, 0] rfl ?_
  exact w_X9_grossOf_5 C h_a0 h_a1 n_a5  FU hf
set_option maxRecDepth 20000 in
theorem c_X9_heldOf {w : zV} {N : Nat} {h : zH} {a : Nat} {m_thrown : Int32} {m_next : Int32} {m_error : Int32} {m_place : Int32} {m_began : Int32} {m_nested : Int32} {m_once : Int32} {m_now : Int32} {m_undoable : Int32} {m_bytes : Int32} {m_errorAt : Int32} {m_size : Int32} {m_rows : Nat → Int64} {m_pile : Nat → Int64} {p1 : Int32} (h_a0 : zc N h (a + 0) (.inr (9, [.int m_thrown, .ref (zo w + (a + 1)), .ref (zo w + (a + 2)), .ref (zo w + (a + 3)), .int m_now, .int m_undoable, .ref (zo w + (a + 4)), .int m_bytes, .int m_errorAt, .int m_size, .int m_next, .int m_error, .int m_place, .int m_began, .int m_nested, .int m_once, .ref (zo w + (a + 5))]))) (h_a1 : zc N h (a + 1) (.inl (w.2.2.1 1, 22500, .inr (.inl m_rows)))) (h_a5 : zc N h (a + 5) (.inl (w.2.2.1 1, 128, .inr (.inl m_pile)))) {r : Int64 × (Nat → Int64)} (hf : f_X9_heldOf m_now m_rows m_pile p1 = some r) : zM w yX9_heldOf cX9_heldOf 4 (some .long) (zr 7 229) false N N h [.ref (zo w + a), .int p1] (some (.long r.1)) (zu h a [(5, .inl (w.2.2.1 1, 128, .inr (.inl r.2)))]) := by
  unfold f_X9_heldOf at hf
  refine zM_of (by decide) rfl (fun X C _ => ?_)
  refine z_eq (h' := (zu h a [(5, .inl (w.2.2.1 1, 128, .inr (.inl m_pile)))])) (zu_s h_a5 zu_0).symm ?_
  have n_a5 := h_a5.1
  refine z_pick (lv' := [(0, .ref (zo w + a)), (1, .int p1)]) [0, 1] rfl ?_
  refine z_aload_n (pc' := 1) C 0 dX9_heldOf_0 rfl rfl rfl ?_
  refine z_iload_n (pc' := 2) C 1 dX9_heldOf_1 rfl rfl rfl ?_
  refine z_cV (pc' := 5) C hf (As := [.int p1]) (fun hq => c_X9_grossOf (a := a) (zc_o (o := 0) h_a0 rfl) (zc_o (o := 1) h_a1 rfl) (zc_i (o := 5) n_a5 rfl) hq) (fun q_2 => (zu h a [(5, .inl (w.2.2.1 1, 128, .inr (.inl q_2.2)))])) (fun q_2 => [.long q_2.1]) (fun _ => zu_sh (d := 0) rfl rfl) (fun _ => rfl) zy_X9_grossOf zw_1461 zw_1463 zv_58 (ci := 9) rfl (zc_o (o := 0) h_a0 rfl) ⟨rfl, rfl⟩ rfl rfl rfl rfl rfl dX9_heldOf_2 rfl (fun q_2 hf => ?_)
  refine z_aload_n (pc' := 6) C 0 dX9_heldOf_5 rfl rfl rfl ?_
  refine z_aload_n (pc' := 7) C 0 dX9_heldOf_6 rfl rfl rfl ?_
  refine z_iload_n (pc' := 8) C 1 dX9_heldOf_7 rfl rfl rfl ?_
  refine z_cV (pc' := 11) C hf (As := [.int p1]) (fun hq => c_X9_at (a := a)  hq) (fun _ => (zu h a [(5, .inl (w.2.2.1 1, 128, .inr (.inl q_2.2)))])) (fun q_8 => [.int q_8, .ref (zo w + a), .long q_2.1]) (fun _ => rfl) (fun _ => rfl) zy_X9_at zw_1381 zw_1383 zv_47 (ci := 9) rfl (zc_o (o := 0) h_a0 rfl) ⟨rfl, rfl⟩ rfl rfl rfl rfl rfl dX9_heldOf_8 rfl (fun q_8 hf => ?_)
  refine z_iconst (pc' := 12) C dX9_heldOf_11 zk_iconst_1 rfl ?_
  refine z_iadd (pc' := 13) C dX9_heldOf_12 rfl ?_
  refine z_cV (pc' := 16) C hf (As := [.int (q_8 + (1 : Int32))]) (fun hq => c_X9_get (a := a) (zc_o (o := 0) h_a0 rfl) (zc_o (o := 1) h_a1 rfl) hq) (fun _ => (zu h a [(5, .inl (w.2.2.1 1, 128, .inr (.inl q_2.2)))])) (fun q_13 => [.long q_13, .long q_2.1]) (fun _ => rfl) (fun _ => rfl) zy_X9_get zw_1349 zw_1351 zv_43 (ci := 9) rfl (zc_o (o := 0) h_a0 rfl) ⟨rfl, rfl⟩ rfl rfl rfl rfl rfl dX9_heldOf_13 rfl (fun q_13 hf => ?_)
  refine z_lmul (pc' := 17) C dX9_heldOf_16 rfl ?_
  refine z_ldc2 (pc' := 20) C zw_1417 dX9_heldOf_17 rfl ?_
  refine z_ldiv (pc' := 21) C dX9_heldOf_20 (by decide) rfl ?_
  refine z_aload_n (pc' := 22) C 0 dX9_heldOf_21 rfl rfl rfl ?_
  refine z_iload_n (pc' := 23) C 1 dX9_heldOf_22 rfl rfl rfl ?_
  refine z_cV (pc' := 26) C hf (As := [.int p1]) (fun hq => c_X9_firstOf (a := a) (zc_o (o := 0) h_a0 rfl) (zc_o (o := 1) h_a1 rfl) hq) (fun _ => (zu h a [(5, .inl (w.2.2.1 1, 128, .inr (.inl q_2.2)))])) (fun q_23 => [.long q_23, .long ((q_2.1 * q_13) / (100 : Int64))]) (fun _ => rfl) (fun _ => rfl) zy_X9_firstOf zw_1445 zw_1447 zv_56 (ci := 9) rfl (zc_o (o := 0) h_a0 rfl) ⟨rfl, rfl⟩ rfl rfl rfl rfl rfl dX9_heldOf_23 rfl (fun q_23 hf => ?_)
  refine z_aload_n (pc' := 27) C 0 dX9_heldOf_26 rfl rfl rfl ?_
  refine z_aload_n (pc' := 28) C 0 dX9_heldOf_27 rfl rfl rfl ?_
  refine z_iload_n (pc' := 29) C 1 dX9_heldOf_28 rfl rfl rfl ?_
  refine z_cV (pc' := 32) C hf (As := [.int p1]) (fun hq => c_X9_at (a := a)  hq) (fun _ => (zu h a [(5, .inl (w.2.2.1 1, 128, .inr (.inl q_2.2)))])) (fun q_29 => [.int q_29, .ref (zo w + a), .long q_23, .long ((q_2.1 * q_13) / (100 : Int64))]) (fun _ => rfl) (fun _ => rfl) zy_X9_at zw_1381 zw_1383 zv_47 (ci := 9) rfl (zc_o (o := 0) h_a0 rfl) ⟨rfl, rfl⟩ rfl rfl rfl rfl rfl dX9_heldOf_29 rfl (fun q_29 hf => ?_)
  refine z_iconst (pc' := 33) C dX9_heldOf_32 zk_iconst_2 rfl ?_
  refine z_iadd (pc' := 34) C dX9_heldOf_33 rfl ?_
  refine z_cV (pc' := 37) C hf (As := [.int (q_29 + (2 : Int32))]) (fun hq => c_X9_get (a := a) (zc_o (o := 0) h_a0 rfl) (zc_o (o := 1) h_a1 rfl) hq) (fun _ => (zu h a [(5, .inl (w.2.2.1 1, 128, .inr (.inl q_2.2)))])) (fun q_34 => [.long q_34, .long q_23, .long ((q_2.1 * q_13) / (100 : Int64))]) (fun _ => rfl) (fun _ => rfl) zy_X9_get zw_1349 zw_1351 zv_43 (ci := 9) rfl (zc_o (o := 0) h_a0 rfl) ⟨rfl, rfl⟩ rfl rfl rfl rfl rfl dX9_heldOf_34 rfl (fun q_34 hf => ?_)
  refine z_lmul (pc' := 38) C dX9_heldOf_37 rfl ?_
  refine z_ldc2 (pc' := 41) C zw_1417 dX9_heldOf_38 rfl ?_
  refine z_ldiv (pc' := 42) C dX9_heldOf_41 (by decide) rfl ?_
  refine z_lmin (pc' := 45) C zw_1473 rfl rfl dX9_heldOf_42 rfl ?_
  refine z_lstore_n (pc' := 46) C [(2, .long (if ((q_23 * q_34) / (100 : Int64)) < ((q_2.1 * q_13) / (100 : Int64)) then ((q_23 * q_34) / (100 : Int64)) else ((q_2.1 * q_13) / (100 : Int64)))), (0, .ref (zo w + a)), (1, .int p1)] dX9_heldOf_45 rfl rfl rfl rfl ?_
  refine z_aload_n (pc' := 47) C 1 dX9_heldOf_46 rfl rfl rfl ?_
  refine z_aload_n (pc' := 48) C 1 dX9_heldOf_47 rfl rfl rfl ?_
  refine z_iload_n (pc' := 49) C 2 dX9_heldOf_48 rfl rfl rfl ?_
  refine z_cV (pc' := 52) C hf (As := [.int p1]) (fun hq => c_X9_at (a := a)  hq) (fun _ => (zu h a [(5, .inl (w.2.2.1 1, 128, .inr (.inl q_2.2)))])) (fun q_49 => [.int q_49, .ref (zo w + a)]) (fun _ => rfl) (fun _ => rfl) zy_X9_at zw_1381 zw_1383 zv_47 (ci := 9) rfl (zc_o (o := 0) h_a0 rfl) ⟨rfl, rfl⟩ rfl rfl rfl rfl rfl dX9_heldOf_49 rfl (fun q_49 hf => ?_)
  refine z_bipush (pc' := 54) C dX9_heldOf_52 zk_bipush_6 rfl ?_
  refine z_iadd (pc' := 55) C dX9_heldOf_54 rfl ?_
  refine z_cV (pc' := 58) C hf (As := [.int (q_49 + (6 : Int32))]) (fun hq => c_X9_get (a := a) (zc_o (o := 0) h_a0 rfl) (zc_o (o := 1) h_a1 rfl) hq) (fun _ => (zu h a [(5, .inl (w.2.2.1 1, 128, .inr (.inl q_2.2)))])) (fun q_55 => [.long q_55]) (fun _ => rfl) (fun _ => rfl) zy_X9_get zw_1349 zw_1351 zv_43 (ci := 9) rfl (zc_o (o := 0) h_a0 rfl) ⟨rfl, rfl⟩ rfl rfl rfl rfl rfl dX9_heldOf_55 rfl (fun q_55 hf => ?_)
  refine z_lconst (pc' := 59) C dX9_heldOf_58 zl_0 rfl ?_
  refine z_lcmp_ne (pc' := 63) C 67 hf dX9_heldOf_59 rfl dX9_heldOf_60 rfl rfl (fun g_59 hf => ?_) (fun g_59 hf => ?_)
  · refine z_aload_n (pc' := 68) C 1 dX9_heldOf_67 rfl rfl rfl ?_
    refine z_aload_n (pc' := 69) C 1 dX9_heldOf_68 rfl rfl rfl ?_
    refine z_iload_n (pc' := 70) C 2 dX9_heldOf_69 rfl rfl rfl ?_
    refine z_cV (pc' := 73) C hf (As := [.int p1]) (fun hq => c_X9_at (a := a)  hq) (fun _ => (zu h a [(5, .inl (w.2.2.1 1, 128, .inr (.inl q_2.2)))])) (fun q_70 => [.int q_70, .ref (zo w + a)]) (fun _ => rfl) (fun _ => rfl) zy_X9_at zw_1381 zw_1383 zv_47 (ci := 9) rfl (zc_o (o := 0) h_a0 rfl) ⟨rfl, rfl⟩ rfl rfl rfl rfl rfl dX9_heldOf_70 rfl (fun q_70 hf => ?_)
    refine z_bipush (pc' := 75) C dX9_heldOf_73 zk_bipush_6 rfl ?_
    refine z_iadd (pc' := 76) C dX9_heldOf_75 rfl ?_
    refine z_cV (pc' := 79) C hf (As := [.int (q_70 + (6 : Int32))]) (fun hq => c_X9_get (a := a) (zc_o (o := 0) h_a0 rfl) (zc_o (o := 1) h_a1 rfl) hq) (fun _ => (zu h a [(5, .inl (w.2.2.1 1, 128, .inr (.inl q_2.2)))])) (fun q_76 => [.long q_76]) (fun _ => rfl) (fun _ => rfl) zy_X9_get zw_1349 zw_1351 zv_43 (ci := 9) rfl (zc_o (o := 0) h_a0 rfl) ⟨rfl, rfl⟩ rfl rfl rfl rfl rfl dX9_heldOf_76 rfl (fun q_76 hf => ?_)
    refine z_lconst (pc' := 80) C dX9_heldOf_79 zl_1 rfl ?_
    refine z_lcmp_ne (pc' := 84) C 92 hf dX9_heldOf_80 rfl dX9_heldOf_81 rfl rfl (fun g_80 hf => ?_) (fun g_80 hf => ?_)
    · refine z_lconst (pc' := 93) C dX9_heldOf_92 zl_0 rfl ?_
      cases hf
      exact z_lret C rfl rfl dX9_heldOf_93
    · refine z_lload_n (pc' := 85) C 0 dX9_heldOf_84 rfl rfl rfl ?_
      refine z_ldc2 (pc' := 88) C zw_1341 dX9_heldOf_85 rfl ?_
      refine z_ldiv (pc' := 89) C dX9_heldOf_88 (by decide) rfl ?_
      refine z_goto C 93 dX9_heldOf_89 rfl ?_
      cases hf
      exact z_lret C rfl rfl dX9_heldOf_93
  · refine z_lload_n (pc' := 64) C 0 dX9_heldOf_63 rfl rfl rfl ?_
    refine z_goto C 93 dX9_heldOf_64 rfl ?_
    cases hf
    exact z_lret C rfl rfl dX9_heldOf_93
set_option maxRecDepth 20000 in
theorem c_X9_firstSum {w : zV} {N : Nat} {h : zH} {a : Nat} {m_thrown : Int32} {m_next : Int32} {m_error : Int32} {m_place : Int32} {m_began : Int32} {m_nested : Int32} {m_once : Int32} {m_now : Int32} {m_undoable : Int32} {m_bytes : Int32} {m_errorAt : Int32} {m_size : Int32} {m_rows : Nat → Int64} {p1 : Int32} (h_a0 : zc N h (a + 0) (.inr (9, [.int m_thrown, .ref (zo w + (a + 1)), .ref (zo w + (a + 2)), .ref (zo w + (a + 3)), .int m_now, .int m_undoable, .ref (zo w + (a + 4)), .int m_bytes, .int m_errorAt, .int m_size, .int m_next, .int m_error, .int m_place, .int m_began, .int m_nested, .int m_once, .ref (zo w + (a + 5))]))) (h_a1 : zc N h (a + 1) (.inl (w.2.2.1 1, 22500, .inr (.inl m_rows)))) {r : Int64 × Int32} (hf : f_X9_firstSum m_thrown m_now m_rows p1 = some r) : zM w yX9_firstSum cX9_firstSum 2 (some .long) (zr 3 91) false N N h [.ref (zo w + a), .int p1] (some (.long r.1)) (zu h a [(0, .inr (9, [.int r.2, .ref (zo w + (a + 1)), .ref (zo w + (a + 2)), .ref (zo w + (a + 3)), .int m_now, .int m_undoable, .ref (zo w + (a + 4)), .int m_bytes, .int m_errorAt, .int m_size, .int m_next, .int m_error, .int m_place, .int m_began, .int m_nested, .int m_once, .ref (zo w + (a + 5))]))]) := by
  unfold f_X9_firstSum at hf
  refine zM_of (by decide) rfl (fun X C _ => ?_)
  refine z_eq (h' := (zu h a [(0, .inr (9, [.int m_thrown, .ref (zo w + (a + 1)), .ref (zo w + (a + 2)), .ref (zo w + (a + 3)), .int m_now, .int m_undoable, .ref (zo w + (a + 4)), .int m_bytes, .int m_errorAt, .int m_size, .int m_next, .int m_error, .int m_place, .int m_began, .int m_nested, .int m_once, .ref (zo w + (a + 5))]))])) (zu_s h_a0 zu_0).symm ?_
  have n_a0 := h_a0.1
  refine z_pick (lv' := [(0, .ref (zo w + a)), (1, .int p1)]) [0, 1] rfl ?_
  refine z_aload_n (pc' := 1) C 0 dX9_firstSum_0 rfl rfl rfl ?_
  refine z_iload_n (pc' := 2) C 1 dX9_firstSum_1 rfl rfl rfl ?_
  refine z_cV (pc' := 5) C hf (As := [.int p1]) (fun hq => c_X9_isContract (a := a) (zc_i (o := 0) n_a0 rfl) (zc_o (o := 1) h_a1 rfl) hq) (fun q_2 => (zu h a [(0, .inr (9, [.int q_2.2, .ref (zo w + (a + 1)), .ref (zo w + (a + 2)), .ref (zo w + (a + 3)), .int m_now, .int m_undoable, .ref (zo w + (a + 4)), .int m_bytes, .int m_errorAt, .int m_size, .int m_next, .int m_error, .int m_place, .int m_began, .int m_nested, .int m_once, .ref (zo w + (a + 5))]))])) (fun q_2 => [.int q_2.1]) (fun _ => zu_sh (d := 0) rfl rfl) (fun _ => rfl) zy_X9_isContract zw_1377 zw_1379 zv_46 (ci := 9) rfl (zc_i (o := 0) n_a0 rfl) ⟨rfl, rfl⟩ rfl rfl rfl rfl rfl dX9_firstSum_2 rfl (fun q_2 hf => ?_)
  refine z_if_eq (pc' := 8) C 16 hf dX9_firstSum_5 rfl rfl (fun g_5 hf => ?_) (fun g_5 hf => ?_)
  · refine z_lconst (pc' := 17) C dX9_firstSum_16 zl_0 rfl ?_
    cases hf
    exact z_lret C rfl rfl dX9_firstSum_17
  · refine z_aload_n (pc' := 9) C 0 dX9_firstSum_8 rfl rfl rfl ?_
    refine z_iload_n (pc' := 10) C 1 dX9_firstSum_9 rfl rfl rfl ?_
    refine z_cV (pc' := 13) C hf (As := [.int p1]) (fun hq => c_X9_firstOf (a := a) (zc_i (o := 0) n_a0 rfl) (zc_o (o := 1) h_a1 rfl) hq) (fun _ => (zu h a [(0, .inr (9, [.int q_2.2, .ref (zo w + (a + 1)), .ref (zo w + (a + 2)), .ref (zo w + (a + 3)), .int m_now, .int m_undoable, .ref (zo w + (a + 4)), .int m_bytes, .int m_errorAt, .int m_size, .int m_next, .int m_error, .int m_place, .int m_began, .int m_nested, .int m_once, .ref (zo w + (a + 5))]))])) (fun q_10 => [.long q_10]) (fun _ => rfl) (fun _ => rfl) zy_X9_firstOf zw_1445 zw_1447 zv_56 (ci := 9) rfl (zc_i (o := 0) n_a0 rfl) ⟨rfl, rfl⟩ rfl rfl rfl rfl rfl dX9_firstSum_10 rfl (fun q_10 hf => ?_)
    refine z_goto C 17 dX9_firstSum_13 rfl ?_
    cases hf
    exact z_lret C rfl rfl dX9_firstSum_17
set_option maxRecDepth 20000 in
theorem c_X9_presentSum {w : zV} {N : Nat} {h : zH} {a : Nat} {m_thrown : Int32} {m_next : Int32} {m_error : Int32} {m_place : Int32} {m_began : Int32} {m_nested : Int32} {m_once : Int32} {m_now : Int32} {m_undoable : Int32} {m_bytes : Int32} {m_errorAt : Int32} {m_size : Int32} {m_rows : Nat → Int64} {m_pile : Nat → Int64} {p1 : Int32} (h_a0 : zc N h (a + 0) (.inr (9, [.int m_thrown, .ref (zo w + (a + 1)), .ref (zo w + (a + 2)), .ref (zo w + (a + 3)), .int m_now, .int m_undoable, .ref (zo w + (a + 4)), .int m_bytes, .int m_errorAt, .int m_size, .int m_next, .int m_error, .int m_place, .int m_began, .int m_nested, .int m_once, .ref (zo w + (a + 5))]))) (h_a1 : zc N h (a + 1) (.inl (w.2.2.1 1, 22500, .inr (.inl m_rows)))) (h_a5 : zc N h (a + 5) (.inl (w.2.2.1 1, 128, .inr (.inl m_pile)))) {r : Int64 × Int32 × (Nat → Int64)} (hf : f_X9_presentSum m_thrown m_now m_rows m_pile p1 = some r) : zM w yX9_presentSum cX9_presentSum 2 (some .long) (zr 6 199) false N N h [.ref (zo w + a), .int p1] (some (.long r.1)) (zu h a [(0, .inr (9, [.int r.2.1, .ref (zo w + (a + 1)), .ref (zo w + (a + 2)), .ref (zo w + (a + 3)), .int m_now, .int m_undoable, .ref (zo w + (a + 4)), .int m_bytes, .int m_errorAt, .int m_size, .int m_next, .int m_error, .int m_place, .int m_began, .int m_nested, .int m_once, .ref (zo w + (a + 5))])), (5, .inl (w.2.2.1 1, 128, .inr (.inl r.2.2)))]) := by
  unfold f_X9_presentSum at hf
  refine zM_of (by decide) rfl (fun X C _ => ?_)
  refine z_eq (h' := (zu h a [(0, .inr (9, [.int m_thrown, .ref (zo w + (a + 1)), .ref (zo w + (a + 2)), .ref (zo w + (a + 3)), .int m_now, .int m_undoable, .ref (zo w + (a + 4)), .int m_bytes, .int m_errorAt, .int m_size, .int m_next, .int m_error, .int m_place, .int m_began, .int m_nested, .int m_once, .ref (zo w + (a + 5))])), (5, .inl (w.2.2.1 1, 128, .inr (.inl m_pile)))])) (zu_s h_a0 (zu_s h_a5 zu_0)).symm ?_
  have n_a0 := h_a0.1
  have n_a5 := h_a5.1
  refine z_pick (lv' := [(0, .ref (zo w + a)), (1, .int p1)]) [0, 1] rfl ?_
  refine z_aload_n (pc' := 1) C 0 dX9_presentSum_0 rfl rfl rfl ?_
  refine z_iload_n (pc' := 2) C 1 dX9_presentSum_1 rfl rfl rfl ?_
  refine z_cV (pc' := 5) C hf (As := [.int p1]) (fun hq => c_X9_isContract (a := a) (zc_i (o := 0) n_a0 rfl) (zc_o (o := 1) h_a1 rfl) hq) (fun q_2 => (zu h a [(0, .inr (9, [.int q_2.2, .ref (zo w + (a + 1)), .ref (zo w + (a + 2)), .ref (zo w + (a + 3)), .int m_now, .int m_undoable, .ref (zo w + (a + 4)), .int m_bytes, .int m_errorAt, .int m_size, .int m_next, .int m_error, .int m_place, .int m_began, .int m_nested, .int m_once, .ref (zo w + (a + 5))])), (5, .inl (w.2.2.1 1, 128, .inr (.inl m_pile)))])) (fun q_2 => [.int q_2.1]) (fun _ => zu_sh (d := 0) rfl rfl) (fun _ => rfl) zy_X9_isContract zw_1377 zw_1379 zv_46 (ci := 9) rfl (zc_i (o := 0) n_a0 rfl) ⟨rfl, rfl⟩ rfl rfl rfl rfl rfl dX9_presentSum_2 rfl (fun q_2 hf => ?_)
  refine z_if_eq (pc' := 8) C 16 hf dX9_presentSum_5 rfl rfl (fun g_5 hf => ?_) (fun g_5 hf => ?_)
  · refine z_lconst (pc' := 17) C dX9_presentSum_16 zl_0 rfl ?_
    cases hf
    exact z_lret C rfl rfl dX9_presentSum_17
  · refine z_aload_n (pc' := 9) C 0 dX9_presentSum_8 rfl rfl rfl ?_
    refine z_iload_n (pc' := 10) C 1 dX9_presentSum_9 rfl rfl rfl ?_
    refine z_cV (pc' := 13) C hf (As := [.int p1]) (fun hq => c_X9_presentOf (a := a) (zc_i (o := 0) n_a0 rfl) (zc_o (o := 1) h_a1 rfl) (zc_i (o := 5) n_a5 rfl) hq) (fun q_10 => (zu h a [(0, .inr (9, [.int q_2.2, .ref (zo w + (a + 1)), .ref (zo w + (a + 2)), .ref (zo w + (a + 3)), .int m_now, .int m_undoable, .ref (zo w + (a + 4)), .int m_bytes, .int m_errorAt, .int m_size, .int m_next, .int m_error, .int m_place, .int m_began, .int m_nested, .int m_once, .ref (zo w + (a + 5))])), (5, .inl (w.2.2.1 1, 128, .inr (.inl q_10.2)))])) (fun q_10 => [.long q_10.1]) (fun _ => zu_sh (d := 0) rfl rfl) (fun _ => rfl) zy_X9_presentOf zw_1453 zw_1455 zv_57 (ci := 9) rfl (zc_i (o := 0) n_a0 rfl) ⟨rfl, rfl⟩ rfl rfl rfl rfl rfl dX9_presentSum_10 rfl (fun q_10 hf => ?_)
    refine z_goto C 17 dX9_presentSum_13 rfl ?_
    cases hf
    exact z_lret C rfl rfl dX9_presentSum_17
set_option maxRecDepth 20000 in
theorem c_X9_grossValue {w : zV} {N : Nat} {h : zH} {a : Nat} {m_thrown : Int32} {m_next : Int32} {m_error : Int32} {m_place : Int32} {m_began : Int32} {m_nested : Int32} {m_once : Int32} {m_now : Int32} {m_undoable : Int32} {m_bytes : Int32} {m_errorAt : Int32} {m_size : Int32} {m_rows : Nat → Int64} {m_pile : Nat → Int64} {p1 : Int32} (h_a0 : zc N h (a + 0) (.inr (9, [.int m_thrown, .ref (zo w + (a + 1)), .ref (zo w + (a + 2)), .ref (zo w + (a + 3)), .int m_now, .int m_undoable, .ref (zo w + (a + 4)), .int m_bytes, .int m_errorAt, .int m_size, .int m_next, .int m_error, .int m_place, .int m_began, .int m_nested, .int m_once, .ref (zo w + (a + 5))]))) (h_a1 : zc N h (a + 1) (.inl (w.2.2.1 1, 22500, .inr (.inl m_rows)))) (h_a5 : zc N h (a + 5) (.inl (w.2.2.1 1, 128, .inr (.inl m_pile)))) {r : Int64 × Int32 × (Nat → Int64)} (hf : f_X9_grossValue m_thrown m_now m_rows m_pile p1 = some r) : zM w yX9_grossValue cX9_grossValue 2 (some .long) (zr 7 229) false N N h [.ref (zo w + a), .int p1] (some (.long r.1)) (zu h a [(0, .inr (9, [.int r.2.1, .ref (zo w + (a + 1)), .ref (zo w + (a + 2)), .ref (zo w + (a + 3)), .int m_now, .int m_undoable, .ref (zo w + (a + 4)), .int m_bytes, .int m_errorAt, .int m_size, .int m_next, .int m_error, .int m_place, .int m_began, .int m_nested, .int m_once, .ref (zo w + (a + 5))])), (5, .inl (w.2.2.1 1, 128, .inr (.inl r.2.2)))]) := by
  unfold f_X9_grossValue at hf
  refine zM_of (by decide) rfl (fun X C _ => ?_)
  refine z_eq (h' := (zu h a [(0, .inr (9, [.int m_thrown, .ref (zo w + (a + 1)), .ref (zo w + (a + 2)), .ref (zo w + (a + 3)), .int m_now, .int m_undoable, .ref (zo w + (a + 4)), .int m_bytes, .int m_errorAt, .int m_size, .int m_next, .int m_error, .int m_place, .int m_began, .int m_nested, .int m_once, .ref (zo w + (a + 5))])), (5, .inl (w.2.2.1 1, 128, .inr (.inl m_pile)))])) (zu_s h_a0 (zu_s h_a5 zu_0)).symm ?_
  have n_a0 := h_a0.1
  have n_a5 := h_a5.1
  refine z_pick (lv' := [(0, .ref (zo w + a)), (1, .int p1)]) [0, 1] rfl ?_
  refine z_aload_n (pc' := 1) C 0 dX9_grossValue_0 rfl rfl rfl ?_
  refine z_iload_n (pc' := 2) C 1 dX9_grossValue_1 rfl rfl rfl ?_
  refine z_cV (pc' := 5) C hf (As := [.int p1]) (fun hq => c_X9_isContract (a := a) (zc_i (o := 0) n_a0 rfl) (zc_o (o := 1) h_a1 rfl) hq) (fun q_2 => (zu h a [(0, .inr (9, [.int q_2.2, .ref (zo w + (a + 1)), .ref (zo w + (a + 2)), .ref (zo w + (a + 3)), .int m_now, .int m_undoable, .ref (zo w + (a + 4)), .int m_bytes, .int m_errorAt, .int m_size, .int m_next, .int m_error, .int m_place, .int m_began, .int m_nested, .int m_once, .ref (zo w + (a + 5))])), (5, .inl (w.2.2.1 1, 128, .inr (.inl m_pile)))])) (fun q_2 => [.int q_2.1]) (fun _ => zu_sh (d := 0) rfl rfl) (fun _ => rfl) zy_X9_isContract zw_1377 zw_1379 zv_46 (ci := 9) rfl (zc_i (o := 0) n_a0 rfl) ⟨rfl, rfl⟩ rfl rfl rfl rfl rfl dX9_grossValue_2 rfl (fun q_2 hf => ?_)
  refine z_if_eq (pc' := 8) C 16 hf dX9_grossValue_5 rfl rfl (fun g_5 hf => ?_) (fun g_5 hf => ?_)
  · refine z_lconst (pc' := 17) C dX9_grossValue_16 zl_0 rfl ?_
    cases hf
    exact z_lret C rfl rfl dX9_grossValue_17
  · refine z_aload_n (pc' := 9) C 0 dX9_grossValue_8 rfl rfl rfl ?_
    refine z_iload_n (pc' := 10) C 1 dX9_grossValue_9 rfl rfl rfl ?_
    refine z_cV (pc' := 13) C hf (As := [.int p1]) (fun hq => c_X9_grossOf (a := a) (zc_i (o := 0) n_a0 rfl) (zc_o (o := 1) h_a1 rfl) (zc_i (o := 5) n_a5 rfl) hq) (fun q_10 => (zu h a [(0, .inr (9, [.int q_2.2, .ref (zo w + (a + 1)), .ref (zo w + (a + 2)), .ref (zo w + (a + 3)), .int m_now, .int m_undoable, .ref (zo w + (a + 4)), .int m_bytes, .int m_errorAt, .int m_size, .int m_next, .int m_error, .int m_place, .int m_began, .int m_nested, .int m_once, .ref (zo w + (a + 5))])), (5, .inl (w.2.2.1 1, 128, .inr (.inl q_10.2)))])) (fun q_10 => [.long q_10.1]) (fun _ => zu_sh (d := 0) rfl rfl) (fun _ => rfl) zy_X9_grossOf zw_1461 zw_1463 zv_58 (ci := 9) rfl (zc_i (o := 0) n_a0 rfl) ⟨rfl, rfl⟩ rfl rfl rfl rfl rfl dX9_grossValue_10 rfl (fun q_10 hf => ?_)
    refine z_goto C 17 dX9_grossValue_13 rfl ?_
    cases hf
    exact z_lret C rfl rfl dX9_grossValue_17
set_option maxRecDepth 20000 in
theorem c_X9_retention {w : zV} {N : Nat} {h : zH} {a : Nat} {m_thrown : Int32} {m_next : Int32} {m_error : Int32} {m_place : Int32} {m_began : Int32} {m_nested : Int32} {m_once : Int32} {m_now : Int32} {m_undoable : Int32} {m_bytes : Int32} {m_errorAt : Int32} {m_size : Int32} {m_rows : Nat → Int64} {m_pile : Nat → Int64} {p1 : Int32} (h_a0 : zc N h (a + 0) (.inr (9, [.int m_thrown, .ref (zo w + (a + 1)), .ref (zo w + (a + 2)), .ref (zo w + (a + 3)), .int m_now, .int m_undoable, .ref (zo w + (a + 4)), .int m_bytes, .int m_errorAt, .int m_size, .int m_next, .int m_error, .int m_place, .int m_began, .int m_nested, .int m_once, .ref (zo w + (a + 5))]))) (h_a1 : zc N h (a + 1) (.inl (w.2.2.1 1, 22500, .inr (.inl m_rows)))) (h_a5 : zc N h (a + 5) (.inl (w.2.2.1 1, 128, .inr (.inl m_pile)))) {r : Int64 × Int32 × (Nat → Int64)} (hf : f_X9_retention m_thrown m_now m_rows m_pile p1 = some r) : zM w yX9_retention cX9_retention 2 (some .long) (zr 8 260) false N N h [.ref (zo w + a), .int p1] (some (.long r.1)) (zu h a [(0, .inr (9, [.int r.2.1, .ref (zo w + (a + 1)), .ref (zo w + (a + 2)), .ref (zo w + (a + 3)), .int m_now, .int m_undoable, .ref (zo w + (a + 4)), .int m_bytes, .int m_errorAt, .int m_size, .int m_next, .int m_error, .int m_place, .int m_began, .int m_nested, .int m_once, .ref (zo w + (a + 5))])), (5, .inl (w.2.2.1 1, 128, .inr (.inl r.2.2)))]) := by
  unfold f_X9_retention at hf
  refine zM_of (by decide) rfl (fun X C _ => ?_)
  refine z_eq (h' := (zu h a [(0, .inr (9, [.int m_thrown, .ref (zo w + (a + 1)), .ref (zo w + (a + 2)), .ref (zo w + (a + 3)), .int m_now, .int m_undoable, .ref (zo w + (a + 4)), .int m_bytes, .int m_errorAt, .int m_size, .int m_next, .int m_error, .int m_place, .int m_began, .int m_nested, .int m_once, .ref (zo w + (a + 5))])), (5, .inl (w.2.2.1 1, 128, .inr (.inl m_pile)))])) (zu_s h_a0 (zu_s h_a5 zu_0)).symm ?_
  have n_a0 := h_a0.1
  have n_a5 := h_a5.1
  refine z_pick (lv' := [(0, .ref (zo w + a)), (1, .int p1)]) [0, 1] rfl ?_
  refine z_aload_n (pc' := 1) C 0 dX9_retention_0 rfl rfl rfl ?_
  refine z_iload_n (pc' := 2) C 1 dX9_retention_1 rfl rfl rfl ?_
  refine z_cV (pc' := 5) C hf (As := [.int p1]) (fun hq => c_X9_isContract (a := a) (zc_i (o := 0) n_a0 rfl) (zc_o (o := 1) h_a1 rfl) hq) (fun q_2 => (zu h a [(0, .inr (9, [.int q_2.2, .ref (zo w + (a + 1)), .ref (zo w + (a + 2)), .ref (zo w + (a + 3)), .int m_now, .int m_undoable, .ref (zo w + (a + 4)), .int m_bytes, .int m_errorAt, .int m_size, .int m_next, .int m_error, .int m_place, .int m_began, .int m_nested, .int m_once, .ref (zo w + (a + 5))])), (5, .inl (w.2.2.1 1, 128, .inr (.inl m_pile)))])) (fun q_2 => [.int q_2.1]) (fun _ => zu_sh (d := 0) rfl rfl) (fun _ => rfl) zy_X9_isContract zw_1377 zw_1379 zv_46 (ci := 9) rfl (zc_i (o := 0) n_a0 rfl) ⟨rfl, rfl⟩ rfl rfl rfl rfl rfl dX9_retention_2 rfl (fun q_2 hf => ?_)
  refine z_if_eq (pc' := 8) C 16 hf dX9_retention_5 rfl rfl (fun g_5 hf => ?_) (fun g_5 hf => ?_)
  · refine z_lconst (pc' := 17) C dX9_retention_16 zl_0 rfl ?_
    cases hf
    exact z_lret C rfl rfl dX9_retention_17
  · refine z_aload_n (pc' := 9) C 0 dX9_retention_8 rfl rfl rfl ?_
    refine z_iload_n (pc' := 10) C 1 dX9_retention_9 rfl rfl rfl ?_
    refine z_cV (pc' := 13) C hf (As := [.int p1]) (fun hq => c_X9_heldOf (a := a) (zc_i (o := 0) n_a0 rfl) (zc_o (o := 1) h_a1 rfl) (zc_i (o := 5) n_a5 rfl) hq) (fun q_10 => (zu h a [(0, .inr (9, [.int q_2.2, .ref (zo w + (a + 1)), .ref (zo w + (a + 2)), .ref (zo w + (a + 3)), .int m_now, .int m_undoable, .ref (zo w + (a + 4)), .int m_bytes, .int m_errorAt, .int m_size, .int m_next, .int m_error, .int m_place, .int m_began, .int m_nested, .int m_once, .ref (zo w + (a + 5))])), (5, .inl (w.2.2.1 1, 128, .inr (.inl q_10.2)))])) (fun q_10 => [.long q_10.1]) (fun _ => zu_sh (d := 0) rfl rfl) (fun _ => rfl) zy_X9_heldOf zw_1469 zw_1471 zv_59 (ci := 9) rfl (zc_i (o := 0) n_a0 rfl) ⟨rfl, rfl⟩ rfl rfl rfl rfl rfl dX9_retention_10 rfl (fun q_10 hf => ?_)
    refine z_goto C 17 dX9_retention_13 rfl ?_
    cases hf
    exact z_lret C rfl rfl dX9_retention_17
set_option maxRecDepth 20000 in
theorem c_X9_stage {w : zV} {N : Nat} {h : zH} {a : Nat} {m_thrown : Int32} {m_next : Int32} {m_error : Int32} {m_place : Int32} {m_began : Int32} {m_nested : Int32} {m_once : Int32} {m_now : Int32} {m_undoable : Int32} {m_bytes : Int32} {m_errorAt : Int32} {m_size : Int32} {m_rows : Nat → Int64} {p1 : Int32} (h_a0 : zc N h (a + 0) (.inr (9, [.int m_thrown, .ref (zo w + (a + 1)), .ref (zo w + (a + 2)), .ref (zo w + (a + 3)), .int m_now, .int m_undoable, .ref (zo w + (a + 4)), .int m_bytes, .int m_errorAt, .int m_size, .int m_next, .int m_error, .int m_place, .int m_began, .int m_nested, .int m_once, .ref (zo w + (a + 5))]))) (h_a1 : zc N h (a + 1) (.inl (w.2.2.1 1, 22500, .inr (.inl m_rows)))) {r : Int32 × Int32} (hf : f_X9_stage m_thrown m_now m_rows p1 = some r) : zM w yX9_stage cX9_stage 2 (some .int) (zr 2 62) false N N h [.ref (zo w + a), .int p1] (some (.int r.1)) (zu h a [(0, .inr (9, [.int r.2, .ref (zo w + (a + 1)), .ref (zo w + (a + 2)), .ref (zo w + (a + 3)), .int m_now, .int m_undoable, .ref (zo w + (a + 4)), .int m_bytes, .int m_errorAt, .int m_size, .int m_next, .int m_error, .int m_place, .int m_began, .int m_nested, .int m_once, .ref (zo w + (a + 5))]))]) := by
  unfold f_X9_stage at hf
  refine zM_of (by decide) rfl (fun X C _ => ?_)
  refine z_eq (h' := (zu h a [(0, .inr (9, [.int m_thrown, .ref (zo w + (a + 1)), .ref (zo w + (a + 2)), .ref (zo w + (a + 3)), .int m_now, .int m_undoable, .ref (zo w + (a + 4)), .int m_bytes, .int m_errorAt, .int m_size, .int m_next, .int m_error, .int m_place, .int m_began, .int m_nested, .int m_once, .ref (zo w + (a + 5))]))])) (zu_s h_a0 zu_0).symm ?_
  have n_a0 := h_a0.1
  refine z_pick (lv' := [(0, .ref (zo w + a)), (1, .int p1)]) [0, 1] rfl ?_
  refine z_aload_n (pc' := 1) C 0 dX9_stage_0 rfl rfl rfl ?_
  refine z_iload_n (pc' := 2) C 1 dX9_stage_1 rfl rfl rfl ?_
  refine z_cV (pc' := 5) C hf (As := [.int p1]) (fun hq => c_X9_isContract (a := a) (zc_i (o := 0) n_a0 rfl) (zc_o (o := 1) h_a1 rfl) hq) (fun q_2 => (zu h a [(0, .inr (9, [.int q_2.2, .ref (zo w + (a + 1)), .ref (zo w + (a + 2)), .ref (zo w + (a + 3)), .int m_now, .int m_undoable, .ref (zo w + (a + 4)), .int m_bytes, .int m_errorAt, .int m_size, .int m_next, .int m_error, .int m_place, .int m_began, .int m_nested, .int m_once, .ref (zo w + (a + 5))]))])) (fun q_2 => [.int q_2.1]) (fun _ => zu_sh (d := 0) rfl rfl) (fun _ => rfl) zy_X9_isContract zw_1377 zw_1379 zv_46 (ci := 9) rfl (zc_i (o := 0) n_a0 rfl) ⟨rfl, rfl⟩ rfl rfl rfl rfl rfl dX9_stage_2 rfl (fun q_2 hf => ?_)
  refine z_if_eq (pc' := 8) C 23 hf dX9_stage_5 rfl rfl (fun g_5 hf => ?_) (fun g_5 hf => ?_)
  · refine z_iconst (pc' := 24) C dX9_stage_23 zk_iconst_0 rfl ?_
    cases hf
    exact z_iret C rfl rfl dX9_stage_24
  · refine z_aload_n (pc' := 9) C 0 dX9_stage_8 rfl rfl rfl ?_
    refine z_aload_n (pc' := 10) C 0 dX9_stage_9 rfl rfl rfl ?_
    refine z_iload_n (pc' := 11) C 1 dX9_stage_10 rfl rfl rfl ?_
    refine z_cV (pc' := 14) C hf (As := [.int p1]) (fun hq => c_X9_at (a := a)  hq) (fun _ => (zu h a [(0, .inr (9, [.int q_2.2, .ref (zo w + (a + 1)), .ref (zo w + (a + 2)), .ref (zo w + (a + 3)), .int m_now, .int m_undoable, .ref (zo w + (a + 4)), .int m_bytes, .int m_errorAt, .int m_size, .int m_next, .int m_error, .int m_place, .int m_began, .int m_nested, .int m_once, .ref (zo w + (a + 5))]))])) (fun q_11 => [.int q_11, .ref (zo w + a)]) (fun _ => rfl) (fun _ => rfl) zy_X9_at zw_1381 zw_1383 zv_47 (ci := 9) rfl (zc_i (o := 0) n_a0 rfl) ⟨rfl, rfl⟩ rfl rfl rfl rfl rfl dX9_stage_11 rfl (fun q_11 hf => ?_)
    refine z_bipush (pc' := 16) C dX9_stage_14 zk_bipush_6 rfl ?_
    refine z_iadd (pc' := 17) C dX9_stage_16 rfl ?_
    refine z_cV (pc' := 20) C hf (As := [.int (q_11 + (6 : Int32))]) (fun hq => c_X9_small (a := a) (zc_i (o := 0) n_a0 rfl) (zc_o (o := 1) h_a1 rfl) hq) (fun _ => (zu h a [(0, .inr (9, [.int q_2.2, .ref (zo w + (a + 1)), .ref (zo w + (a + 2)), .ref (zo w + (a + 3)), .int m_now, .int m_undoable, .ref (zo w + (a + 4)), .int m_bytes, .int m_errorAt, .int m_size, .int m_next, .int m_error, .int m_place, .int m_began, .int m_nested, .int m_once, .ref (zo w + (a + 5))]))])) (fun q_17 => [.int q_17]) (fun _ => rfl) (fun _ => rfl) zy_X9_small zw_1357 zw_1359 zv_45 (ci := 9) rfl (zc_i (o := 0) n_a0 rfl) ⟨rfl, rfl⟩ rfl rfl rfl rfl rfl dX9_stage_17 rfl (fun q_17 hf => ?_)
    refine z_goto C 24 dX9_stage_20 rfl ?_
    cases hf
    exact z_iret C rfl rfl dX9_stage_24
set_option maxRecDepth 20000 in
theorem w_X9_margin_19 {X : zC} {w : zV} {N : Nat} {h : zH} {a : Nat} {m_next : Int32} {m_error : Int32} {m_place : Int32} {m_began : Int32} {m_nested : Int32} {m_once : Int32} {m_now : Int32} {m_undoable : Int32} {m_bytes : Int32} {m_errorAt : Int32} {m_size : Int32} {m_rows : Nat → Int64} (C : zK X w RX9 cX9_margin 5 (some .long) (zr 6 199)) (n_a0 : a + 0 < N) (h_a1 : zc N h (a + 1) (.inl (w.2.2.1 1, 22500, .inr (.inl m_rows)))) (n_a5 : a + 5 < N) {r : Int64 × Int32 × (Nat → Int64)} (n : Nat) : ∀ {m_thrown : Int32} {m_pile : Nat → Int64} {x1 : Int32} {x2 : Int64} {x4 : Int32}, f_X9_margin_19  n m_thrown m_now m_rows m_pile x1 x2 x4 = some r → zZ X w (zQ X w (zr 6 199) (some (.long r.1)) false N (zu h a [(0, .inr (9, [.int r.2.1, .ref (zo w + (a + 1)), .ref (zo w + (a + 2)), .ref (zo w + (a + 3)), .int m_now, .int m_undoable, .ref (zo w + (a + 4)), .int m_bytes, .int m_errorAt, .int m_size, .int m_next, .int m_error, .int m_place, .int m_began, .int m_nested, .int m_once, .ref (zo w + (a + 5))])), (5, .inl (w.2.2.1 1, 128, .inr (.inl r.2.2)))])) 0 0 false N (zu h a [(0, .inr (9, [.int m_thrown, .ref (zo w + (a + 1)), .ref (zo w + (a + 2)), .ref (zo w + (a + 3)), .int m_now, .int m_undoable, .ref (zo w + (a + 4)), .int m_bytes, .int m_errorAt, .int m_size, .int m_next, .int m_error, .int m_place, .int m_began, .int m_nested, .int m_once, .ref (zo w + (a + 5))])), (5, .inl (w.2.2.1 1, 128, .inr (.inl m_pile)))]) 19 [(0, .ref (zo w + a)), (1, .int x1), (2, .long x2), (4, .int x4)] [] := by
  induction n with
  | zero =>
    intro m_thrown m_pile x1 x2 x4 hf
    have hf : (none : Option (Int64 × Int32 × (Nat → Int64))) = some r := hf
    cases hf
  | succ z ih =>
    intro m_thrown m_pile x1 x2 x4 hf
    rw [f_X9_margin_19] at hf
    refine z_iload (pc' := 21) C 3 dX9_margin_19 rfl rfl ?_
    refine z_i2l (pc' := 22) C dX9_margin_21 rfl ?_
    refine z_aload_n (pc' := 23) C 0 dX9_margin_22 rfl rfl rfl ?_
    refine z_iconst (pc' := 24) C dX9_margin_23 zk_iconst_0 rfl ?_
    refine z_cV (pc' := 27) C hf (As := [.int (0 : Int32)]) (fun hq => c_X9_get (a := a) (zc_i (o := 0) n_a0 rfl) (zc_o (o := 1) h_a1 rfl) hq) (fun _ => (zu h a [(0, .inr (9, [.int m_thrown, .ref (zo w + (a + 1)), .ref (zo w + (a + 2)), .ref (zo w + (a + 3)), .int m_now, .int m_undoable, .ref (zo w + (a + 4)), .int m_bytes, .int m_errorAt, .int m_size, .int m_next, .int m_error, .int m_place, .int m_began, .int m_nested, .int m_once, .ref (zo w + (a + 5))])), (5, .inl (w.2.2.1 1, 128, .inr (.inl m_pile)))])) (fun q_24 => [.long q_24, .long (x4).toInt64]) (fun _ => rfl) (fun _ => rfl) zy_X9_get zw_1349 zw_1351 zv_43 (ci := 9) rfl (zc_i (o := 0) n_a0 rfl) ⟨rfl, rfl⟩ rfl rfl rfl rfl rfl dX9_margin_24 rfl (fun q_24 hf => ?_)
    refine z_lcmp_ge (pc' := 31) C 68 hf dX9_margin_27 rfl dX9_margin_28 rfl rfl (fun g_27 hf => ?_) (fun g_27 hf => ?_)
    · refine z_lload_n (pc' := 69) C 2 dX9_margin_68 rfl rfl rfl ?_
      cases hf
      exact z_lret C rfl rfl dX9_margin_69
    · refine z_lload_n (pc' := 32) C 2 dX9_margin_31 rfl rfl rfl ?_
      refine z_aload_n (pc' := 33) C 0 dX9_margin_32 rfl rfl rfl ?_
      refine z_aload_n (pc' := 34) C 0 dX9_margin_33 rfl rfl rfl ?_
      refine z_iload (pc' := 36) C 3 dX9_margin_34 rfl rfl ?_
      refine z_cV (pc' := 39) C hf (As := [.int x4]) (fun hq => c_X9_at (a := a)  hq) (fun _ => (zu h a [(0, .inr (9, [.int m_thrown, .ref (zo w + (a + 1)), .ref (zo w + (a + 2)), .ref (zo w + (a + 3)), .int m_now, .int m_undoable, .ref (zo w + (a + 4)), .int m_bytes, .int m_errorAt, .int m_size, .int m_next, .int m_error, .int m_place, .int m_began, .int m_nested, .int m_once, .ref (zo w + (a + 5))])), (5, .inl (w.2.2.1 1, 128, .inr (.inl m_pile)))])) (fun q_36 => [.int q_36, .ref (zo w + a), .long x2]) (fun _ => rfl) (fun _ => rfl) zy_X9_at zw_1381 zw_1383 zv_47 (ci := 9) rfl (zc_i (o := 0) n_a0 rfl) ⟨rfl, rfl⟩ rfl rfl rfl rfl rfl dX9_margin_36 rfl (fun q_36 hf => ?_)
      refine z_iconst (pc' := 40) C dX9_margin_39 zk_iconst_0 rfl ?_
      refine z_iadd (pc' := 41) C dX9_margin_40 rfl ?_
      refine z_cV (pc' := 44) C hf (As := [.int (q_36 + (0 : Int32))]) (fun hq => c_X9_get (a := a) (zc_i (o := 0) n_a0 rfl) (zc_o (o := 1) h_a1 rfl) hq) (fun _ => (zu h a [(0, .inr (9, [.int m_thrown, .ref (zo w + (a + 1)), .ref (zo w + (a + 2)), .ref (zo w + (a + 3)), .int m_now, .int m_undoable, .ref (zo w + (a + 4)), .int m_bytes, .int m_errorAt, .int m_size, .int m_next, .int m_error, .int m_place, .int m_began, .int m_nested, .int m_once, .ref (zo w + (a + 5))])), (5, .inl (w.2.2.1 1, 128, .inr (.inl m_pile)))])) (fun q_41 => [.long q_41, .long x2]) (fun _ => rfl) (fun _ => rfl) zy_X9_get zw_1349 zw_1351 zv_43 (ci := 9) rfl (zc_i (o := 0) n_a0 rfl) ⟨rfl, rfl⟩ rfl rfl rfl rfl rfl dX9_margin_41 rfl (fun q_41 hf => ?_)
      refine z_iload_n (pc' := 45) C 1 dX9_margin_44 rfl rfl rfl ?_
      refine z_i2l (pc' := 46) C dX9_margin_45 rfl ?_
      refine z_lcmp_ne (pc' := 50) C 59 hf dX9_margin_46 rfl dX9_margin_47 rfl rfl (fun g_46 hf => ?_) (fun g_46 hf => ?_)
      · refine z_lconst (pc' := 60) C dX9_margin_59 zl_0 rfl ?_
        refine z_lsub (pc' := 61) C dX9_margin_60 rfl ?_
        refine z_lstore_n (pc' := 62) C [(2, .long (x2 - (0 : Int64))), (0, .ref (zo w + a)), (1, .int x1), (4, .int x4)] dX9_margin_61 rfl rfl rfl rfl ?_
        refine z_iinc (pc' := 65) C 3 [(4, .int (x4 + (1 : Int32))), (2, .long (x2 - (0 : Int64))), (0, .ref (zo w + a)), (1, .int x1)] dX9_margin_62 rfl zk_iconst_1 rfl rfl rfl ?_
        refine z_goto C 19 dX9_margin_65 rfl ?_
        refine z_pick (lv' := [(0, .ref (zo w + a)), (1, .int x1), (2, .long (x2 - (0 : Int64))), (4, .int (x4 + (1 : Int32)))]) [2, 3, 1, 0] rfl ?_
        exact ih hf
      · refine z_aload_n (pc' := 51) C 0 dX9_margin_50 rfl rfl rfl ?_
        refine z_iload (pc' := 53) C 3 dX9_margin_51 rfl rfl ?_
        refine z_cV (pc' := 56) C hf (As := [.int x4]) (fun hq => c_X9_presentOf (a := a) (zc_i (o := 0) n_a0 rfl) (zc_o (o := 1) h_a1 rfl) (zc_i (o := 5) n_a5 rfl) hq) (fun q_53 => (zu h a [(0, .inr (9, [.int m_thrown, .ref (zo w + (a + 1)), .ref (zo w + (a + 2)), .ref (zo w + (a + 3)), .int m_now, .int m_undoable, .ref (zo w + (a + 4)), .int m_bytes, .int m_errorAt, .int m_size, .int m_next, .int m_error, .int m_place, .int m_began, .int m_nested, .int m_once, .ref (zo w + (a + 5))])), (5, .inl (w.2.2.1 1, 128, .inr (.inl q_53.2)))])) (fun q_53 => [.long q_53.1, .long x2]) (fun _ => zu_sh (d := 0) rfl rfl) (fun _ => rfl) zy_X9_presentOf zw_1453 zw_1455 zv_57 (ci := 9) rfl (zc_i (o := 0) n_a0 rfl) ⟨rfl, rfl⟩ rfl rfl rfl rfl rfl dX9_margin_53 rfl (fun q_53 hf => ?_)
        refine z_goto C 60 dX9_margin_56 rfl ?_
        refine z_lsub (pc' := 61) C dX9_margin_60 rfl ?_
        refine z_lstore_n (pc' := 62) C [(2, .long (x2 - q_53.1)), (0, .ref (zo w + a)), (1, .int x1), (4, .int x4)] dX9_margin_61 rfl rfl rfl rfl ?_
        refine z_iinc (pc' := 65) C 3 [(4, .int (x4 + (1 : Int32))), (2, .long (x2 - q_53.1)), (0, .ref (zo w + a)), (1, .int x1)] dX9_margin_62 rfl zk_iconst_1 rfl rfl rfl ?_
        refine z_goto C 19 dX9_margin_65 rfl ?_
        refine z_pick (lv' := [(0, .ref (zo w + a)), (1, .int x1), (2, .long (x2 - q_53.1)), (4, .int (x4 + (1 : Int32)))]) [2, 3, 1, 0] rfl ?_
        exact ih hf
set_option maxRecDepth 20000 in
theorem c_X9_margin {w : zV} {N : Nat} {h : zH} {a : Nat} {m_thrown : Int32} {m_next : Int32} {m_error : Int32} {m_place : Int32} {m_began : Int32} {m_nested : Int32} {m_once : Int32} {m_now : Int32} {m_undoable : Int32} {m_bytes : Int32} {m_errorAt : Int32} {m_size : Int32} {m_rows : Nat → Int64} {m_pile : Nat → Int64} {p1 : Int32} (h_a0 : zc N h (a + 0) (.inr (9, [.int m_thrown, .ref (zo w + (a + 1)), .ref (zo w + (a + 2)), .ref (zo w + (a + 3)), .int m_now, .int m_undoable, .ref (zo w + (a + 4)), .int m_bytes, .int m_errorAt, .int m_size, .int m_next, .int m_error, .int m_place, .int m_began, .int m_nested, .int m_once, .ref (zo w + (a + 5))]))) (h_a1 : zc N h (a + 1) (.inl (w.2.2.1 1, 22500, .inr (.inl m_rows)))) (h_a5 : zc N h (a + 5) (.inl (w.2.2.1 1, 128, .inr (.inl m_pile)))) {r : Int64 × Int32 × (Nat → Int64)} (hf : f_X9_margin m_thrown m_now m_rows m_pile p1 = some r) : zM w yX9_margin cX9_margin 5 (some .long) (zr 6 199) false N N h [.ref (zo w + a), .int p1] (some (.long r.1)) (zu h a [(0, .inr (9, [.int r.2.1, .ref (zo w + (a + 1)), .ref (zo w + (a + 2)), .ref (zo w + (a + 3)), .int m_now, .int m_undoable, .ref (zo w + (a + 4)), .int m_bytes, .int m_errorAt, .int m_size, .int m_next, .int m_error, .int m_place, .int m_began, .int m_nested, .int m_once, .ref (zo w + (a + 5))])), (5, .inl (w.2.2.1 1, 128, .inr (.inl r.2.2)))]) := by
  unfold f_X9_margin at hf
  refine zM_of (by decide) rfl (fun X C _ => ?_)
  refine z_eq (h' := (zu h a [(0, .inr (9, [.int m_thrown, .ref (zo w + (a + 1)), .ref (zo w + (a + 2)), .ref (zo w + (a + 3)), .int m_now, .int m_undoable, .ref (zo w + (a + 4)), .int m_bytes, .int m_errorAt, .int m_size, .int m_next, .int m_error, .int m_place, .int m_began, .int m_nested, .int m_once, .ref (zo w + (a + 5))])), (5, .inl (w.2.2.1 1, 128, .inr (.inl m_pile)))])) (zu_s h_a0 (zu_s h_a5 zu_0)).symm ?_
  have n_a0 := h_a0.1
  have n_a5 := h_a5.1
  refine z_pick (lv' := [(0, .ref (zo w + a)), (1, .int p1)]) [0, 1] rfl ?_
  refine z_aload_n (pc' := 1) C 0 dX9_margin_0 rfl rfl rfl ?_
  refine z_iload_n (pc' := 2) C 1 dX9_margin_1 rfl rfl rfl ?_
  refine z_cV (pc' := 5) C hf (As := [.int p1]) (fun hq => c_X9_isContract (a := a) (zc_i (o := 0) n_a0 rfl) (zc_o (o := 1) h_a1 rfl) hq) (fun q_2 => (zu h a [(0, .inr (9, [.int q_2.2, .ref (zo w + (a + 1)), .ref (zo w + (a + 2)), .ref (zo w + (a + 3)), .int m_now, .int m_undoable, .ref (zo w + (a + 4)), .int m_bytes, .int m_errorAt, .int m_size, .int m_next, .int m_error, .int m_place, .int m_began, .int m_nested, .int m_once, .ref (zo w + (a + 5))])), (5, .inl (w.2.2.1 1, 128, .inr (.inl m_pile)))])) (fun q_2 => [.int q_2.1]) (fun _ => zu_sh (d := 0) rfl rfl) (fun _ => rfl) zy_X9_isContract zw_1377 zw_1379 zv_46 (ci := 9) rfl (zc_i (o := 0) n_a0 rfl) ⟨rfl, rfl⟩ rfl rfl rfl rfl rfl dX9_margin_2 rfl (fun q_2 hf => ?_)
  refine z_if_ne (pc' := 8) C 10 hf dX9_margin_5 rfl rfl (fun g_5 hf => ?_) (fun g_5 hf => ?_)
  · refine z_aload_n (pc' := 11) C 0 dX9_margin_10 rfl rfl rfl ?_
    refine z_iload_n (pc' := 12) C 1 dX9_margin_11 rfl rfl rfl ?_
    refine z_cV (pc' := 15) C hf (As := [.int p1]) (fun hq => c_X9_presentOf (a := a) (zc_i (o := 0) n_a0 rfl) (zc_o (o := 1) h_a1 rfl) (zc_i (o := 5) n_a5 rfl) hq) (fun q_12 => (zu h a [(0, .inr (9, [.int q_2.2, .ref (zo w + (a + 1)), .ref (zo w + (a + 2)), .ref (zo w + (a + 3)), .int m_now, .int m_undoable, .ref (zo w + (a + 4)), .int m_bytes, .int m_errorAt, .int m_size, .int m_next, .int m_error, .int m_place, .int m_began, .int m_nested, .int m_once, .ref (zo w + (a + 5))])), (5, .inl (w.2.2.1 1, 128, .inr (.inl q_12.2)))])) (fun q_12 => [.long q_12.1]) (fun _ => zu_sh (d := 0) rfl rfl) (fun _ => rfl) zy_X9_presentOf zw_1453 zw_1455 zv_57 (ci := 9) rfl (zc_i (o := 0) n_a0 rfl) ⟨rfl, rfl⟩ rfl rfl rfl rfl rfl dX9_margin_12 rfl (fun q_12 hf => ?_)
    refine z_lstore_n (pc' := 16) C [(2, .long q_12.1), (0, .ref (zo w + a)), (1, .int p1)] dX9_margin_15 rfl rfl rfl rfl ?_
    refine z_iconst (pc' := 17) C dX9_margin_16 zk_iconst_0 rfl ?_
    refine z_istore (pc' := 19) C [(4, .int (0 : Int32)), (2, .long q_12.1), (0, .ref (zo w + a)), (1, .int p1)] dX9_margin_17 rfl rfl rfl ?_
    refine z_pick (lv' := [(0, .ref (zo w + a)), (1, .int p1), (2, .long q_12.1), (4, .int (0 : Int32))]) [2, 3, 1, 0] rfl ?_
    exact w_X9_margin_19 C n_a0 h_a1 n_a5  FU hf
  · refine z_lconst (pc' := 9) C dX9_margin_8 zl_0 rfl ?_
    cases hf
    exact z_lret C rfl rfl dX9_margin_9
set_option maxRecDepth 20000 in
theorem c_X9_account {w : zV} {N : Nat} {h : zH} {a : Nat} {m_thrown : Int32} {m_next : Int32} {m_error : Int32} {m_place : Int32} {m_began : Int32} {m_nested : Int32} {m_once : Int32} {m_now : Int32} {m_undoable : Int32} {m_bytes : Int32} {m_errorAt : Int32} {m_size : Int32} {m_rows : Nat → Int64} {p1 : Int32} (h_a0 : zc N h (a + 0) (.inr (9, [.int m_thrown, .ref (zo w + (a + 1)), .ref (zo w + (a + 2)), .ref (zo w + (a + 3)), .int m_now, .int m_undoable, .ref (zo w + (a + 4)), .int m_bytes, .int m_errorAt, .int m_size, .int m_next, .int m_error, .int m_place, .int m_began, .int m_nested, .int m_once, .ref (zo w + (a + 5))]))) (h_a1 : zc N h (a + 1) (.inl (w.2.2.1 1, 22500, .inr (.inl m_rows)))) {r : Int64 × Int32} (hf : f_X9_account m_thrown m_now m_rows p1 = some r) : zM w yX9_account cX9_account 2 (some .long) (zr 1 33) false N N h [.ref (zo w + a), .int p1] (some (.long r.1)) (zu h a [(0, .inr (9, [.int r.2, .ref (zo w + (a + 1)), .ref (zo w + (a + 2)), .ref (zo w + (a + 3)), .int m_now, .int m_undoable, .ref (zo w + (a + 4)), .int m_bytes, .int m_errorAt, .int m_size, .int m_next, .int m_error, .int m_place, .int m_began, .int m_nested, .int m_once, .ref (zo w + (a + 5))]))]) := by
  unfold f_X9_account at hf
  refine zM_of (by decide) rfl (fun X C _ => ?_)
  refine z_eq (h' := (zu h a [(0, .inr (9, [.int m_thrown, .ref (zo w + (a + 1)), .ref (zo w + (a + 2)), .ref (zo w + (a + 3)), .int m_now, .int m_undoable, .ref (zo w + (a + 4)), .int m_bytes, .int m_errorAt, .int m_size, .int m_next, .int m_error, .int m_place, .int m_began, .int m_nested, .int m_once, .ref (zo w + (a + 5))]))])) (zu_s h_a0 zu_0).symm ?_
  have n_a0 := h_a0.1
  refine z_pick (lv' := [(0, .ref (zo w + a)), (1, .int p1)]) [0, 1] rfl ?_
  refine z_aload_n (pc' := 1) C 0 dX9_account_0 rfl rfl rfl ?_
  refine z_iconst (pc' := 2) C dX9_account_1 zk_iconst_0 rfl ?_
  refine z_putf (pc' := 5) C zci_9 zw_1184 (j := 0) rfl (zc_i (o := 0) n_a0 rfl) (fs' := [.int (0 : Int32), .ref (zo w + (a + 1)), .ref (zo w + (a + 2)), .ref (zo w + (a + 3)), .int m_now, .int m_undoable, .ref (zo w + (a + 4)), .int m_bytes, .int m_errorAt, .int m_size, .int m_next, .int m_error, .int m_place, .int m_began, .int m_nested, .int m_once, .ref (zo w + (a + 5))]) rfl rfl rfl rfl rfl (zu_put (o := 0) (L' := [(0, .inr (9, [.int (0 : Int32), .ref (zo w + (a + 1)), .ref (zo w + (a + 2)), .ref (zo w + (a + 3)), .int m_now, .int m_undoable, .ref (zo w + (a + 4)), .int m_bytes, .int m_errorAt, .int m_size, .int m_next, .int m_error, .int m_place, .int m_began, .int m_nested, .int m_once, .ref (zo w + (a + 5))]))]) rfl) dX9_account_2 rfl ?_
  refine z_aload_n (pc' := 6) C 0 dX9_account_5 rfl rfl rfl ?_
  refine z_iload_n (pc' := 7) C 1 dX9_account_6 rfl rfl rfl ?_
  refine z_i2l (pc' := 8) C dX9_account_7 rfl ?_
  refine z_lconst (pc' := 9) C dX9_account_8 zl_0 rfl ?_
  refine z_aload_n (pc' := 10) C 0 dX9_account_9 rfl rfl rfl ?_
  refine z_iconst (pc' := 11) C dX9_account_10 zk_iconst_0 rfl ?_
  refine z_cV (pc' := 14) C hf (As := [.int (0 : Int32)]) (fun hq => c_X9_get (a := a) (zc_i (o := 0) n_a0 rfl) (zc_o (o := 1) h_a1 rfl) hq) (fun _ => (zu h a [(0, .inr (9, [.int (0 : Int32), .ref (zo w + (a + 1)), .ref (zo w + (a + 2)), .ref (zo w + (a + 3)), .int m_now, .int m_undoable, .ref (zo w + (a + 4)), .int m_bytes, .int m_errorAt, .int m_size, .int m_next, .int m_error, .int m_place, .int m_began, .int m_nested, .int m_once, .ref (zo w + (a + 5))]))])) (fun q_11 => [.long q_11, .long (0 : Int64), .long (p1).toInt64, .ref (zo w + a)]) (fun _ => rfl) (fun _ => rfl) zy_X9_get zw_1349 zw_1351 zv_43 (ci := 9) rfl (zc_i (o := 0) n_a0 rfl) ⟨rfl, rfl⟩ rfl rfl rfl rfl rfl dX9_account_11 rfl (fun q_11 hf => ?_)
  refine z_cS (pc' := 17) C hf (As := [.long (p1).toInt64, .long (0 : Int64), .long q_11]) (fun hq => c_X9_isIn  hq) (fun _ => (zu h a [(0, .inr (9, [.int (0 : Int32), .ref (zo w + (a + 1)), .ref (zo w + (a + 2)), .ref (zo w + (a + 3)), .int m_now, .int m_undoable, .ref (zo w + (a + 4)), .int m_bytes, .int m_errorAt, .int m_size, .int m_next, .int m_error, .int m_place, .int m_began, .int m_nested, .int m_once, .ref (zo w + (a + 5))]))])) (fun q_14 => [.int q_14, .ref (zo w + a)]) (fun _ => rfl) (fun _ => rfl) zy_X9_isIn zw_1248 zw_1249 ⟨rfl, rfl⟩ rfl rfl rfl rfl rfl dX9_account_14 rfl (fun q_14 hf => ?_)
  refine z_iconst (pc' := 18) C dX9_account_17 zk_iconst_1 rfl ?_
  refine z_cV (pc' := 21) C hf (As := [.int q_14, .int (1 : Int32)]) (fun hq => c_X9_right (a := a) (zc_i (o := 0) n_a0 rfl) hq) (fun q_18 => (zu h a [(0, .inr (9, [.int q_18.2, .ref (zo w + (a + 1)), .ref (zo w + (a + 2)), .ref (zo w + (a + 3)), .int m_now, .int m_undoable, .ref (zo w + (a + 4)), .int m_bytes, .int m_errorAt, .int m_size, .int m_next, .int m_error, .int m_place, .int m_began, .int m_nested, .int m_once, .ref (zo w + (a + 5))]))])) (fun q_18 => [.int q_18.1]) (fun _ => zu_sh (d := 0) rfl rfl) (fun _ => rfl) zy_X9_right zw_1251 zw_1253 zv_23 (ci := 9) rfl (zc_i (o := 0) n_a0 rfl) ⟨rfl, rfl⟩ rfl rfl rfl rfl rfl dX9_account_18 rfl (fun q_18 hf => ?_)
  refine z_if_eq (pc' := 24) C 35 hf dX9_account_21 rfl rfl (fun g_21 hf => ?_) (fun g_21 hf => ?_)
  · refine z_lconst (pc' := 36) C dX9_account_35 zl_0 rfl ?_
    cases hf
    exact z_lret C rfl rfl dX9_account_36
  · refine z_aload_n (pc' := 25) C 0 dX9_account_24 rfl rfl rfl ?_
    refine z_bipush (pc' := 27) C dX9_account_25 zk_bipush_8 rfl ?_
    refine z_iload_n (pc' := 28) C 1 dX9_account_27 rfl rfl rfl ?_
    refine z_iadd (pc' := 29) C dX9_account_28 rfl ?_
    refine z_cV (pc' := 32) C hf (As := [.int ((8 : Int32) + p1)]) (fun hq => c_X9_get (a := a) (zc_i (o := 0) n_a0 rfl) (zc_o (o := 1) h_a1 rfl) hq) (fun _ => (zu h a [(0, .inr (9, [.int q_18.2, .ref (zo w + (a + 1)), .ref (zo w + (a + 2)), .ref (zo w + (a + 3)), .int m_now, .int m_undoable, .ref (zo w + (a + 4)), .int m_bytes, .int m_errorAt, .int m_size, .int m_next, .int m_error, .int m_place, .int m_began, .int m_nested, .int m_once, .ref (zo w + (a + 5))]))])) (fun q_29 => [.long q_29]) (fun _ => rfl) (fun _ => rfl) zy_X9_get zw_1349 zw_1351 zv_43 (ci := 9) rfl (zc_i (o := 0) n_a0 rfl) ⟨rfl, rfl⟩ rfl rfl rfl rfl rfl dX9_account_29 rfl (fun q_29 hf => ?_)
    refine z_goto C 36 dX9_account_32 rfl ?_
    cases hf
    exact z_lret C rfl rfl dX9_account_36
set_option maxRecDepth 20000 in
theorem c_X9_bill {w : zV} {N : Nat} {h : zH} {p0 : Int32} {r : Int32} (hf : f_X9_bill p0 = some r) : zM w yX9_bill cX9_bill 1 (some .int) (zr 0 0) false N N h [.int p0] (some (.int r)) h := by
  unfold f_X9_bill at hf
  refine zM_of (by decide) rfl (fun X C _ => ?_)
  refine z_pick (lv' := [(0, .int p0)]) [0] rfl ?_
  refine z_sipush (pc' := 3) C dX9_bill_0 zk_sipush_320 rfl ?_
  refine z_iconst (pc' := 4) C dX9_bill_3 zk_iconst_5 rfl ?_
  refine z_iload_n (pc' := 5) C 0 dX9_bill_4 rfl rfl rfl ?_
  refine z_imul (pc' := 6) C dX9_bill_5 rfl ?_
  refine z_iadd (pc' := 7) C dX9_bill_6 rfl ?_
  cases hf
  exact z_iret C rfl rfl dX9_bill_7
set_option maxRecDepth 20000 in
theorem c_X9_openOf {w : zV} {N : Nat} {h : zH} {a : Nat} {m_thrown : Int32} {m_next : Int32} {m_error : Int32} {m_place : Int32} {m_began : Int32} {m_nested : Int32} {m_once : Int32} {m_now : Int32} {m_undoable : Int32} {m_bytes : Int32} {m_errorAt : Int32} {m_size : Int32} {m_rows : Nat → Int64} {p1 : Int32} (h_a0 : zc N h (a + 0) (.inr (9, [.int m_thrown, .ref (zo w + (a + 1)), .ref (zo w + (a + 2)), .ref (zo w + (a + 3)), .int m_now, .int m_undoable, .ref (zo w + (a + 4)), .int m_bytes, .int m_errorAt, .int m_size, .int m_next, .int m_error, .int m_place, .int m_began, .int m_nested, .int m_once, .ref (zo w + (a + 5))]))) (h_a1 : zc N h (a + 1) (.inl (w.2.2.1 1, 22500, .inr (.inl m_rows)))) {r : Int64} (hf : f_X9_openOf m_now m_rows p1 = some r) : zM w yX9_openOf cX9_openOf 2 (some .long) (zr 1 29) false N N h [.ref (zo w + a), .int p1] (some (.long r)) h := by
  unfold f_X9_openOf at hf
  refine zM_of (by decide) rfl (fun X C _ => ?_)
  refine z_pick (lv' := [(0, .ref (zo w + a)), (1, .int p1)]) [0, 1] rfl ?_
  refine z_aload_n (pc' := 1) C 0 dX9_openOf_0 rfl rfl rfl ?_
  refine z_iload_n (pc' := 2) C 1 dX9_openOf_1 rfl rfl rfl ?_
  refine z_cS (pc' := 5) C hf (As := [.int p1]) (fun hq => c_X9_bill  hq) (fun _ => h) (fun q_2 => [.int q_2, .ref (zo w + a)]) (fun _ => rfl) (fun _ => rfl) zy_X9_bill zw_1494 zw_1495 ⟨rfl, rfl⟩ rfl rfl rfl rfl rfl dX9_openOf_2 rfl (fun q_2 hf => ?_)
  refine z_iconst (pc' := 6) C dX9_openOf_5 zk_iconst_1 rfl ?_
  refine z_iadd (pc' := 7) C dX9_openOf_6 rfl ?_
  refine z_cV (pc' := 10) C hf (As := [.int (q_2 + (1 : Int32))]) (fun hq => c_X9_get (a := a) h_a0 h_a1 hq) (fun _ => h) (fun q_7 => [.long q_7]) (fun _ => rfl) (fun _ => rfl) zy_X9_get zw_1349 zw_1351 zv_43 (ci := 9) rfl h_a0 ⟨rfl, rfl⟩ rfl rfl rfl rfl rfl dX9_openOf_7 rfl (fun q_7 hf => ?_)
  refine z_aload_n (pc' := 11) C 0 dX9_openOf_10 rfl rfl rfl ?_
  refine z_iload_n (pc' := 12) C 1 dX9_openOf_11 rfl rfl rfl ?_
  refine z_cS (pc' := 15) C hf (As := [.int p1]) (fun hq => c_X9_bill  hq) (fun _ => h) (fun q_12 => [.int q_12, .ref (zo w + a), .long q_7]) (fun _ => rfl) (fun _ => rfl) zy_X9_bill zw_1494 zw_1495 ⟨rfl, rfl⟩ rfl rfl rfl rfl rfl dX9_openOf_12 rfl (fun q_12 hf => ?_)
  refine z_iconst (pc' := 16) C dX9_openOf_15 zk_iconst_2 rfl ?_
  refine z_iadd (pc' := 17) C dX9_openOf_16 rfl ?_
  refine z_cV (pc' := 20) C hf (As := [.int (q_12 + (2 : Int32))]) (fun hq => c_X9_get (a := a) h_a0 h_a1 hq) (fun _ => h) (fun q_17 => [.long q_17, .long q_7]) (fun _ => rfl) (fun _ => rfl) zy_X9_get zw_1349 zw_1351 zv_43 (ci := 9) rfl h_a0 ⟨rfl, rfl⟩ rfl rfl rfl rfl rfl dX9_openOf_17 rfl (fun q_17 hf => ?_)
  refine z_lsub (pc' := 21) C dX9_openOf_20 rfl ?_
  cases hf
  exact z_lret C rfl rfl dX9_openOf_21
set_option maxRecDepth 20000 in
theorem w_X9_certifiedOf_5 {X : zC} {w : zV} {N : Nat} {h : zH} {a : Nat} {m_thrown : Int32} {m_next : Int32} {m_error : Int32} {m_place : Int32} {m_began : Int32} {m_nested : Int32} {m_once : Int32} {m_now : Int32} {m_undoable : Int32} {m_bytes : Int32} {m_errorAt : Int32} {m_size : Int32} {m_rows : Nat → Int64} (C : zK X w RX9 cX9_certifiedOf 5 (some .long) (zr 1 29)) (h_a0 : zc N h (a + 0) (.inr (9, [.int m_thrown, .ref (zo w + (a + 1)), .ref (zo w + (a + 2)), .ref (zo w + (a + 3)), .int m_now, .int m_undoable, .ref (zo w + (a + 4)), .int m_bytes, .int m_errorAt, .int m_size, .int m_next, .int m_error, .int m_place, .int m_began, .int m_nested, .int m_once, .ref (zo w + (a + 5))]))) (h_a1 : zc N h (a + 1) (.inl (w.2.2.1 1, 22500, .inr (.inl m_rows)))) {r : Int64} (n : Nat) : ∀ {x1 : Int32} {x2 : Int64} {x4 : Int32}, f_X9_certifiedOf_5  n m_now m_rows x1 x2 x4 = some r → zZ X w (zQ X w (zr 1 29) (some (.long r)) false N h) 0 0 false N h 5 [(0, .ref (zo w + a)), (1, .int x1), (2, .long x2), (4, .int x4)] [] := by
  induction n with
  | zero =>
    intro x1 x2 x4 hf
    have hf : (none : Option (Int64)) = some r := hf
    cases hf
  | succ z ih =>
    intro x1 x2 x4 hf
    rw [f_X9_certifiedOf_5] at hf
    refine z_iload (pc' := 7) C 3 dX9_certifiedOf_5 rfl rfl ?_
    refine z_i2l (pc' := 8) C dX9_certifiedOf_7 rfl ?_
    refine z_aload_n (pc' := 9) C 0 dX9_certifiedOf_8 rfl rfl rfl ?_
    refine z_iconst (pc' := 10) C dX9_certifiedOf_9 zk_iconst_5 rfl ?_
    refine z_cV (pc' := 13) C hf (As := [.int (5 : Int32)]) (fun hq => c_X9_get (a := a) h_a0 h_a1 hq) (fun _ => h) (fun q_10 => [.long q_10, .long (x4).toInt64]) (fun _ => rfl) (fun _ => rfl) zy_X9_get zw_1349 zw_1351 zv_43 (ci := 9) rfl h_a0 ⟨rfl, rfl⟩ rfl rfl rfl rfl rfl dX9_certifiedOf_10 rfl (fun q_10 hf => ?_)
    refine z_lcmp_ge (pc' := 17) C 56 hf dX9_certifiedOf_13 rfl dX9_certifiedOf_14 rfl rfl (fun g_13 hf => ?_) (fun g_13 hf => ?_)
    · refine z_lload_n (pc' := 57) C 2 dX9_certifiedOf_56 rfl rfl rfl ?_
      cases hf
      exact z_lret C rfl rfl dX9_certifiedOf_57
    · refine z_lload_n (pc' := 18) C 2 dX9_certifiedOf_17 rfl rfl rfl ?_
      refine z_aload_n (pc' := 19) C 0 dX9_certifiedOf_18 rfl rfl rfl ?_
      refine z_iload (pc' := 21) C 3 dX9_certifiedOf_19 rfl rfl ?_
      refine z_cS (pc' := 24) C hf (As := [.int x4]) (fun hq => c_X9_bill  hq) (fun _ => h) (fun q_21 => [.int q_21, .ref (zo w + a), .long x2]) (fun _ => rfl) (fun _ => rfl) zy_X9_bill zw_1494 zw_1495 ⟨rfl, rfl⟩ rfl rfl rfl rfl rfl dX9_certifiedOf_21 rfl (fun q_21 hf => ?_)
      refine z_cV (pc' := 27) C hf (As := [.int q_21]) (fun hq => c_X9_get (a := a) h_a0 h_a1 hq) (fun _ => h) (fun q_24 => [.long q_24, .long x2]) (fun _ => rfl) (fun _ => rfl) zy_X9_get zw_1349 zw_1351 zv_43 (ci := 9) rfl h_a0 ⟨rfl, rfl⟩ rfl rfl rfl rfl rfl dX9_certifiedOf_24 rfl (fun q_24 hf => ?_)
      refine z_iload_n (pc' := 28) C 1 dX9_certifiedOf_27 rfl rfl rfl ?_
      refine z_i2l (pc' := 29) C dX9_certifiedOf_28 rfl ?_
      refine z_lcmp_ne (pc' := 33) C 47 hf dX9_certifiedOf_29 rfl dX9_certifiedOf_30 rfl rfl (fun g_29 hf => ?_) (fun g_29 hf => ?_)
      · refine z_lconst (pc' := 48) C dX9_certifiedOf_47 zl_0 rfl ?_
        refine z_ladd (pc' := 49) C dX9_certifiedOf_48 rfl ?_
        refine z_lstore_n (pc' := 50) C [(2, .long (x2 + (0 : Int64))), (0, .ref (zo w + a)), (1, .int x1), (4, .int x4)] dX9_certifiedOf_49 rfl rfl rfl rfl ?_
        refine z_iinc (pc' := 53) C 3 [(4, .int (x4 + (1 : Int32))), (2, .long (x2 + (0 : Int64))), (0, .ref (zo w + a)), (1, .int x1)] dX9_certifiedOf_50 rfl zk_iconst_1 rfl rfl rfl ?_
        refine z_goto C 5 dX9_certifiedOf_53 rfl ?_
        refine z_pick (lv' := [(0, .ref (zo w + a)), (1, .int x1), (2, .long (x2 + (0 : Int64))), (4, .int (x4 + (1 : Int32)))]) [2, 3, 1, 0] rfl ?_
        exact ih hf
      · refine z_aload_n (pc' := 34) C 0 dX9_certifiedOf_33 rfl rfl rfl ?_
        refine z_iload (pc' := 36) C 3 dX9_certifiedOf_34 rfl rfl ?_
        refine z_cS (pc' := 39) C hf (As := [.int x4]) (fun hq => c_X9_bill  hq) (fun _ => h) (fun q_36 => [.int q_36, .ref (zo w + a), .long x2]) (fun _ => rfl) (fun _ => rfl) zy_X9_bill zw_1494 zw_1495 ⟨rfl, rfl⟩ rfl rfl rfl rfl rfl dX9_certifiedOf_36 rfl (fun q_36 hf => ?_)
        refine z_iconst (pc' := 40) C dX9_certifiedOf_39 zk_iconst_1 rfl ?_
        refine z_iadd (pc' := 41) C dX9_certifiedOf_40 rfl ?_
        refine z_cV (pc' := 44) C hf (As := [.int (q_36 + (1 : Int32))]) (fun hq => c_X9_get (a := a) h_a0 h_a1 hq) (fun _ => h) (fun q_41 => [.long q_41, .long x2]) (fun _ => rfl) (fun _ => rfl) zy_X9_get zw_1349 zw_1351 zv_43 (ci := 9) rfl h_a0 ⟨rfl, rfl⟩ rfl rfl rfl rfl rfl dX9_certifiedOf_41 rfl (fun q_41 hf => ?_)
        refine z_goto C 48 dX9_certifiedOf_44 rfl ?_
        refine z_ladd (pc' := 49) C dX9_certifiedOf_48 rfl ?_
        refine z_lstore_n (pc' := 50) C [(2, .long (x2 + q_41)), (0, .ref (zo w + a)), (1, .int x1), (4, .int x4)] dX9_certifiedOf_49 rfl rfl rfl rfl ?_
        refine z_iinc (pc' := 53) C 3 [(4, .int (x4 + (1 : Int32))), (2, .long (x2 + q_41)), (0, .ref (zo w + a)), (1, .int x1)] dX9_certifiedOf_50 rfl zk_iconst_1 rfl rfl rfl ?_
        refine z_goto C 5 dX9_certifiedOf_53 rfl ?_
        refine z_pick (lv' := [(0, .ref (zo w + a)), (1, .int x1), (2, .long (x2 + q_41)), (4, .int (x4 + (1 : Int32)))]) [2, 3, 1, 0] rfl ?_
        exact ih hf
set_option maxRecDepth 20000 in
theorem c_X9_certifiedOf {w : zV} {N : Nat} {h : zH} {a : Nat} {m_thrown : Int32} {m_next : Int32} {m_error : Int32} {m_place : Int32} {m_began : Int32} {m_nested : Int32} {m_once : Int32} {m_now : Int32} {m_undoable : Int32} {m_bytes : Int32} {m_errorAt : Int32} {m_size : Int32} {m_rows : Nat → Int64} {p1 : Int32} (h_a0 : zc N h (a + 0) (.inr (9, [.int m_thrown, .ref (zo w + (a + 1)), .ref (zo w + (a + 2)), .ref (zo w + (a + 3)), .int m_now, .int m_undoable, .ref (zo w + (a + 4)), .int m_bytes, .int m_errorAt, .int m_size, .int m_next, .int m_error, .int m_place, .int m_began, .int m_nested, .int m_once, .ref (zo w + (a + 5))]))) (h_a1 : zc N h (a + 1) (.inl (w.2.2.1 1, 22500, .inr (.inl m_rows)))) {r : Int64} (hf : f_X9_certifiedOf m_now m_rows p1 = some r) : zM w yX9_certifiedOf cX9_certifiedOf 5 (some .long) (zr 1 29) false N N h [.ref (zo w + a), .int p1] (some (.long r)) h := by
  unfold f_X9_certifiedOf at hf
  refine zM_of (by decide) rfl (fun X C _ => ?_)
  refine z_pick (lv' := [(0, .ref (zo w + a)), (1, .int p1)]) [0, 1] rfl ?_
  refine z_lconst (pc' := 1) C dX9_certifiedOf_0 zl_0 rfl ?_
  refine z_lstore_n (pc' := 2) C [(2, .long (0 : Int64)), (0, .ref (zo w + a)), (1, .int p1)] dX9_certifiedOf_1 rfl rfl rfl rfl ?_
  refine z_iconst (pc' := 3) C dX9_certifiedOf_2 zk_iconst_0 rfl ?_
  refine z_istore (pc' := 5) C [(4, .int (0 : Int32)), (2, .long (0 : Int64)), (0, .ref (zo w + a)), (1, .int p1)] dX9_certifiedOf_3 rfl rfl rfl ?_
  refine z_pick (lv' := [(0, .ref (zo w + a)), (1, .int p1), (2, .long (0 : Int64)), (4, .int (0 : Int32))]) [2, 3, 1, 0] rfl ?_
  exact w_X9_certifiedOf_5 C h_a0 h_a1  FU hf
set_option maxRecDepth 20000 in
theorem w_X9_openBefore_6 {X : zC} {w : zV} {N : Nat} {h : zH} {a : Nat} {m_thrown : Int32} {m_next : Int32} {m_error : Int32} {m_place : Int32} {m_began : Int32} {m_nested : Int32} {m_once : Int32} {m_now : Int32} {m_undoable : Int32} {m_bytes : Int32} {m_errorAt : Int32} {m_size : Int32} {m_rows : Nat → Int64} (C : zK X w RX9 cX9_openBefore 7 (some .long) (zr 2 58)) (h_a0 : zc N h (a + 0) (.inr (9, [.int m_thrown, .ref (zo w + (a + 1)), .ref (zo w + (a + 2)), .ref (zo w + (a + 3)), .int m_now, .int m_undoable, .ref (zo w + (a + 4)), .int m_bytes, .int m_errorAt, .int m_size, .int m_next, .int m_error, .int m_place, .int m_began, .int m_nested, .int m_once, .ref (zo w + (a + 5))]))) (h_a1 : zc N h (a + 1) (.inl (w.2.2.1 1, 22500, .inr (.inl m_rows)))) {r : Int64} (n : Nat) : ∀ {x1 : Int32} {x2 : Int64} {x4 : Int64} {x6 : Int32}, f_X9_openBefore_6  n m_now m_rows x1 x2 x4 x6 = some r → zZ X w (zQ X w (zr 2 58) (some (.long r)) false N h) 0 0 false N h 6 [(0, .ref (zo w + a)), (1, .int x1), (2, .long x2), (4, .long x4), (6, .int x6)] [] := by
  induction n with
  | zero =>
    intro x1 x2 x4 x6 hf
    have hf : (none : Option (Int64)) = some r := hf
    cases hf
  | succ z ih =>
    intro x1 x2 x4 x6 hf
    rw [f_X9_openBefore_6] at hf
    refine z_iload (pc' := 8) C 4 dX9_openBefore_6 rfl rfl ?_
    refine z_i2l (pc' := 9) C dX9_openBefore_8 rfl ?_
    refine z_aload_n (pc' := 10) C 0 dX9_openBefore_9 rfl rfl rfl ?_
    refine z_iconst (pc' := 11) C dX9_openBefore_10 zk_iconst_5 rfl ?_
    refine z_cV (pc' := 14) C hf (As := [.int (5 : Int32)]) (fun hq => c_X9_get (a := a) h_a0 h_a1 hq) (fun _ => h) (fun q_11 => [.long q_11, .long (x6).toInt64]) (fun _ => rfl) (fun _ => rfl) zy_X9_get zw_1349 zw_1351 zv_43 (ci := 9) rfl h_a0 ⟨rfl, rfl⟩ rfl rfl rfl rfl rfl dX9_openBefore_11 rfl (fun q_11 hf => ?_)
    refine z_lcmp_ge (pc' := 18) C 70 hf dX9_openBefore_14 rfl dX9_openBefore_15 rfl rfl (fun g_14 hf => ?_) (fun g_14 hf => ?_)
    · refine z_lload (pc' := 72) C 3 dX9_openBefore_70 rfl rfl ?_
      cases hf
      exact z_lret C rfl rfl dX9_openBefore_72
    · refine z_lload (pc' := 20) C 3 dX9_openBefore_18 rfl rfl ?_
      refine z_aload_n (pc' := 21) C 0 dX9_openBefore_20 rfl rfl rfl ?_
      refine z_iload (pc' := 23) C 4 dX9_openBefore_21 rfl rfl ?_
      refine z_cS (pc' := 26) C hf (As := [.int x6]) (fun hq => c_X9_bill  hq) (fun _ => h) (fun q_23 => [.int q_23, .ref (zo w + a), .long x4]) (fun _ => rfl) (fun _ => rfl) zy_X9_bill zw_1494 zw_1495 ⟨rfl, rfl⟩ rfl rfl rfl rfl rfl dX9_openBefore_23 rfl (fun q_23 hf => ?_)
      refine z_cV (pc' := 29) C hf (As := [.int q_23]) (fun hq => c_X9_get (a := a) h_a0 h_a1 hq) (fun _ => h) (fun q_26 => [.long q_26, .long x4]) (fun _ => rfl) (fun _ => rfl) zy_X9_get zw_1349 zw_1351 zv_43 (ci := 9) rfl h_a0 ⟨rfl, rfl⟩ rfl rfl rfl rfl rfl dX9_openBefore_26 rfl (fun q_26 hf => ?_)
      refine z_iload_n (pc' := 30) C 1 dX9_openBefore_29 rfl rfl rfl ?_
      refine z_i2l (pc' := 31) C dX9_openBefore_30 rfl ?_
      refine z_lcmp_ne (pc' := 35) C 60 hf dX9_openBefore_31 rfl dX9_openBefore_32 rfl rfl (fun g_31 hf => ?_) (fun g_31 hf => ?_)
      · refine z_lconst (pc' := 61) C dX9_openBefore_60 zl_0 rfl ?_
        refine z_ladd (pc' := 62) C dX9_openBefore_61 rfl ?_
        refine z_lstore (pc' := 64) C [(4, .long (x4 + (0 : Int64))), (0, .ref (zo w + a)), (1, .int x1), (2, .long x2), (6, .int x6)] dX9_openBefore_62 rfl rfl rfl ?_
        refine z_iinc (pc' := 67) C 4 [(6, .int (x6 + (1 : Int32))), (4, .long (x4 + (0 : Int64))), (0, .ref (zo w + a)), (1, .int x1), (2, .long x2)] dX9_openBefore_64 rfl zk_iconst_1 rfl rfl rfl ?_
        refine z_goto C 6 dX9_openBefore_67 rfl ?_
        refine z_pick (lv' := [(0, .ref (zo w + a)), (1, .int x1), (2, .long x2), (4, .long (x4 + (0 : Int64))), (6, .int (x6 + (1 : Int32)))]) [2, 3, 4, 1, 0] rfl ?_
        exact ih hf
      · refine z_aload_n (pc' := 36) C 0 dX9_openBefore_35 rfl rfl rfl ?_
        refine z_iload (pc' := 38) C 4 dX9_openBefore_36 rfl rfl ?_
        refine z_cS (pc' := 41) C hf (As := [.int x6]) (fun hq => c_X9_bill  hq) (fun _ => h) (fun q_38 => [.int q_38, .ref (zo w + a), .long x4]) (fun _ => rfl) (fun _ => rfl) zy_X9_bill zw_1494 zw_1495 ⟨rfl, rfl⟩ rfl rfl rfl rfl rfl dX9_openBefore_38 rfl (fun q_38 hf => ?_)
        refine z_iconst (pc' := 42) C dX9_openBefore_41 zk_iconst_4 rfl ?_
        refine z_iadd (pc' := 43) C dX9_openBefore_42 rfl ?_
        refine z_cV (pc' := 46) C hf (As := [.int (q_38 + (4 : Int32))]) (fun hq => c_X9_get (a := a) h_a0 h_a1 hq) (fun _ => h) (fun q_43 => [.long q_43, .long x4]) (fun _ => rfl) (fun _ => rfl) zy_X9_get zw_1349 zw_1351 zv_43 (ci := 9) rfl h_a0 ⟨rfl, rfl⟩ rfl rfl rfl rfl rfl dX9_openBefore_43 rfl (fun q_43 hf => ?_)
        refine z_lload_n (pc' := 47) C 2 dX9_openBefore_46 rfl rfl rfl ?_
        refine z_lcmp_ge (pc' := 51) C 60 hf dX9_openBefore_47 rfl dX9_openBefore_48 rfl rfl (fun g_47 hf => ?_) (fun g_47 hf => ?_)
        · refine z_lconst (pc' := 61) C dX9_openBefore_60 zl_0 rfl ?_
          refine z_ladd (pc' := 62) C dX9_openBefore_61 rfl ?_
          refine z_lstore (pc' := 64) C [(4, .long (x4 + (0 : Int64))), (0, .ref (zo w + a)), (1, .int x1), (2, .long x2), (6, .int x6)] dX9_openBefore_62 rfl rfl rfl ?_
          refine z_iinc (pc' := 67) C 4 [(6, .int (x6 + (1 : Int32))), (4, .long (x4 + (0 : Int64))), (0, .ref (zo w + a)), (1, .int x1), (2, .long x2)] dX9_openBefore_64 rfl zk_iconst_1 rfl rfl rfl ?_
          refine z_goto C 6 dX9_openBefore_67 rfl ?_
          refine z_pick (lv' := [(0, .ref (zo w + a)), (1, .int x1), (2, .long x2), (4, .long (x4 + (0 : Int64))), (6, .int (x6 + (1 : Int32)))]) [2, 3, 4, 1, 0] rfl ?_
          exact ih hf
        · refine z_aload_n (pc' := 52) C 0 dX9_openBefore_51 rfl rfl rfl ?_
          refine z_iload (pc' := 54) C 4 dX9_openBefore_52 rfl rfl ?_
          refine z_cV (pc' := 57) C hf (As := [.int x6]) (fun hq => c_X9_openOf (a := a) h_a0 h_a1 hq) (fun _ => h) (fun q_54 => [.long q_54, .long x4]) (fun _ => rfl) (fun _ => rfl) zy_X9_openOf zw_1509 zw_1511 zv_63 (ci := 9) rfl h_a0 ⟨rfl, rfl⟩ rfl rfl rfl rfl rfl dX9_openBefore_54 rfl (fun q_54 hf => ?_)
          refine z_goto C 61 dX9_openBefore_57 rfl ?_
          refine z_ladd (pc' := 62) C dX9_openBefore_61 rfl ?_
          refine z_lstore (pc' := 64) C [(4, .long (x4 + q_54)), (0, .ref (zo w + a)), (1, .int x1), (2, .long x2), (6, .int x6)] dX9_openBefore_62 rfl rfl rfl ?_
          refine z_iinc (pc' := 67) C 4 [(6, .int (x6 + (1 : Int32))), (4, .long (x4 + q_54)), (0, .ref (zo w + a)), (1, .int x1), (2, .long x2)] dX9_openBefore_64 rfl zk_iconst_1 rfl rfl rfl ?_
          refine z_goto C 6 dX9_openBefore_67 rfl ?_
          refine z_pick (lv' := [(0, .ref (zo w + a)), (1, .int x1), (2, .long x2), (4, .long (x4 + q_54)), (6, .int (x6 + (1 : Int32)))]) [2, 3, 4, 1, 0] rfl ?_
          exact ih hf
set_option maxRecDepth 20000 in
theorem c_X9_openBefore {w : zV} {N : Nat} {h : zH} {a : Nat} {m_thrown : Int32} {m_next : Int32} {m_error : Int32} {m_place : Int32} {m_began : Int32} {m_nested : Int32} {m_once : Int32} {m_now : Int32} {m_undoable : Int32} {m_bytes : Int32} {m_errorAt : Int32} {m_size : Int32} {m_rows : Nat → Int64} {p1 : Int32} {p2 : Int64} (h_a0 : zc N h (a + 0) (.inr (9, [.int m_thrown, .ref (zo w + (a + 1)), .ref (zo w + (a + 2)), .ref (zo w + (a + 3)), .int m_now, .int m_undoable, .ref (zo w + (a + 4)), .int m_bytes, .int m_errorAt, .int m_size, .int m_next, .int m_error, .int m_place, .int m_began, .int m_nested, .int m_once, .ref (zo w + (a + 5))]))) (h_a1 : zc N h (a + 1) (.inl (w.2.2.1 1, 22500, .inr (.inl m_rows)))) {r : Int64} (hf : f_X9_openBefore m_now m_rows p1 p2 = some r) : zM w yX9_openBefore cX9_openBefore 7 (some .long) (zr 2 58) false N N h [.ref (zo w + a), .int p1, .long p2] (some (.long r)) h := by
  unfold f_X9_openBefore at hf
  refine zM_of (by decide) rfl (fun X C _ => ?_)
  refine z_pick (lv' := [(0, .ref (zo w + a)), (1, .int p1), (2, .long p2)]) [0, 1, 2] rfl ?_
  refine z_lconst (pc' := 1) C dX9_openBefore_0 zl_0 rfl ?_
  refine z_lstore (pc' := 3) C [(4, .long (0 : Int64)), (0, .ref (zo w + a)), (1, .int p1), (2, .long p2)] dX9_openBefore_1 rfl rfl rfl ?_
  refine z_iconst (pc' := 4) C dX9_openBefore_3 zk_iconst_0 rfl ?_
  refine z_istore (pc' := 6) C [(6, .int (0 : Int32)), (4, .long (0 : Int64)), (0, .ref (zo w + a)), (1, .int p1), (2, .long p2)] dX9_openBefore_4 rfl rfl rfl ?_
  refine z_pick (lv' := [(0, .ref (zo w + a)), (1, .int p1), (2, .long p2), (4, .long (0 : Int64)), (6, .int (0 : Int32))]) [2, 3, 4, 1, 0] rfl ?_
  exact w_X9_openBefore_6 C h_a0 h_a1  FU hf
set_option maxRecDepth 20000 in
theorem c_X9_unpaidOf {w : zV} {N : Nat} {h : zH} {a : Nat} {m_thrown : Int32} {m_next : Int32} {m_error : Int32} {m_place : Int32} {m_began : Int32} {m_nested : Int32} {m_once : Int32} {m_now : Int32} {m_undoable : Int32} {m_bytes : Int32} {m_errorAt : Int32} {m_size : Int32} {m_rows : Nat → Int64} {p1 : Int32} (h_a0 : zc N h (a + 0) (.inr (9, [.int m_thrown, .ref (zo w + (a + 1)), .ref (zo w + (a + 2)), .ref (zo w + (a + 3)), .int m_now, .int m_undoable, .ref (zo w + (a + 4)), .int m_bytes, .int m_errorAt, .int m_size, .int m_next, .int m_error, .int m_place, .int m_began, .int m_nested, .int m_once, .ref (zo w + (a + 5))]))) (h_a1 : zc N h (a + 1) (.inl (w.2.2.1 1, 22500, .inr (.inl m_rows)))) {r : Int64} (hf : f_X9_unpaidOf m_now m_rows p1 = some r) : zM w yX9_unpaidOf cX9_unpaidOf 2 (some .long) (zr 3 92) false N N h [.ref (zo w + a), .int p1] (some (.long r)) h := by
  unfold f_X9_unpaidOf at hf
  refine zM_of (by decide) rfl (fun X C _ => ?_)
  refine z_pick (lv' := [(0, .ref (zo w + a)), (1, .int p1)]) [0, 1] rfl ?_
  refine z_aload_n (pc' := 1) C 0 dX9_unpaidOf_0 rfl rfl rfl ?_
  refine z_iload_n (pc' := 2) C 1 dX9_unpaidOf_1 rfl rfl rfl ?_
  refine z_ldc2 (pc' := 5) C zw_1424 dX9_unpaidOf_2 rfl ?_
  refine z_cV (pc' := 8) C hf (As := [.int p1, .long (1000000 : Int64)]) (fun hq => c_X9_openBefore (a := a) h_a0 h_a1 hq) (fun _ => h) (fun q_5 => [.long q_5]) (fun _ => rfl) (fun _ => rfl) zy_X9_openBefore zw_1505 zw_1507 zv_62 (ci := 9) rfl h_a0 ⟨rfl, rfl⟩ rfl rfl rfl rfl rfl dX9_unpaidOf_5 rfl (fun q_5 hf => ?_)
  cases hf
  exact z_lret C rfl rfl dX9_unpaidOf_8
set_option maxRecDepth 20000 in
theorem c_X9_certified {w : zV} {N : Nat} {h : zH} {a : Nat} {m_thrown : Int32} {m_next : Int32} {m_error : Int32} {m_place : Int32} {m_began : Int32} {m_nested : Int32} {m_once : Int32} {m_now : Int32} {m_undoable : Int32} {m_bytes : Int32} {m_errorAt : Int32} {m_size : Int32} {m_rows : Nat → Int64} {p1 : Int32} (h_a0 : zc N h (a + 0) (.inr (9, [.int m_thrown, .ref (zo w + (a + 1)), .ref (zo w + (a + 2)), .ref (zo w + (a + 3)), .int m_now, .int m_undoable, .ref (zo w + (a + 4)), .int m_bytes, .int m_errorAt, .int m_size, .int m_next, .int m_error, .int m_place, .int m_began, .int m_nested, .int m_once, .ref (zo w + (a + 5))]))) (h_a1 : zc N h (a + 1) (.inl (w.2.2.1 1, 22500, .inr (.inl m_rows)))) {r : Int64 × Int32} (hf : f_X9_certified m_thrown m_now m_rows p1 = some r) : zM w yX9_certified cX9_certified 2 (some .long) (zr 2 62) false N N h [.ref (zo w + a), .int p1] (some (.long r.1)) (zu h a [(0, .inr (9, [.int r.2, .ref (zo w + (a + 1)), .ref (zo w + (a + 2)), .ref (zo w + (a + 3)), .int m_now, .int m_undoable, .ref (zo w + (a + 4)), .int m_bytes, .int m_errorAt, .int m_size, .int m_next, .int m_error, .int m_place, .int m_began, .int m_nested, .int m_once, .ref (zo w + (a + 5))]))]) := by
  unfold f_X9_certified at hf
  refine zM_of (by decide) rfl (fun X C _ => ?_)
  refine z_eq (h' := (zu h a [(0, .inr (9, [.int m_thrown, .ref (zo w + (a + 1)), .ref (zo w + (a + 2)), .ref (zo w + (a + 3)), .int m_now, .int m_undoable, .ref (zo w + (a + 4)), .int m_bytes, .int m_errorAt, .int m_size, .int m_next, .int m_error, .int m_place, .int m_began, .int m_nested, .int m_once, .ref (zo w + (a + 5))]))])) (zu_s h_a0 zu_0).symm ?_
  have n_a0 := h_a0.1
  refine z_pick (lv' := [(0, .ref (zo w + a)), (1, .int p1)]) [0, 1] rfl ?_
  refine z_aload_n (pc' := 1) C 0 dX9_certified_0 rfl rfl rfl ?_
  refine z_iload_n (pc' := 2) C 1 dX9_certified_1 rfl rfl rfl ?_
  refine z_cV (pc' := 5) C hf (As := [.int p1]) (fun hq => c_X9_isContract (a := a) (zc_i (o := 0) n_a0 rfl) (zc_o (o := 1) h_a1 rfl) hq) (fun q_2 => (zu h a [(0, .inr (9, [.int q_2.2, .ref (zo w + (a + 1)), .ref (zo w + (a + 2)), .ref (zo w + (a + 3)), .int m_now, .int m_undoable, .ref (zo w + (a + 4)), .int m_bytes, .int m_errorAt, .int m_size, .int m_next, .int m_error, .int m_place, .int m_began, .int m_nested, .int m_once, .ref (zo w + (a + 5))]))])) (fun q_2 => [.int q_2.1]) (fun _ => zu_sh (d := 0) rfl rfl) (fun _ => rfl) zy_X9_isContract zw_1377 zw_1379 zv_46 (ci := 9) rfl (zc_i (o := 0) n_a0 rfl) ⟨rfl, rfl⟩ rfl rfl rfl rfl rfl dX9_certified_2 rfl (fun q_2 hf => ?_)
  refine z_if_eq (pc' := 8) C 16 hf dX9_certified_5 rfl rfl (fun g_5 hf => ?_) (fun g_5 hf => ?_)
  · refine z_lconst (pc' := 17) C dX9_certified_16 zl_0 rfl ?_
    cases hf
    exact z_lret C rfl rfl dX9_certified_17
  · refine z_aload_n (pc' := 9) C 0 dX9_certified_8 rfl rfl rfl ?_
    refine z_iload_n (pc' := 10) C 1 dX9_certified_9 rfl rfl rfl ?_
    refine z_cV (pc' := 13) C hf (As := [.int p1]) (fun hq => c_X9_certifiedOf (a := a) (zc_i (o := 0) n_a0 rfl) (zc_o (o := 1) h_a1 rfl) hq) (fun _ => (zu h a [(0, .inr (9, [.int q_2.2, .ref (zo w + (a + 1)), .ref (zo w + (a + 2)), .ref (zo w + (a + 3)), .int m_now, .int m_undoable, .ref (zo w + (a + 4)), .int m_bytes, .int m_errorAt, .int m_size, .int m_next, .int m_error, .int m_place, .int m_began, .int m_nested, .int m_once, .ref (zo w + (a + 5))]))])) (fun q_10 => [.long q_10]) (fun _ => rfl) (fun _ => rfl) zy_X9_certifiedOf zw_1490 zw_1492 zv_60 (ci := 9) rfl (zc_i (o := 0) n_a0 rfl) ⟨rfl, rfl⟩ rfl rfl rfl rfl rfl dX9_certified_10 rfl (fun q_10 hf => ?_)
    refine z_goto C 17 dX9_certified_13 rfl ?_
    cases hf
    exact z_lret C rfl rfl dX9_certified_17
set_option maxRecDepth 20000 in
theorem c_X9_unpaid {w : zV} {N : Nat} {h : zH} {a : Nat} {m_thrown : Int32} {m_next : Int32} {m_error : Int32} {m_place : Int32} {m_began : Int32} {m_nested : Int32} {m_once : Int32} {m_now : Int32} {m_undoable : Int32} {m_bytes : Int32} {m_errorAt : Int32} {m_size : Int32} {m_rows : Nat → Int64} {p1 : Int32} (h_a0 : zc N h (a + 0) (.inr (9, [.int m_thrown, .ref (zo w + (a + 1)), .ref (zo w + (a + 2)), .ref (zo w + (a + 3)), .int m_now, .int m_undoable, .ref (zo w + (a + 4)), .int m_bytes, .int m_errorAt, .int m_size, .int m_next, .int m_error, .int m_place, .int m_began, .int m_nested, .int m_once, .ref (zo w + (a + 5))]))) (h_a1 : zc N h (a + 1) (.inl (w.2.2.1 1, 22500, .inr (.inl m_rows)))) {r : Int64 × Int32} (hf : f_X9_unpaid m_thrown m_now m_rows p1 = some r) : zM w yX9_unpaid cX9_unpaid 2 (some .long) (zr 4 121) false N N h [.ref (zo w + a), .int p1] (some (.long r.1)) (zu h a [(0, .inr (9, [.int r.2, .ref (zo w + (a + 1)), .ref (zo w + (a + 2)), .ref (zo w + (a + 3)), .int m_now, .int m_undoable, .ref (zo w + (a + 4)), .int m_bytes, .int m_errorAt, .int m_size, .int m_next, .int m_error, .int m_place, .int m_began, .int m_nested, .int m_once, .ref (zo w + (a + 5))]))]) := by
  unfold f_X9_unpaid at hf
  refine zM_of (by decide) rfl (fun X C _ => ?_)
  refine z_eq (h' := (zu h a [(0, .inr (9, [.int m_thrown, .ref (zo w + (a + 1)), .ref (zo w + (a + 2)), .ref (zo w + (a + 3)), .int m_now, .int m_undoable, .ref (zo w + (a + 4)), .int m_bytes, .int m_errorAt, .int m_size, .int m_next, .int m_error, .int m_place, .int m_began, .int m_nested, .int m_once, .ref (zo w + (a + 5))]))])) (zu_s h_a0 zu_0).symm ?_
  have n_a0 := h_a0.1
  refine z_pick (lv' := [(0, .ref (zo w + a)), (1, .int p1)]) [0, 1] rfl ?_
  refine z_aload_n (pc' := 1) C 0 dX9_unpaid_0 rfl rfl rfl ?_
  refine z_iload_n (pc' := 2) C 1 dX9_unpaid_1 rfl rfl rfl ?_
  refine z_cV (pc' := 5) C hf (As := [.int p1]) (fun hq => c_X9_isContract (a := a) (zc_i (o := 0) n_a0 rfl) (zc_o (o := 1) h_a1 rfl) hq) (fun q_2 => (zu h a [(0, .inr (9, [.int q_2.2, .ref (zo w + (a + 1)), .ref (zo w + (a + 2)), .ref (zo w + (a + 3)), .int m_now, .int m_undoable, .ref (zo w + (a + 4)), .int m_bytes, .int m_errorAt, .int m_size, .int m_next, .int m_error, .int m_place, .int m_began, .int m_nested, .int m_once, .ref (zo w + (a + 5))]))])) (fun q_2 => [.int q_2.1]) (fun _ => zu_sh (d := 0) rfl rfl) (fun _ => rfl) zy_X9_isContract zw_1377 zw_1379 zv_46 (ci := 9) rfl (zc_i (o := 0) n_a0 rfl) ⟨rfl, rfl⟩ rfl rfl rfl rfl rfl dX9_unpaid_2 rfl (fun q_2 hf => ?_)
  refine z_if_eq (pc' := 8) C 16 hf dX9_unpaid_5 rfl rfl (fun g_5 hf => ?_) (fun g_5 hf => ?_)
  · refine z_lconst (pc' := 17) C dX9_unpaid_16 zl_0 rfl ?_
    cases hf
    exact z_lret C rfl rfl dX9_unpaid_17
  · refine z_aload_n (pc' := 9) C 0 dX9_unpaid_8 rfl rfl rfl ?_
    refine z_iload_n (pc' := 10) C 1 dX9_unpaid_9 rfl rfl rfl ?_
    refine z_cV (pc' := 13) C hf (As := [.int p1]) (fun hq => c_X9_unpaidOf (a := a) (zc_i (o := 0) n_a0 rfl) (zc_o (o := 1) h_a1 rfl) hq) (fun _ => (zu h a [(0, .inr (9, [.int q_2.2, .ref (zo w + (a + 1)), .ref (zo w + (a + 2)), .ref (zo w + (a + 3)), .int m_now, .int m_undoable, .ref (zo w + (a + 4)), .int m_bytes, .int m_errorAt, .int m_size, .int m_next, .int m_error, .int m_place, .int m_began, .int m_nested, .int m_once, .ref (zo w + (a + 5))]))])) (fun q_10 => [.long q_10]) (fun _ => rfl) (fun _ => rfl) zy_X9_unpaidOf zw_1501 zw_1503 zv_61 (ci := 9) rfl (zc_i (o := 0) n_a0 rfl) ⟨rfl, rfl⟩ rfl rfl rfl rfl rfl dX9_unpaid_10 rfl (fun q_10 hf => ?_)
    refine z_goto C 17 dX9_unpaid_13 rfl ?_
    cases hf
    exact z_lret C rfl rfl dX9_unpaid_17
set_option maxRecDepth 20000 in
theorem c_X9_overdue {w : zV} {N : Nat} {h : zH} {a : Nat} {m_thrown : Int32} {m_next : Int32} {m_error : Int32} {m_place : Int32} {m_began : Int32} {m_nested : Int32} {m_once : Int32} {m_now : Int32} {m_undoable : Int32} {m_bytes : Int32} {m_errorAt : Int32} {m_size : Int32} {m_rows : Nat → Int64} {p1 : Int32} (h_a0 : zc N h (a + 0) (.inr (9, [.int m_thrown, .ref (zo w + (a + 1)), .ref (zo w + (a + 2)), .ref (zo w + (a + 3)), .int m_now, .int m_undoable, .ref (zo w + (a + 4)), .int m_bytes, .int m_errorAt, .int m_size, .int m_next, .int m_error, .int m_place, .int m_began, .int m_nested, .int m_once, .ref (zo w + (a + 5))]))) (h_a1 : zc N h (a + 1) (.inl (w.2.2.1 1, 22500, .inr (.inl m_rows)))) {r : Int64 × Int32} (hf : f_X9_overdue m_thrown m_now m_rows p1 = some r) : zM w yX9_overdue cX9_overdue 2 (some .long) (zr 3 92) false N N h [.ref (zo w + a), .int p1] (some (.long r.1)) (zu h a [(0, .inr (9, [.int r.2, .ref (zo w + (a + 1)), .ref (zo w + (a + 2)), .ref (zo w + (a + 3)), .int m_now, .int m_undoable, .ref (zo w + (a + 4)), .int m_bytes, .int m_errorAt, .int m_size, .int m_next, .int m_error, .int m_place, .int m_began, .int m_nested, .int m_once, .ref (zo w + (a + 5))]))]) := by
  unfold f_X9_overdue at hf
  refine zM_of (by decide) rfl (fun X C _ => ?_)
  refine z_eq (h' := (zu h a [(0, .inr (9, [.int m_thrown, .ref (zo w + (a + 1)), .ref (zo w + (a + 2)), .ref (zo w + (a + 3)), .int m_now, .int m_undoable, .ref (zo w + (a + 4)), .int m_bytes, .int m_errorAt, .int m_size, .int m_next, .int m_error, .int m_place, .int m_began, .int m_nested, .int m_once, .ref (zo w + (a + 5))]))])) (zu_s h_a0 zu_0).symm ?_
  have n_a0 := h_a0.1
  refine z_pick (lv' := [(0, .ref (zo w + a)), (1, .int p1)]) [0, 1] rfl ?_
  refine z_aload_n (pc' := 1) C 0 dX9_overdue_0 rfl rfl rfl ?_
  refine z_iload_n (pc' := 2) C 1 dX9_overdue_1 rfl rfl rfl ?_
  refine z_cV (pc' := 5) C hf (As := [.int p1]) (fun hq => c_X9_isContract (a := a) (zc_i (o := 0) n_a0 rfl) (zc_o (o := 1) h_a1 rfl) hq) (fun q_2 => (zu h a [(0, .inr (9, [.int q_2.2, .ref (zo w + (a + 1)), .ref (zo w + (a + 2)), .ref (zo w + (a + 3)), .int m_now, .int m_undoable, .ref (zo w + (a + 4)), .int m_bytes, .int m_errorAt, .int m_size, .int m_next, .int m_error, .int m_place, .int m_began, .int m_nested, .int m_once, .ref (zo w + (a + 5))]))])) (fun q_2 => [.int q_2.1]) (fun _ => zu_sh (d := 0) rfl rfl) (fun _ => rfl) zy_X9_isContract zw_1377 zw_1379 zv_46 (ci := 9) rfl (zc_i (o := 0) n_a0 rfl) ⟨rfl, rfl⟩ rfl rfl rfl rfl rfl dX9_overdue_2 rfl (fun q_2 hf => ?_)
  refine z_if_eq (pc' := 8) C 21 hf dX9_overdue_5 rfl rfl (fun g_5 hf => ?_) (fun g_5 hf => ?_)
  · refine z_lconst (pc' := 22) C dX9_overdue_21 zl_0 rfl ?_
    cases hf
    exact z_lret C rfl rfl dX9_overdue_22
  · refine z_aload_n (pc' := 9) C 0 dX9_overdue_8 rfl rfl rfl ?_
    refine z_iload_n (pc' := 10) C 1 dX9_overdue_9 rfl rfl rfl ?_
    refine z_aload_n (pc' := 11) C 0 dX9_overdue_10 rfl rfl rfl ?_
    refine z_iconst (pc' := 12) C dX9_overdue_11 zk_iconst_1 rfl ?_
    refine z_cV (pc' := 15) C hf (As := [.int (1 : Int32)]) (fun hq => c_X9_get (a := a) (zc_i (o := 0) n_a0 rfl) (zc_o (o := 1) h_a1 rfl) hq) (fun _ => (zu h a [(0, .inr (9, [.int q_2.2, .ref (zo w + (a + 1)), .ref (zo w + (a + 2)), .ref (zo w + (a + 3)), .int m_now, .int m_undoable, .ref (zo w + (a + 4)), .int m_bytes, .int m_errorAt, .int m_size, .int m_next, .int m_error, .int m_place, .int m_began, .int m_nested, .int m_once, .ref (zo w + (a + 5))]))])) (fun q_12 => [.long q_12, .int p1, .ref (zo w + a)]) (fun _ => rfl) (fun _ => rfl) zy_X9_get zw_1349 zw_1351 zv_43 (ci := 9) rfl (zc_i (o := 0) n_a0 rfl) ⟨rfl, rfl⟩ rfl rfl rfl rfl rfl dX9_overdue_12 rfl (fun q_12 hf => ?_)
    refine z_cV (pc' := 18) C hf (As := [.int p1, .long q_12]) (fun hq => c_X9_openBefore (a := a) (zc_i (o := 0) n_a0 rfl) (zc_o (o := 1) h_a1 rfl) hq) (fun _ => (zu h a [(0, .inr (9, [.int q_2.2, .ref (zo w + (a + 1)), .ref (zo w + (a + 2)), .ref (zo w + (a + 3)), .int m_now, .int m_undoable, .ref (zo w + (a + 4)), .int m_bytes, .int m_errorAt, .int m_size, .int m_next, .int m_error, .int m_place, .int m_began, .int m_nested, .int m_once, .ref (zo w + (a + 5))]))])) (fun q_15 => [.long q_15]) (fun _ => rfl) (fun _ => rfl) zy_X9_openBefore zw_1505 zw_1507 zv_62 (ci := 9) rfl (zc_i (o := 0) n_a0 rfl) ⟨rfl, rfl⟩ rfl rfl rfl rfl rfl dX9_overdue_15 rfl (fun q_15 hf => ?_)
    refine z_goto C 22 dX9_overdue_18 rfl ?_
    cases hf
    exact z_lret C rfl rfl dX9_overdue_22
set_option maxRecDepth 20000 in
theorem c_X9_certificateCount {w : zV} {N : Nat} {h : zH} {a : Nat} {m_thrown : Int32} {m_next : Int32} {m_error : Int32} {m_place : Int32} {m_began : Int32} {m_nested : Int32} {m_once : Int32} {m_now : Int32} {m_undoable : Int32} {m_bytes : Int32} {m_errorAt : Int32} {m_size : Int32} {m_rows : Nat → Int64} (h_a0 : zc N h (a + 0) (.inr (9, [.int m_thrown, .ref (zo w + (a + 1)), .ref (zo w + (a + 2)), .ref (zo w + (a + 3)), .int m_now, .int m_undoable, .ref (zo w + (a + 4)), .int m_bytes, .int m_errorAt, .int m_size, .int m_next, .int m_error, .int m_place, .int m_began, .int m_nested, .int m_once, .ref (zo w + (a + 5))]))) (h_a1 : zc N h (a + 1) (.inl (w.2.2.1 1, 22500, .inr (.inl m_rows)))) {r : Int32 × Int32} (hf : f_X9_certificateCount m_thrown m_now m_rows = some r) : zM w yX9_certificateCount cX9_certificateCount 1 (some .int) (zr 2 58) false N N h [.ref (zo w + a)] (some (.int r.1)) (zu h a [(0, .inr (9, [.int r.2, .ref (zo w + (a + 1)), .ref (zo w + (a + 2)), .ref (zo w + (a + 3)), .int m_now, .int m_undoable, .ref (zo w + (a + 4)), .int m_bytes, .int m_errorAt, .int m_size, .int m_next, .int m_error, .int m_place, .int m_began, .int m_nested, .int m_once, .ref (zo w + (a + 5))]))]) := by
  unfold f_X9_certificateCount at hf
  refine zM_of (by decide) rfl (fun X C _ => ?_)
  refine z_eq (h' := (zu h a [(0, .inr (9, [.int m_thrown, .ref (zo w + (a + 1)), .ref (zo w + (a + 2)), .ref (zo w + (a + 3)), .int m_now, .int m_undoable, .ref (zo w + (a + 4)), .int m_bytes, .int m_errorAt, .int m_size, .int m_next, .int m_error, .int m_place, .int m_began, .int m_nested, .int m_once, .ref (zo w + (a + 5))]))])) (zu_s h_a0 zu_0).symm ?_
  have n_a0 := h_a0.1
  refine z_pick (lv' := [(0, .ref (zo w + a))]) [0] rfl ?_
  refine z_aload_n (pc' := 1) C 0 dX9_certificateCount_0 rfl rfl rfl ?_
  refine z_iconst (pc' := 2) C dX9_certificateCount_1 zk_iconst_0 rfl ?_
  refine z_putf (pc' := 5) C zci_9 zw_1184 (j := 0) rfl (zc_i (o := 0) n_a0 rfl) (fs' := [.int (0 : Int32), .ref (zo w + (a + 1)), .ref (zo w + (a + 2)), .ref (zo w + (a + 3)), .int m_now, .int m_undoable, .ref (zo w + (a + 4)), .int m_bytes, .int m_errorAt, .int m_size, .int m_next, .int m_error, .int m_place, .int m_began, .int m_nested, .int m_once, .ref (zo w + (a + 5))]) rfl rfl rfl rfl rfl (zu_put (o := 0) (L' := [(0, .inr (9, [.int (0 : Int32), .ref (zo w + (a + 1)), .ref (zo w + (a + 2)), .ref (zo w + (a + 3)), .int m_now, .int m_undoable, .ref (zo w + (a + 4)), .int m_bytes, .int m_errorAt, .int m_size, .int m_next, .int m_error, .int m_place, .int m_began, .int m_nested, .int m_once, .ref (zo w + (a + 5))]))]) rfl) dX9_certificateCount_2 rfl ?_
  refine z_aload_n (pc' := 6) C 0 dX9_certificateCount_5 rfl rfl rfl ?_
  refine z_iconst (pc' := 7) C dX9_certificateCount_6 zk_iconst_5 rfl ?_
  refine z_cV (pc' := 10) C hf (As := [.int (5 : Int32)]) (fun hq => c_X9_small (a := a) (zc_i (o := 0) n_a0 rfl) (zc_o (o := 1) h_a1 rfl) hq) (fun _ => (zu h a [(0, .inr (9, [.int (0 : Int32), .ref (zo w + (a + 1)), .ref (zo w + (a + 2)), .ref (zo w + (a + 3)), .int m_now, .int m_undoable, .ref (zo w + (a + 4)), .int m_bytes, .int m_errorAt, .int m_size, .int m_next, .int m_error, .int m_place, .int m_began, .int m_nested, .int m_once, .ref (zo w + (a + 5))]))])) (fun q_7 => [.int q_7]) (fun _ => rfl) (fun _ => rfl) zy_X9_small zw_1357 zw_1359 zv_45 (ci := 9) rfl (zc_i (o := 0) n_a0 rfl) ⟨rfl, rfl⟩ rfl rfl rfl rfl rfl dX9_certificateCount_7 rfl (fun q_7 hf => ?_)
  cases hf
  exact z_iret C rfl rfl dX9_certificateCount_10
set_option maxRecDepth 20000 in
theorem c_X9_isBill {w : zV} {N : Nat} {h : zH} {a : Nat} {m_thrown : Int32} {m_next : Int32} {m_error : Int32} {m_place : Int32} {m_began : Int32} {m_nested : Int32} {m_once : Int32} {m_now : Int32} {m_undoable : Int32} {m_bytes : Int32} {m_errorAt : Int32} {m_size : Int32} {m_rows : Nat → Int64} {p1 : Int32} (h_a0 : zc N h (a + 0) (.inr (9, [.int m_thrown, .ref (zo w + (a + 1)), .ref (zo w + (a + 2)), .ref (zo w + (a + 3)), .int m_now, .int m_undoable, .ref (zo w + (a + 4)), .int m_bytes, .int m_errorAt, .int m_size, .int m_next, .int m_error, .int m_place, .int m_began, .int m_nested, .int m_once, .ref (zo w + (a + 5))]))) (h_a1 : zc N h (a + 1) (.inl (w.2.2.1 1, 22500, .inr (.inl m_rows)))) {r : Int32 × Int32} (hf : f_X9_isBill m_thrown m_now m_rows p1 = some r) : zM w yX9_isBill cX9_isBill 2 (some .boolean) (zr 1 33) false N N h [.ref (zo w + a), .int p1] (some (.int r.1)) (zu h a [(0, .inr (9, [.int r.2, .ref (zo w + (a + 1)), .ref (zo w + (a + 2)), .ref (zo w + (a + 3)), .int m_now, .int m_undoable, .ref (zo w + (a + 4)), .int m_bytes, .int m_errorAt, .int m_size, .int m_next, .int m_error, .int m_place, .int m_began, .int m_nested, .int m_once, .ref (zo w + (a + 5))]))]) := by
  unfold f_X9_isBill at hf
  refine zM_of (by decide) rfl (fun X C _ => ?_)
  refine z_eq (h' := (zu h a [(0, .inr (9, [.int m_thrown, .ref (zo w + (a + 1)), .ref (zo w + (a + 2)), .ref (zo w + (a + 3)), .int m_now, .int m_undoable, .ref (zo w + (a + 4)), .int m_bytes, .int m_errorAt, .int m_size, .int m_next, .int m_error, .int m_place, .int m_began, .int m_nested, .int m_once, .ref (zo w + (a + 5))]))])) (zu_s h_a0 zu_0).symm ?_
  have n_a0 := h_a0.1
  refine z_pick (lv' := [(0, .ref (zo w + a)), (1, .int p1)]) [0, 1] rfl ?_
  refine z_aload_n (pc' := 1) C 0 dX9_isBill_0 rfl rfl rfl ?_
  refine z_iconst (pc' := 2) C dX9_isBill_1 zk_iconst_0 rfl ?_
  refine z_putf (pc' := 5) C zci_9 zw_1184 (j := 0) rfl (zc_i (o := 0) n_a0 rfl) (fs' := [.int (0 : Int32), .ref (zo w + (a + 1)), .ref (zo w + (a + 2)), .ref (zo w + (a + 3)), .int m_now, .int m_undoable, .ref (zo w + (a + 4)), .int m_bytes, .int m_errorAt, .int m_size, .int m_next, .int m_error, .int m_place, .int m_began, .int m_nested, .int m_once, .ref (zo w + (a + 5))]) rfl rfl rfl rfl rfl (zu_put (o := 0) (L' := [(0, .inr (9, [.int (0 : Int32), .ref (zo w + (a + 1)), .ref (zo w + (a + 2)), .ref (zo w + (a + 3)), .int m_now, .int m_undoable, .ref (zo w + (a + 4)), .int m_bytes, .int m_errorAt, .int m_size, .int m_next, .int m_error, .int m_place, .int m_began, .int m_nested, .int m_once, .ref (zo w + (a + 5))]))]) rfl) dX9_isBill_2 rfl ?_
  refine z_aload_n (pc' := 6) C 0 dX9_isBill_5 rfl rfl rfl ?_
  refine z_iload_n (pc' := 7) C 1 dX9_isBill_6 rfl rfl rfl ?_
  refine z_i2l (pc' := 8) C dX9_isBill_7 rfl ?_
  refine z_lconst (pc' := 9) C dX9_isBill_8 zl_0 rfl ?_
  refine z_aload_n (pc' := 10) C 0 dX9_isBill_9 rfl rfl rfl ?_
  refine z_iconst (pc' := 11) C dX9_isBill_10 zk_iconst_5 rfl ?_
  refine z_cV (pc' := 14) C hf (As := [.int (5 : Int32)]) (fun hq => c_X9_get (a := a) (zc_i (o := 0) n_a0 rfl) (zc_o (o := 1) h_a1 rfl) hq) (fun _ => (zu h a [(0, .inr (9, [.int (0 : Int32), .ref (zo w + (a + 1)), .ref (zo w + (a + 2)), .ref (zo w + (a + 3)), .int m_now, .int m_undoable, .ref (zo w + (a + 4)), .int m_bytes, .int m_errorAt, .int m_size, .int m_next, .int m_error, .int m_place, .int m_began, .int m_nested, .int m_once, .ref (zo w + (a + 5))]))])) (fun q_11 => [.long q_11, .long (0 : Int64), .long (p1).toInt64, .ref (zo w + a)]) (fun _ => rfl) (fun _ => rfl) zy_X9_get zw_1349 zw_1351 zv_43 (ci := 9) rfl (zc_i (o := 0) n_a0 rfl) ⟨rfl, rfl⟩ rfl rfl rfl rfl rfl dX9_isBill_11 rfl (fun q_11 hf => ?_)
  refine z_lconst (pc' := 15) C dX9_isBill_14 zl_1 rfl ?_
  refine z_lsub (pc' := 16) C dX9_isBill_15 rfl ?_
  refine z_cS (pc' := 19) C hf (As := [.long (p1).toInt64, .long (0 : Int64), .long (q_11 - (1 : Int64))]) (fun hq => c_X9_isIn  hq) (fun _ => (zu h a [(0, .inr (9, [.int (0 : Int32), .ref (zo w + (a + 1)), .ref (zo w + (a + 2)), .ref (zo w + (a + 3)), .int m_now, .int m_undoable, .ref (zo w + (a + 4)), .int m_bytes, .int m_errorAt, .int m_size, .int m_next, .int m_error, .int m_place, .int m_began, .int m_nested, .int m_once, .ref (zo w + (a + 5))]))])) (fun q_16 => [.int q_16, .ref (zo w + a)]) (fun _ => rfl) (fun _ => rfl) zy_X9_isIn zw_1248 zw_1249 ⟨rfl, rfl⟩ rfl rfl rfl rfl rfl dX9_isBill_16 rfl (fun q_16 hf => ?_)
  refine z_iconst (pc' := 20) C dX9_isBill_19 zk_iconst_1 rfl ?_
  refine z_cV (pc' := 23) C hf (As := [.int q_16, .int (1 : Int32)]) (fun hq => c_X9_right (a := a) (zc_i (o := 0) n_a0 rfl) hq) (fun q_20 => (zu h a [(0, .inr (9, [.int q_20.2, .ref (zo w + (a + 1)), .ref (zo w + (a + 2)), .ref (zo w + (a + 3)), .int m_now, .int m_undoable, .ref (zo w + (a + 4)), .int m_bytes, .int m_errorAt, .int m_size, .int m_next, .int m_error, .int m_place, .int m_began, .int m_nested, .int m_once, .ref (zo w + (a + 5))]))])) (fun q_20 => [.int q_20.1]) (fun _ => zu_sh (d := 0) rfl rfl) (fun _ => rfl) zy_X9_right zw_1251 zw_1253 zv_23 (ci := 9) rfl (zc_i (o := 0) n_a0 rfl) ⟨rfl, rfl⟩ rfl rfl rfl rfl rfl dX9_isBill_20 rfl (fun q_20 hf => ?_)
  obtain ⟨g_23, hf⟩ := zG1_s hf
  cases hf
  exact z_zret C g_23 rfl rfl dX9_isBill_23
set_option maxRecDepth 20000 in
theorem c_X9_certificateContract {w : zV} {N : Nat} {h : zH} {a : Nat} {m_thrown : Int32} {m_next : Int32} {m_error : Int32} {m_place : Int32} {m_began : Int32} {m_nested : Int32} {m_once : Int32} {m_now : Int32} {m_undoable : Int32} {m_bytes : Int32} {m_errorAt : Int32} {m_size : Int32} {m_rows : Nat → Int64} {p1 : Int32} (h_a0 : zc N h (a + 0) (.inr (9, [.int m_thrown, .ref (zo w + (a + 1)), .ref (zo w + (a + 2)), .ref (zo w + (a + 3)), .int m_now, .int m_undoable, .ref (zo w + (a + 4)), .int m_bytes, .int m_errorAt, .int m_size, .int m_next, .int m_error, .int m_place, .int m_began, .int m_nested, .int m_once, .ref (zo w + (a + 5))]))) (h_a1 : zc N h (a + 1) (.inl (w.2.2.1 1, 22500, .inr (.inl m_rows)))) {r : Int32 × Int32} (hf : f_X9_certificateContract m_thrown m_now m_rows p1 = some r) : zM w yX9_certificateContract cX9_certificateContract 2 (some .int) (zr 2 62) false N N h [.ref (zo w + a), .int p1] (some (.int r.1)) (zu h a [(0, .inr (9, [.int r.2, .ref (zo w + (a + 1)), .ref (zo w + (a + 2)), .ref (zo w + (a + 3)), .int m_now, .int m_undoable, .ref (zo w + (a + 4)), .int m_bytes, .int m_errorAt, .int m_size, .int m_next, .int m_error, .int m_place, .int m_began, .int m_nested, .int m_once, .ref (zo w + (a + 5))]))]) := by
  unfold f_X9_certificateContract at hf
  refine zM_of (by decide) rfl (fun X C _ => ?_)
  refine z_eq (h' := (zu h a [(0, .inr (9, [.int m_thrown, .ref (zo w + (a + 1)), .ref (zo w + (a + 2)), .ref (zo w + (a + 3)), .int m_now, .int m_undoable, .ref (zo w + (a + 4)), .int m_bytes, .int m_errorAt, .int m_size, .int m_next, .int m_error, .int m_place, .int m_began, .int m_nested, .int m_once, .ref (zo w + (a + 5))]))])) (zu_s h_a0 zu_0).symm ?_
  have n_a0 := h_a0.1
  refine z_pick (lv' := [(0, .ref (zo w + a)), (1, .int p1)]) [0, 1] rfl ?_
  refine z_aload_n (pc' := 1) C 0 dX9_certificateContract_0 rfl rfl rfl ?_
  refine z_iload_n (pc' := 2) C 1 dX9_certificateContract_1 rfl rfl rfl ?_
  refine z_cV (pc' := 5) C hf (As := [.int p1]) (fun hq => c_X9_isBill (a := a) (zc_i (o := 0) n_a0 rfl) (zc_o (o := 1) h_a1 rfl) hq) (fun q_2 => (zu h a [(0, .inr (9, [.int q_2.2, .ref (zo w + (a + 1)), .ref (zo w + (a + 2)), .ref (zo w + (a + 3)), .int m_now, .int m_undoable, .ref (zo w + (a + 4)), .int m_bytes, .int m_errorAt, .int m_size, .int m_next, .int m_error, .int m_place, .int m_began, .int m_nested, .int m_once, .ref (zo w + (a + 5))]))])) (fun q_2 => [.int q_2.1]) (fun _ => zu_sh (d := 0) rfl rfl) (fun _ => rfl) zy_X9_isBill zw_1525 zw_1527 zv_64 (ci := 9) rfl (zc_i (o := 0) n_a0 rfl) ⟨rfl, rfl⟩ rfl rfl rfl rfl rfl dX9_certificateContract_2 rfl (fun q_2 hf => ?_)
  refine z_if_eq (pc' := 8) C 19 hf dX9_certificateContract_5 rfl rfl (fun g_5 hf => ?_) (fun g_5 hf => ?_)
  · refine z_iconst (pc' := 20) C dX9_certificateContract_19 zk_iconst_0 rfl ?_
    cases hf
    exact z_iret C rfl rfl dX9_certificateContract_20
  · refine z_aload_n (pc' := 9) C 0 dX9_certificateContract_8 rfl rfl rfl ?_
    refine z_iload_n (pc' := 10) C 1 dX9_certificateContract_9 rfl rfl rfl ?_
    refine z_cS (pc' := 13) C hf (As := [.int p1]) (fun hq => c_X9_bill  hq) (fun _ => (zu h a [(0, .inr (9, [.int q_2.2, .ref (zo w + (a + 1)), .ref (zo w + (a + 2)), .ref (zo w + (a + 3)), .int m_now, .int m_undoable, .ref (zo w + (a + 4)), .int m_bytes, .int m_errorAt, .int m_size, .int m_next, .int m_error, .int m_place, .int m_began, .int m_nested, .int m_once, .ref (zo w + (a + 5))]))])) (fun q_10 => [.int q_10, .ref (zo w + a)]) (fun _ => rfl) (fun _ => rfl) zy_X9_bill zw_1494 zw_1495 ⟨rfl, rfl⟩ rfl rfl rfl rfl rfl dX9_certificateContract_10 rfl (fun q_10 hf => ?_)
    refine z_cV (pc' := 16) C hf (As := [.int q_10]) (fun hq => c_X9_small (a := a) (zc_i (o := 0) n_a0 rfl) (zc_o (o := 1) h_a1 rfl) hq) (fun _ => (zu h a [(0, .inr (9, [.int q_2.2, .ref (zo w + (a + 1)), .ref (zo w + (a + 2)), .ref (zo w + (a + 3)), .int m_now, .int m_undoable, .ref (zo w + (a + 4)), .int m_bytes, .int m_errorAt, .int m_size, .int m_next, .int m_error, .int m_place, .int m_began, .int m_nested, .int m_once, .ref (zo w + (a + 5))]))])) (fun q_13 => [.int q_13]) (fun _ => rfl) (fun _ => rfl) zy_X9_small zw_1357 zw_1359 zv_45 (ci := 9) rfl (zc_i (o := 0) n_a0 rfl) ⟨rfl, rfl⟩ rfl rfl rfl rfl rfl dX9_certificateContract_13 rfl (fun q_13 hf => ?_)
    refine z_goto C 20 dX9_certificateContract_16 rfl ?_
    cases hf
    exact z_iret C rfl rfl dX9_certificateContract_20
set_option maxRecDepth 20000 in
theorem c_X9_amount {w : zV} {N : Nat} {h : zH} {a : Nat} {m_thrown : Int32} {m_next : Int32} {m_error : Int32} {m_place : Int32} {m_began : Int32} {m_nested : Int32} {m_once : Int32} {m_now : Int32} {m_undoable : Int32} {m_bytes : Int32} {m_errorAt : Int32} {m_size : Int32} {m_rows : Nat → Int64} {p1 : Int32} (h_a0 : zc N h (a + 0) (.inr (9, [.int m_thrown, .ref (zo w + (a + 1)), .ref (zo w + (a + 2)), .ref (zo w + (a + 3)), .int m_now, .int m_undoable, .ref (zo w + (a + 4)), .int m_bytes, .int m_errorAt, .int m_size, .int m_next, .int m_error, .int m_place, .int m_began, .int m_nested, .int m_once, .ref (zo w + (a + 5))]))) (h_a1 : zc N h (a + 1) (.inl (w.2.2.1 1, 22500, .inr (.inl m_rows)))) {r : Int64 × Int32} (hf : f_X9_amount m_thrown m_now m_rows p1 = some r) : zM w yX9_amount cX9_amount 2 (some .long) (zr 2 62) false N N h [.ref (zo w + a), .int p1] (some (.long r.1)) (zu h a [(0, .inr (9, [.int r.2, .ref (zo w + (a + 1)), .ref (zo w + (a + 2)), .ref (zo w + (a + 3)), .int m_now, .int m_undoable, .ref (zo w + (a + 4)), .int m_bytes, .int m_errorAt, .int m_size, .int m_next, .int m_error, .int m_place, .int m_began, .int m_nested, .int m_once, .ref (zo w + (a + 5))]))]) := by
  unfold f_X9_amount at hf
  refine zM_of (by decide) rfl (fun X C _ => ?_)
  refine z_eq (h' := (zu h a [(0, .inr (9, [.int m_thrown, .ref (zo w + (a + 1)), .ref (zo w + (a + 2)), .ref (zo w + (a + 3)), .int m_now, .int m_undoable, .ref (zo w + (a + 4)), .int m_bytes, .int m_errorAt, .int m_size, .int m_next, .int m_error, .int m_place, .int m_began, .int m_nested, .int m_once, .ref (zo w + (a + 5))]))])) (zu_s h_a0 zu_0).symm ?_
  have n_a0 := h_a0.1
  refine z_pick (lv' := [(0, .ref (zo w + a)), (1, .int p1)]) [0, 1] rfl ?_
  refine z_aload_n (pc' := 1) C 0 dX9_amount_0 rfl rfl rfl ?_
  refine z_iload_n (pc' := 2) C 1 dX9_amount_1 rfl rfl rfl ?_
  refine z_cV (pc' := 5) C hf (As := [.int p1]) (fun hq => c_X9_isBill (a := a) (zc_i (o := 0) n_a0 rfl) (zc_o (o := 1) h_a1 rfl) hq) (fun q_2 => (zu h a [(0, .inr (9, [.int q_2.2, .ref (zo w + (a + 1)), .ref (zo w + (a + 2)), .ref (zo w + (a + 3)), .int m_now, .int m_undoable, .ref (zo w + (a + 4)), .int m_bytes, .int m_errorAt, .int m_size, .int m_next, .int m_error, .int m_place, .int m_began, .int m_nested, .int m_once, .ref (zo w + (a + 5))]))])) (fun q_2 => [.int q_2.1]) (fun _ => zu_sh (d := 0) rfl rfl) (fun _ => rfl) zy_X9_isBill zw_1525 zw_1527 zv_64 (ci := 9) rfl (zc_i (o := 0) n_a0 rfl) ⟨rfl, rfl⟩ rfl rfl rfl rfl rfl dX9_amount_2 rfl (fun q_2 hf => ?_)
  refine z_if_eq (pc' := 8) C 21 hf dX9_amount_5 rfl rfl (fun g_5 hf => ?_) (fun g_5 hf => ?_)
  · refine z_lconst (pc' := 22) C dX9_amount_21 zl_0 rfl ?_
    cases hf
    exact z_lret C rfl rfl dX9_amount_22
  · refine z_aload_n (pc' := 9) C 0 dX9_amount_8 rfl rfl rfl ?_
    refine z_iload_n (pc' := 10) C 1 dX9_amount_9 rfl rfl rfl ?_
    refine z_cS (pc' := 13) C hf (As := [.int p1]) (fun hq => c_X9_bill  hq) (fun _ => (zu h a [(0, .inr (9, [.int q_2.2, .ref (zo w + (a + 1)), .ref (zo w + (a + 2)), .ref (zo w + (a + 3)), .int m_now, .int m_undoable, .ref (zo w + (a + 4)), .int m_bytes, .int m_errorAt, .int m_size, .int m_next, .int m_error, .int m_place, .int m_began, .int m_nested, .int m_once, .ref (zo w + (a + 5))]))])) (fun q_10 => [.int q_10, .ref (zo w + a)]) (fun _ => rfl) (fun _ => rfl) zy_X9_bill zw_1494 zw_1495 ⟨rfl, rfl⟩ rfl rfl rfl rfl rfl dX9_amount_10 rfl (fun q_10 hf => ?_)
    refine z_iconst (pc' := 14) C dX9_amount_13 zk_iconst_1 rfl ?_
    refine z_iadd (pc' := 15) C dX9_amount_14 rfl ?_
    refine z_cV (pc' := 18) C hf (As := [.int (q_10 + (1 : Int32))]) (fun hq => c_X9_get (a := a) (zc_i (o := 0) n_a0 rfl) (zc_o (o := 1) h_a1 rfl) hq) (fun _ => (zu h a [(0, .inr (9, [.int q_2.2, .ref (zo w + (a + 1)), .ref (zo w + (a + 2)), .ref (zo w + (a + 3)), .int m_now, .int m_undoable, .ref (zo w + (a + 4)), .int m_bytes, .int m_errorAt, .int m_size, .int m_next, .int m_error, .int m_place, .int m_began, .int m_nested, .int m_once, .ref (zo w + (a + 5))]))])) (fun q_15 => [.long q_15]) (fun _ => rfl) (fun _ => rfl) zy_X9_get zw_1349 zw_1351 zv_43 (ci := 9) rfl (zc_i (o := 0) n_a0 rfl) ⟨rfl, rfl⟩ rfl rfl rfl rfl rfl dX9_amount_15 rfl (fun q_15 hf => ?_)
    refine z_goto C 22 dX9_amount_18 rfl ?_
    cases hf
    exact z_lret C rfl rfl dX9_amount_22
set_option maxRecDepth 20000 in
theorem c_X9_openAmount {w : zV} {N : Nat} {h : zH} {a : Nat} {m_thrown : Int32} {m_next : Int32} {m_error : Int32} {m_place : Int32} {m_began : Int32} {m_nested : Int32} {m_once : Int32} {m_now : Int32} {m_undoable : Int32} {m_bytes : Int32} {m_errorAt : Int32} {m_size : Int32} {m_rows : Nat → Int64} {p1 : Int32} (h_a0 : zc N h (a + 0) (.inr (9, [.int m_thrown, .ref (zo w + (a + 1)), .ref (zo w + (a + 2)), .ref (zo w + (a + 3)), .int m_now, .int m_undoable, .ref (zo w + (a + 4)), .int m_bytes, .int m_errorAt, .int m_size, .int m_next, .int m_error, .int m_place, .int m_began, .int m_nested, .int m_once, .ref (zo w + (a + 5))]))) (h_a1 : zc N h (a + 1) (.inl (w.2.2.1 1, 22500, .inr (.inl m_rows)))) {r : Int64 × Int32} (hf : f_X9_openAmount m_thrown m_now m_rows p1 = some r) : zM w yX9_openAmount cX9_openAmount 2 (some .long) (zr 2 62) false N N h [.ref (zo w + a), .int p1] (some (.long r.1)) (zu h a [(0, .inr (9, [.int r.2, .ref (zo w + (a + 1)), .ref (zo w + (a + 2)), .ref (zo w + (a + 3)), .int m_now, .int m_undoable, .ref (zo w + (a + 4)), .int m_bytes, .int m_errorAt, .int m_size, .int m_next, .int m_error, .int m_place, .int m_began, .int m_nested, .int m_once, .ref (zo w + (a + 5))]))]) := by
  unfold f_X9_openAmount at hf
  refine zM_of (by decide) rfl (fun X C _ => ?_)
  refine z_eq (h' := (zu h a [(0, .inr (9, [.int m_thrown, .ref (zo w + (a + 1)), .ref (zo w + (a + 2)), .ref (zo w + (a + 3)), .int m_now, .int m_undoable, .ref (zo w + (a + 4)), .int m_bytes, .int m_errorAt, .int m_size, .int m_next, .int m_error, .int m_place, .int m_began, .int m_nested, .int m_once, .ref (zo w + (a + 5))]))])) (zu_s h_a0 zu_0).symm ?_
  have n_a0 := h_a0.1
  refine z_pick (lv' := [(0, .ref (zo w + a)), (1, .int p1)]) [0, 1] rfl ?_
  refine z_aload_n (pc' := 1) C 0 dX9_openAmount_0 rfl rfl rfl ?_
  refine z_iload_n (pc' := 2) C 1 dX9_openAmount_1 rfl rfl rfl ?_
  refine z_cV (pc' := 5) C hf (As := [.int p1]) (fun hq => c_X9_isBill (a := a) (zc_i (o := 0) n_a0 rfl) (zc_o (o := 1) h_a1 rfl) hq) (fun q_2 => (zu h a [(0, .inr (9, [.int q_2.2, .ref (zo w + (a + 1)), .ref (zo w + (a + 2)), .ref (zo w + (a + 3)), .int m_now, .int m_undoable, .ref (zo w + (a + 4)), .int m_bytes, .int m_errorAt, .int m_size, .int m_next, .int m_error, .int m_place, .int m_began, .int m_nested, .int m_once, .ref (zo w + (a + 5))]))])) (fun q_2 => [.int q_2.1]) (fun _ => zu_sh (d := 0) rfl rfl) (fun _ => rfl) zy_X9_isBill zw_1525 zw_1527 zv_64 (ci := 9) rfl (zc_i (o := 0) n_a0 rfl) ⟨rfl, rfl⟩ rfl rfl rfl rfl rfl dX9_openAmount_2 rfl (fun q_2 hf => ?_)
  refine z_if_eq (pc' := 8) C 16 hf dX9_openAmount_5 rfl rfl (fun g_5 hf => ?_) (fun g_5 hf => ?_)
  · refine z_lconst (pc' := 17) C dX9_openAmount_16 zl_0 rfl ?_
    cases hf
    exact z_lret C rfl rfl dX9_openAmount_17
  · refine z_aload_n (pc' := 9) C 0 dX9_openAmount_8 rfl rfl rfl ?_
    refine z_iload_n (pc' := 10) C 1 dX9_openAmount_9 rfl rfl rfl ?_
    refine z_cV (pc' := 13) C hf (As := [.int p1]) (fun hq => c_X9_openOf (a := a) (zc_i (o := 0) n_a0 rfl) (zc_o (o := 1) h_a1 rfl) hq) (fun _ => (zu h a [(0, .inr (9, [.int q_2.2, .ref (zo w + (a + 1)), .ref (zo w + (a + 2)), .ref (zo w + (a + 3)), .int m_now, .int m_undoable, .ref (zo w + (a + 4)), .int m_bytes, .int m_errorAt, .int m_size, .int m_next, .int m_error, .int m_place, .int m_began, .int m_nested, .int m_once, .ref (zo w + (a + 5))]))])) (fun q_10 => [.long q_10]) (fun _ => rfl) (fun _ => rfl) zy_X9_openOf zw_1509 zw_1511 zv_63 (ci := 9) rfl (zc_i (o := 0) n_a0 rfl) ⟨rfl, rfl⟩ rfl rfl rfl rfl rfl dX9_openAmount_10 rfl (fun q_10 hf => ?_)
    refine z_goto C 17 dX9_openAmount_13 rfl ?_
    cases hf
    exact z_lret C rfl rfl dX9_openAmount_17
set_option maxRecDepth 20000 in
theorem c_X9_dueDay {w : zV} {N : Nat} {h : zH} {a : Nat} {m_thrown : Int32} {m_next : Int32} {m_error : Int32} {m_place : Int32} {m_began : Int32} {m_nested : Int32} {m_once : Int32} {m_now : Int32} {m_undoable : Int32} {m_bytes : Int32} {m_errorAt : Int32} {m_size : Int32} {m_rows : Nat → Int64} {p1 : Int32} (h_a0 : zc N h (a + 0) (.inr (9, [.int m_thrown, .ref (zo w + (a + 1)), .ref (zo w + (a + 2)), .ref (zo w + (a + 3)), .int m_now, .int m_undoable, .ref (zo w + (a + 4)), .int m_bytes, .int m_errorAt, .int m_size, .int m_next, .int m_error, .int m_place, .int m_began, .int m_nested, .int m_once, .ref (zo w + (a + 5))]))) (h_a1 : zc N h (a + 1) (.inl (w.2.2.1 1, 22500, .inr (.inl m_rows)))) {r : Int32 × Int32} (hf : f_X9_dueDay m_thrown m_now m_rows p1 = some r) : zM w yX9_dueDay cX9_dueDay 2 (some .int) (zr 2 62) false N N h [.ref (zo w + a), .int p1] (some (.int r.1)) (zu h a [(0, .inr (9, [.int r.2, .ref (zo w + (a + 1)), .ref (zo w + (a + 2)), .ref (zo w + (a + 3)), .int m_now, .int m_undoable, .ref (zo w + (a + 4)), .int m_bytes, .int m_errorAt, .int m_size, .int m_next, .int m_error, .int m_place, .int m_began, .int m_nested, .int m_once, .ref (zo w + (a + 5))]))]) := by
  unfold f_X9_dueDay at hf
  refine zM_of (by decide) rfl (fun X C _ => ?_)
  refine z_eq (h' := (zu h a [(0, .inr (9, [.int m_thrown, .ref (zo w + (a + 1)), .ref (zo w + (a + 2)), .ref (zo w + (a + 3)), .int m_now, .int m_undoable, .ref (zo w + (a + 4)), .int m_bytes, .int m_errorAt, .int m_size, .int m_next, .int m_error, .int m_place, .int m_began, .int m_nested, .int m_once, .ref (zo w + (a + 5))]))])) (zu_s h_a0 zu_0).symm ?_
  have n_a0 := h_a0.1
  refine z_pick (lv' := [(0, .ref (zo w + a)), (1, .int p1)]) [0, 1] rfl ?_
  refine z_aload_n (pc' := 1) C 0 dX9_dueDay_0 rfl rfl rfl ?_
  refine z_iload_n (pc' := 2) C 1 dX9_dueDay_1 rfl rfl rfl ?_
  refine z_cV (pc' := 5) C hf (As := [.int p1]) (fun hq => c_X9_isBill (a := a) (zc_i (o := 0) n_a0 rfl) (zc_o (o := 1) h_a1 rfl) hq) (fun q_2 => (zu h a [(0, .inr (9, [.int q_2.2, .ref (zo w + (a + 1)), .ref (zo w + (a + 2)), .ref (zo w + (a + 3)), .int m_now, .int m_undoable, .ref (zo w + (a + 4)), .int m_bytes, .int m_errorAt, .int m_size, .int m_next, .int m_error, .int m_place, .int m_began, .int m_nested, .int m_once, .ref (zo w + (a + 5))]))])) (fun q_2 => [.int q_2.1]) (fun _ => zu_sh (d := 0) rfl rfl) (fun _ => rfl) zy_X9_isBill zw_1525 zw_1527 zv_64 (ci := 9) rfl (zc_i (o := 0) n_a0 rfl) ⟨rfl, rfl⟩ rfl rfl rfl rfl rfl dX9_dueDay_2 rfl (fun q_2 hf => ?_)
  refine z_if_eq (pc' := 8) C 21 hf dX9_dueDay_5 rfl rfl (fun g_5 hf => ?_) (fun g_5 hf => ?_)
  · refine z_iconst (pc' := 22) C dX9_dueDay_21 zk_iconst_0 rfl ?_
    cases hf
    exact z_iret C rfl rfl dX9_dueDay_22
  · refine z_aload_n (pc' := 9) C 0 dX9_dueDay_8 rfl rfl rfl ?_
    refine z_iload_n (pc' := 10) C 1 dX9_dueDay_9 rfl rfl rfl ?_
    refine z_cS (pc' := 13) C hf (As := [.int p1]) (fun hq => c_X9_bill  hq) (fun _ => (zu h a [(0, .inr (9, [.int q_2.2, .ref (zo w + (a + 1)), .ref (zo w + (a + 2)), .ref (zo w + (a + 3)), .int m_now, .int m_undoable, .ref (zo w + (a + 4)), .int m_bytes, .int m_errorAt, .int m_size, .int m_next, .int m_error, .int m_place, .int m_began, .int m_nested, .int m_once, .ref (zo w + (a + 5))]))])) (fun q_10 => [.int q_10, .ref (zo w + a)]) (fun _ => rfl) (fun _ => rfl) zy_X9_bill zw_1494 zw_1495 ⟨rfl, rfl⟩ rfl rfl rfl rfl rfl dX9_dueDay_10 rfl (fun q_10 hf => ?_)
    refine z_iconst (pc' := 14) C dX9_dueDay_13 zk_iconst_4 rfl ?_
    refine z_iadd (pc' := 15) C dX9_dueDay_14 rfl ?_
    refine z_cV (pc' := 18) C hf (As := [.int (q_10 + (4 : Int32))]) (fun hq => c_X9_small (a := a) (zc_i (o := 0) n_a0 rfl) (zc_o (o := 1) h_a1 rfl) hq) (fun _ => (zu h a [(0, .inr (9, [.int q_2.2, .ref (zo w + (a + 1)), .ref (zo w + (a + 2)), .ref (zo w + (a + 3)), .int m_now, .int m_undoable, .ref (zo w + (a + 4)), .int m_bytes, .int m_errorAt, .int m_size, .int m_next, .int m_error, .int m_place, .int m_began, .int m_nested, .int m_once, .ref (zo w + (a + 5))]))])) (fun q_15 => [.int q_15]) (fun _ => rfl) (fun _ => rfl) zy_X9_small zw_1357 zw_1359 zv_45 (ci := 9) rfl (zc_i (o := 0) n_a0 rfl) ⟨rfl, rfl⟩ rfl rfl rfl rfl rfl dX9_dueDay_15 rfl (fun q_15 hf => ?_)
    refine z_goto C 22 dX9_dueDay_18 rfl ?_
    cases hf
    exact z_iret C rfl rfl dX9_dueDay_22
set_option maxRecDepth 20000 in
theorem w_X9_isHeld_29 {X : zC} {w : zV} {N : Nat} {h : zH} {a : Nat} {m_thrown : Int32} {m_next : Int32} {m_error : Int32} {m_place : Int32} {m_began : Int32} {m_nested : Int32} {m_once : Int32} {m_now : Int32} {m_undoable : Int32} {m_bytes : Int32} {m_errorAt : Int32} {m_size : Int32} {m_rows : Nat → Int64} (C : zK X w RX9 cX9_isHeld 4 (some .boolean) (zr 2 58)) (h_a0 : zc N h (a + 0) (.inr (9, [.int m_thrown, .ref (zo w + (a + 1)), .ref (zo w + (a + 2)), .ref (zo w + (a + 3)), .int m_now, .int m_undoable, .ref (zo w + (a + 4)), .int m_bytes, .int m_errorAt, .int m_size, .int m_next, .int m_error, .int m_place, .int m_began, .int m_nested, .int m_once, .ref (zo w + (a + 5))]))) (h_a1 : zc N h (a + 1) (.inl (w.2.2.1 1, 22500, .inr (.inl m_rows)))) {r : Int32} (n : Nat) : ∀ {x1 : Int32} {x2 : Int32} {x3 : Int32}, f_X9_isHeld_29  n m_now m_rows x1 x2 x3 = some r → zZ X w (zQ X w (zr 2 58) (some (.int r)) false N h) 0 0 false N h 29 [(0, .ref (zo w + a)), (1, .int x1), (2, .int x2), (3, .int x3)] [] := by
  induction n with
  | zero =>
    intro x1 x2 x3 hf
    have hf : (none : Option (Int32)) = some r := hf
    cases hf
  | succ z ih =>
    intro x1 x2 x3 hf
    rw [f_X9_isHeld_29] at hf
    refine z_iload_n (pc' := 30) C 3 dX9_isHeld_29 rfl rfl rfl ?_
    refine z_i2l (pc' := 31) C dX9_isHeld_30 rfl ?_
    refine z_aload_n (pc' := 32) C 0 dX9_isHeld_31 rfl rfl rfl ?_
    refine z_iconst (pc' := 33) C dX9_isHeld_32 zk_iconst_5 rfl ?_
    refine z_cV (pc' := 36) C hf (As := [.int (5 : Int32)]) (fun hq => c_X9_get (a := a) h_a0 h_a1 hq) (fun _ => h) (fun q_33 => [.long q_33, .long (x3).toInt64]) (fun _ => rfl) (fun _ => rfl) zy_X9_get zw_1349 zw_1351 zv_43 (ci := 9) rfl h_a0 ⟨rfl, rfl⟩ rfl rfl rfl rfl rfl dX9_isHeld_33 rfl (fun q_33 hf => ?_)
    refine z_lcmp_ge (pc' := 40) C 105 hf dX9_isHeld_36 rfl dX9_isHeld_37 rfl rfl (fun g_36 hf => ?_) (fun g_36 hf => ?_)
    · refine z_iconst (pc' := 106) C dX9_isHeld_105 zk_iconst_0 rfl ?_
      cases hf
      exact z_zret C zb_0 rfl rfl dX9_isHeld_106
    · refine z_aload_n (pc' := 41) C 0 dX9_isHeld_40 rfl rfl rfl ?_
      refine z_iload_n (pc' := 42) C 3 dX9_isHeld_41 rfl rfl rfl ?_
      refine z_cS (pc' := 45) C hf (As := [.int x3]) (fun hq => c_X9_bill  hq) (fun _ => h) (fun q_42 => [.int q_42, .ref (zo w + a)]) (fun _ => rfl) (fun _ => rfl) zy_X9_bill zw_1494 zw_1495 ⟨rfl, rfl⟩ rfl rfl rfl rfl rfl dX9_isHeld_42 rfl (fun q_42 hf => ?_)
      refine z_cV (pc' := 48) C hf (As := [.int q_42]) (fun hq => c_X9_get (a := a) h_a0 h_a1 hq) (fun _ => h) (fun q_45 => [.long q_45]) (fun _ => rfl) (fun _ => rfl) zy_X9_get zw_1349 zw_1351 zv_43 (ci := 9) rfl h_a0 ⟨rfl, rfl⟩ rfl rfl rfl rfl rfl dX9_isHeld_45 rfl (fun q_45 hf => ?_)
      refine z_aload_n (pc' := 49) C 0 dX9_isHeld_48 rfl rfl rfl ?_
      refine z_aload_n (pc' := 50) C 0 dX9_isHeld_49 rfl rfl rfl ?_
      refine z_iload_n (pc' := 51) C 2 dX9_isHeld_50 rfl rfl rfl ?_
      refine z_cV (pc' := 54) C hf (As := [.int x2]) (fun hq => c_X9_at (a := a)  hq) (fun _ => h) (fun q_51 => [.int q_51, .ref (zo w + a), .long q_45]) (fun _ => rfl) (fun _ => rfl) zy_X9_at zw_1381 zw_1383 zv_47 (ci := 9) rfl h_a0 ⟨rfl, rfl⟩ rfl rfl rfl rfl rfl dX9_isHeld_51 rfl (fun q_51 hf => ?_)
      refine z_iconst (pc' := 55) C dX9_isHeld_54 zk_iconst_0 rfl ?_
      refine z_iadd (pc' := 56) C dX9_isHeld_55 rfl ?_
      refine z_cV (pc' := 59) C hf (As := [.int (q_51 + (0 : Int32))]) (fun hq => c_X9_get (a := a) h_a0 h_a1 hq) (fun _ => h) (fun q_56 => [.long q_56, .long q_45]) (fun _ => rfl) (fun _ => rfl) zy_X9_get zw_1349 zw_1351 zv_43 (ci := 9) rfl h_a0 ⟨rfl, rfl⟩ rfl rfl rfl rfl rfl dX9_isHeld_56 rfl (fun q_56 hf => ?_)
      refine z_lcmp_ne (pc' := 63) C 99 hf dX9_isHeld_59 rfl dX9_isHeld_60 rfl rfl (fun g_59 hf => ?_) (fun g_59 hf => ?_)
      · refine z_iinc (pc' := 102) C 3 [(3, .int (x3 + (1 : Int32))), (0, .ref (zo w + a)), (1, .int x1), (2, .int x2)] dX9_isHeld_99 rfl zk_iconst_1 rfl rfl rfl ?_
        refine z_goto C 29 dX9_isHeld_102 rfl ?_
        refine z_pick (lv' := [(0, .ref (zo w + a)), (1, .int x1), (2, .int x2), (3, .int (x3 + (1 : Int32)))]) [1, 2, 3, 0] rfl ?_
        exact ih hf
      · refine z_aload_n (pc' := 64) C 0 dX9_isHeld_63 rfl rfl rfl ?_
        refine z_iload_n (pc' := 65) C 3 dX9_isHeld_64 rfl rfl rfl ?_
        refine z_cV (pc' := 68) C hf (As := [.int x3]) (fun hq => c_X9_openOf (a := a) h_a0 h_a1 hq) (fun _ => h) (fun q_65 => [.long q_65]) (fun _ => rfl) (fun _ => rfl) zy_X9_openOf zw_1509 zw_1511 zv_63 (ci := 9) rfl h_a0 ⟨rfl, rfl⟩ rfl rfl rfl rfl rfl dX9_isHeld_65 rfl (fun q_65 hf => ?_)
        refine z_lconst (pc' := 69) C dX9_isHeld_68 zl_0 rfl ?_
        refine z_lcmp_le (pc' := 73) C 99 hf dX9_isHeld_69 rfl dX9_isHeld_70 rfl rfl (fun g_69 hf => ?_) (fun g_69 hf => ?_)
        · refine z_iinc (pc' := 102) C 3 [(3, .int (x3 + (1 : Int32))), (0, .ref (zo w + a)), (1, .int x1), (2, .int x2)] dX9_isHeld_99 rfl zk_iconst_1 rfl rfl rfl ?_
          refine z_goto C 29 dX9_isHeld_102 rfl ?_
          refine z_pick (lv' := [(0, .ref (zo w + a)), (1, .int x1), (2, .int x2), (3, .int (x3 + (1 : Int32)))]) [1, 2, 3, 0] rfl ?_
          exact ih hf
        · refine z_aload_n (pc' := 74) C 0 dX9_isHeld_73 rfl rfl rfl ?_
          refine z_iload_n (pc' := 75) C 3 dX9_isHeld_74 rfl rfl rfl ?_
          refine z_cS (pc' := 78) C hf (As := [.int x3]) (fun hq => c_X9_bill  hq) (fun _ => h) (fun q_75 => [.int q_75, .ref (zo w + a)]) (fun _ => rfl) (fun _ => rfl) zy_X9_bill zw_1494 zw_1495 ⟨rfl, rfl⟩ rfl rfl rfl rfl rfl dX9_isHeld_75 rfl (fun q_75 hf => ?_)
          refine z_iconst (pc' := 79) C dX9_isHeld_78 zk_iconst_3 rfl ?_
          refine z_iadd (pc' := 80) C dX9_isHeld_79 rfl ?_
          refine z_cV (pc' := 83) C hf (As := [.int (q_75 + (3 : Int32))]) (fun hq => c_X9_get (a := a) h_a0 h_a1 hq) (fun _ => h) (fun q_80 => [.long q_80]) (fun _ => rfl) (fun _ => rfl) zy_X9_get zw_1349 zw_1351 zv_43 (ci := 9) rfl h_a0 ⟨rfl, rfl⟩ rfl rfl rfl rfl rfl dX9_isHeld_80 rfl (fun q_80 hf => ?_)
          refine z_aload_n (pc' := 84) C 0 dX9_isHeld_83 rfl rfl rfl ?_
          refine z_iload_n (pc' := 85) C 1 dX9_isHeld_84 rfl rfl rfl ?_
          refine z_cS (pc' := 88) C hf (As := [.int x1]) (fun hq => c_X9_bill  hq) (fun _ => h) (fun q_85 => [.int q_85, .ref (zo w + a), .long q_80]) (fun _ => rfl) (fun _ => rfl) zy_X9_bill zw_1494 zw_1495 ⟨rfl, rfl⟩ rfl rfl rfl rfl rfl dX9_isHeld_85 rfl (fun q_85 hf => ?_)
          refine z_iconst (pc' := 89) C dX9_isHeld_88 zk_iconst_3 rfl ?_
          refine z_iadd (pc' := 90) C dX9_isHeld_89 rfl ?_
          refine z_cV (pc' := 93) C hf (As := [.int (q_85 + (3 : Int32))]) (fun hq => c_X9_get (a := a) h_a0 h_a1 hq) (fun _ => h) (fun q_90 => [.long q_90, .long q_80]) (fun _ => rfl) (fun _ => rfl) zy_X9_get zw_1349 zw_1351 zv_43 (ci := 9) rfl h_a0 ⟨rfl, rfl⟩ rfl rfl rfl rfl rfl dX9_isHeld_90 rfl (fun q_90 hf => ?_)
          refine z_lcmp_gt (pc' := 97) C 99 hf dX9_isHeld_93 rfl dX9_isHeld_94 rfl rfl (fun g_93 hf => ?_) (fun g_93 hf => ?_)
          · refine z_iinc (pc' := 102) C 3 [(3, .int (x3 + (1 : Int32))), (0, .ref (zo w + a)), (1, .int x1), (2, .int x2)] dX9_isHeld_99 rfl zk_iconst_1 rfl rfl rfl ?_
            refine z_goto C 29 dX9_isHeld_102 rfl ?_
            refine z_pick (lv' := [(0, .ref (zo w + a)), (1, .int x1), (2, .int x2), (3, .int (x3 + (1 : Int32)))]) [1, 2, 3, 0] rfl ?_
            exact ih hf
          · refine z_iconst (pc' := 98) C dX9_isHeld_97 zk_iconst_1 rfl ?_
            cases hf
            exact z_zret C zb_1 rfl rfl dX9_isHeld_98
set_option maxRecDepth 20000 in
theorem c_X9_isHeld {w : zV} {N : Nat} {h : zH} {a : Nat} {m_thrown : Int32} {m_next : Int32} {m_error : Int32} {m_place : Int32} {m_began : Int32} {m_nested : Int32} {m_once : Int32} {m_now : Int32} {m_undoable : Int32} {m_bytes : Int32} {m_errorAt : Int32} {m_size : Int32} {m_rows : Nat → Int64} {p1 : Int32} (h_a0 : zc N h (a + 0) (.inr (9, [.int m_thrown, .ref (zo w + (a + 1)), .ref (zo w + (a + 2)), .ref (zo w + (a + 3)), .int m_now, .int m_undoable, .ref (zo w + (a + 4)), .int m_bytes, .int m_errorAt, .int m_size, .int m_next, .int m_error, .int m_place, .int m_began, .int m_nested, .int m_once, .ref (zo w + (a + 5))]))) (h_a1 : zc N h (a + 1) (.inl (w.2.2.1 1, 22500, .inr (.inl m_rows)))) {r : Int32} (hf : f_X9_isHeld m_now m_rows p1 = some r) : zM w yX9_isHeld cX9_isHeld 4 (some .boolean) (zr 2 58) false N N h [.ref (zo w + a), .int p1] (some (.int r)) h := by
  unfold f_X9_isHeld at hf
  refine zM_of (by decide) rfl (fun X C _ => ?_)
  refine z_pick (lv' := [(0, .ref (zo w + a)), (1, .int p1)]) [0, 1] rfl ?_
  refine z_aload_n (pc' := 1) C 0 dX9_isHeld_0 rfl rfl rfl ?_
  refine z_iload_n (pc' := 2) C 1 dX9_isHeld_1 rfl rfl rfl ?_
  refine z_cS (pc' := 5) C hf (As := [.int p1]) (fun hq => c_X9_bill  hq) (fun _ => h) (fun q_2 => [.int q_2, .ref (zo w + a)]) (fun _ => rfl) (fun _ => rfl) zy_X9_bill zw_1494 zw_1495 ⟨rfl, rfl⟩ rfl rfl rfl rfl rfl dX9_isHeld_2 rfl (fun q_2 hf => ?_)
  refine z_cV (pc' := 8) C hf (As := [.int q_2]) (fun hq => c_X9_small (a := a) h_a0 h_a1 hq) (fun _ => h) (fun q_5 => [.int q_5]) (fun _ => rfl) (fun _ => rfl) zy_X9_small zw_1357 zw_1359 zv_45 (ci := 9) rfl h_a0 ⟨rfl, rfl⟩ rfl rfl rfl rfl rfl dX9_isHeld_5 rfl (fun q_5 hf => ?_)
  refine z_istore_n (pc' := 9) C [(2, .int q_5), (0, .ref (zo w + a)), (1, .int p1)] dX9_isHeld_8 rfl rfl rfl rfl ?_
  refine z_aload_n (pc' := 10) C 1 dX9_isHeld_9 rfl rfl rfl ?_
  refine z_aload_n (pc' := 11) C 1 dX9_isHeld_10 rfl rfl rfl ?_
  refine z_iload_n (pc' := 12) C 0 dX9_isHeld_11 rfl rfl rfl ?_
  refine z_cV (pc' := 15) C hf (As := [.int q_5]) (fun hq => c_X9_at (a := a)  hq) (fun _ => h) (fun q_12 => [.int q_12, .ref (zo w + a)]) (fun _ => rfl) (fun _ => rfl) zy_X9_at zw_1381 zw_1383 zv_47 (ci := 9) rfl h_a0 ⟨rfl, rfl⟩ rfl rfl rfl rfl rfl dX9_isHeld_12 rfl (fun q_12 hf => ?_)
  refine z_iconst (pc' := 16) C dX9_isHeld_15 zk_iconst_5 rfl ?_
  refine z_iadd (pc' := 17) C dX9_isHeld_16 rfl ?_
  refine z_cV (pc' := 20) C hf (As := [.int (q_12 + (5 : Int32))]) (fun hq => c_X9_get (a := a) h_a0 h_a1 hq) (fun _ => h) (fun q_17 => [.long q_17]) (fun _ => rfl) (fun _ => rfl) zy_X9_get zw_1349 zw_1351 zv_43 (ci := 9) rfl h_a0 ⟨rfl, rfl⟩ rfl rfl rfl rfl rfl dX9_isHeld_17 rfl (fun q_17 hf => ?_)
  refine z_lconst (pc' := 21) C dX9_isHeld_20 zl_0 rfl ?_
  refine z_lcmp_ne (pc' := 25) C 27 hf dX9_isHeld_21 rfl dX9_isHeld_22 rfl rfl (fun g_21 hf => ?_) (fun g_21 hf => ?_)
  · refine z_iconst (pc' := 28) C dX9_isHeld_27 zk_iconst_0 rfl ?_
    refine z_istore_n (pc' := 29) C [(3, .int (0 : Int32)), (2, .int q_5), (0, .ref (zo w + a)), (1, .int p1)] dX9_isHeld_28 rfl rfl rfl rfl ?_
    refine z_pick (lv' := [(0, .ref (zo w + a)), (1, .int p1), (2, .int q_5), (3, .int (0 : Int32))]) [2, 3, 1, 0] rfl ?_
    exact w_X9_isHeld_29 C h_a0 h_a1  FU hf
  · refine z_iconst (pc' := 26) C dX9_isHeld_25 zk_iconst_0 rfl ?_
    cases hf
    exact z_zret C zb_0 rfl rfl dX9_isHeld_26
set_option maxRecDepth 20000 in
theorem c_X9_isBlocked {w : zV} {N : Nat} {h : zH} {a : Nat} {m_thrown : Int32} {m_next : Int32} {m_error : Int32} {m_place : Int32} {m_began : Int32} {m_nested : Int32} {m_once : Int32} {m_now : Int32} {m_undoable : Int32} {m_bytes : Int32} {m_errorAt : Int32} {m_size : Int32} {m_rows : Nat → Int64} {p1 : Int32} (h_a0 : zc N h (a + 0) (.inr (9, [.int m_thrown, .ref (zo w + (a + 1)), .ref (zo w + (a + 2)), .ref (zo w + (a + 3)), .int m_now, .int m_undoable, .ref (zo w + (a + 4)), .int m_bytes, .int m_errorAt, .int m_size, .int m_next, .int m_error, .int m_place, .int m_began, .int m_nested, .int m_once, .ref (zo w + (a + 5))]))) (h_a1 : zc N h (a + 1) (.inl (w.2.2.1 1, 22500, .inr (.inl m_rows)))) {r : Int32 × Int32} (hf : f_X9_isBlocked m_thrown m_now m_rows p1 = some r) : zM w yX9_isBlocked cX9_isBlocked 2 (some .boolean) (zr 3 89) false N N h [.ref (zo w + a), .int p1] (some (.int r.1)) (zu h a [(0, .inr (9, [.int r.2, .ref (zo w + (a + 1)), .ref (zo w + (a + 2)), .ref (zo w + (a + 3)), .int m_now, .int m_undoable, .ref (zo w + (a + 4)), .int m_bytes, .int m_errorAt, .int m_size, .int m_next, .int m_error, .int m_place, .int m_began, .int m_nested, .int m_once, .ref (zo w + (a + 5))]))]) := by
  unfold f_X9_isBlocked at hf
  refine zM_of (by decide) rfl (fun X C _ => ?_)
  refine z_eq (h' := (zu h a [(0, .inr (9, [.int m_thrown, .ref (zo w + (a + 1)), .ref (zo w + (a + 2)), .ref (zo w + (a + 3)), .int m_now, .int m_undoable, .ref (zo w + (a + 4)), .int m_bytes, .int m_errorAt, .int m_size, .int m_next, .int m_error, .int m_place, .int m_began, .int m_nested, .int m_once, .ref (zo w + (a + 5))]))])) (zu_s h_a0 zu_0).symm ?_
  have n_a0 := h_a0.1
  refine z_pick (lv' := [(0, .ref (zo w + a)), (1, .int p1)]) [0, 1] rfl ?_
  refine z_aload_n (pc' := 1) C 0 dX9_isBlocked_0 rfl rfl rfl ?_
  refine z_iload_n (pc' := 2) C 1 dX9_isBlocked_1 rfl rfl rfl ?_
  refine z_cV (pc' := 5) C hf (As := [.int p1]) (fun hq => c_X9_isBill (a := a) (zc_i (o := 0) n_a0 rfl) (zc_o (o := 1) h_a1 rfl) hq) (fun q_2 => (zu h a [(0, .inr (9, [.int q_2.2, .ref (zo w + (a + 1)), .ref (zo w + (a + 2)), .ref (zo w + (a + 3)), .int m_now, .int m_undoable, .ref (zo w + (a + 4)), .int m_bytes, .int m_errorAt, .int m_size, .int m_next, .int m_error, .int m_place, .int m_began, .int m_nested, .int m_once, .ref (zo w + (a + 5))]))])) (fun q_2 => [.int q_2.1]) (fun _ => zu_sh (d := 0) rfl rfl) (fun _ => rfl) zy_X9_isBill zw_1525 zw_1527 zv_64 (ci := 9) rfl (zc_i (o := 0) n_a0 rfl) ⟨rfl, rfl⟩ rfl rfl rfl rfl rfl dX9_isBlocked_2 rfl (fun q_2 hf => ?_)
  refine z_if_eq (pc' := 8) C 20 hf dX9_isBlocked_5 rfl rfl (fun g_5 hf => ?_) (fun g_5 hf => ?_)
  · refine z_iconst (pc' := 21) C dX9_isBlocked_20 zk_iconst_0 rfl ?_
    cases hf
    exact z_zret C zb_0 rfl rfl dX9_isBlocked_21
  · refine z_aload_n (pc' := 9) C 0 dX9_isBlocked_8 rfl rfl rfl ?_
    refine z_iload_n (pc' := 10) C 1 dX9_isBlocked_9 rfl rfl rfl ?_
    refine z_cV (pc' := 13) C hf (As := [.int p1]) (fun hq => c_X9_isHeld (a := a) (zc_i (o := 0) n_a0 rfl) (zc_o (o := 1) h_a1 rfl) hq) (fun _ => (zu h a [(0, .inr (9, [.int q_2.2, .ref (zo w + (a + 1)), .ref (zo w + (a + 2)), .ref (zo w + (a + 3)), .int m_now, .int m_undoable, .ref (zo w + (a + 4)), .int m_bytes, .int m_errorAt, .int m_size, .int m_next, .int m_error, .int m_place, .int m_began, .int m_nested, .int m_once, .ref (zo w + (a + 5))]))])) (fun q_10 => [.int q_10]) (fun _ => rfl) (fun _ => rfl) zy_X9_isHeld zw_1545 zw_1547 zv_65 (ci := 9) rfl (zc_i (o := 0) n_a0 rfl) ⟨rfl, rfl⟩ rfl rfl rfl rfl rfl dX9_isBlocked_10 rfl (fun q_10 hf => ?_)
    refine z_if_eq (pc' := 16) C 20 hf dX9_isBlocked_13 rfl rfl (fun g_13 hf => ?_) (fun g_13 hf => ?_)
    · refine z_iconst (pc' := 21) C dX9_isBlocked_20 zk_iconst_0 rfl ?_
      cases hf
      exact z_zret C zb_0 rfl rfl dX9_isBlocked_21
    · refine z_iconst (pc' := 17) C dX9_isBlocked_16 zk_iconst_1 rfl ?_
      refine z_goto C 21 dX9_isBlocked_17 rfl ?_
      cases hf
      exact z_zret C zb_1 rfl rfl dX9_isBlocked_21
set_option maxRecDepth 20000 in
theorem w_X9_dueBetween_10 {X : zC} {w : zV} {N : Nat} {h : zH} {a : Nat} {m_next : Int32} {m_error : Int32} {m_place : Int32} {m_began : Int32} {m_nested : Int32} {m_once : Int32} {m_now : Int32} {m_undoable : Int32} {m_bytes : Int32} {m_errorAt : Int32} {m_size : Int32} {m_rows : Nat → Int64} (C : zK X w RX9 cX9_dueBetween 6 (some .long) (zr 2 58)) (n_a0 : a + 0 < N) (h_a1 : zc N h (a + 1) (.inl (w.2.2.1 1, 22500, .inr (.inl m_rows)))) {r : Int64 × Int32} (n : Nat) : ∀ {m_thrown : Int32} {x1 : Int32} {x2 : Int32} {x3 : Int64} {x5 : Int32}, f_X9_dueBetween_10  n m_thrown m_now m_rows x1 x2 x3 x5 = some r → zZ X w (zQ X w (zr 2 58) (some (.long r.1)) false N (zu h a [(0, .inr (9, [.int r.2, .ref (zo w + (a + 1)), .ref (zo w + (a + 2)), .ref (zo w + (a + 3)), .int m_now, .int m_undoable, .ref (zo w + (a + 4)), .int m_bytes, .int m_errorAt, .int m_size, .int m_next, .int m_error, .int m_place, .int m_began, .int m_nested, .int m_once, .ref (zo w + (a + 5))]))])) 0 0 false N (zu h a [(0, .inr (9, [.int m_thrown, .ref (zo w + (a + 1)), .ref (zo w + (a + 2)), .ref (zo w + (a + 3)), .int m_now, .int m_undoable, .ref (zo w + (a + 4)), .int m_bytes, .int m_errorAt, .int m_size, .int m_next, .int m_error, .int m_place, .int m_began, .int m_nested, .int m_once, .ref (zo w + (a + 5))]))]) 10 [(0, .ref (zo w + a)), (1, .int x1), (2, .int x2), (3, .long x3), (5, .int x5)] [] := by
  induction n with
  | zero =>
    intro m_thrown x1 x2 x3 x5 hf
    have hf : (none : Option (Int64 × Int32)) = some r := hf
    cases hf
  | succ z ih =>
    intro m_thrown x1 x2 x3 x5 hf
    rw [f_X9_dueBetween_10] at hf
    refine z_iload (pc' := 12) C 4 dX9_dueBetween_10 rfl rfl ?_
    refine z_i2l (pc' := 13) C dX9_dueBetween_12 rfl ?_
    refine z_aload_n (pc' := 14) C 0 dX9_dueBetween_13 rfl rfl rfl ?_
    refine z_iconst (pc' := 15) C dX9_dueBetween_14 zk_iconst_5 rfl ?_
    refine z_cV (pc' := 18) C hf (As := [.int (5 : Int32)]) (fun hq => c_X9_get (a := a) (zc_i (o := 0) n_a0 rfl) (zc_o (o := 1) h_a1 rfl) hq) (fun _ => (zu h a [(0, .inr (9, [.int m_thrown, .ref (zo w + (a + 1)), .ref (zo w + (a + 2)), .ref (zo w + (a + 3)), .int m_now, .int m_undoable, .ref (zo w + (a + 4)), .int m_bytes, .int m_errorAt, .int m_size, .int m_next, .int m_error, .int m_place, .int m_began, .int m_nested, .int m_once, .ref (zo w + (a + 5))]))])) (fun q_15 => [.long q_15, .long (x5).toInt64]) (fun _ => rfl) (fun _ => rfl) zy_X9_get zw_1349 zw_1351 zv_43 (ci := 9) rfl (zc_i (o := 0) n_a0 rfl) ⟨rfl, rfl⟩ rfl rfl rfl rfl rfl dX9_dueBetween_15 rfl (fun q_15 hf => ?_)
    refine z_lcmp_ge (pc' := 22) C 62 hf dX9_dueBetween_18 rfl dX9_dueBetween_19 rfl rfl (fun g_18 hf => ?_) (fun g_18 hf => ?_)
    · refine z_lload_n (pc' := 63) C 3 dX9_dueBetween_62 rfl rfl rfl ?_
      cases hf
      exact z_lret C rfl rfl dX9_dueBetween_63
    · refine z_lload_n (pc' := 23) C 3 dX9_dueBetween_22 rfl rfl rfl ?_
      refine z_aload_n (pc' := 24) C 0 dX9_dueBetween_23 rfl rfl rfl ?_
      refine z_iload (pc' := 26) C 4 dX9_dueBetween_24 rfl rfl ?_
      refine z_cS (pc' := 29) C hf (As := [.int x5]) (fun hq => c_X9_bill  hq) (fun _ => (zu h a [(0, .inr (9, [.int m_thrown, .ref (zo w + (a + 1)), .ref (zo w + (a + 2)), .ref (zo w + (a + 3)), .int m_now, .int m_undoable, .ref (zo w + (a + 4)), .int m_bytes, .int m_errorAt, .int m_size, .int m_next, .int m_error, .int m_place, .int m_began, .int m_nested, .int m_once, .ref (zo w + (a + 5))]))])) (fun q_26 => [.int q_26, .ref (zo w + a), .long x3]) (fun _ => rfl) (fun _ => rfl) zy_X9_bill zw_1494 zw_1495 ⟨rfl, rfl⟩ rfl rfl rfl rfl rfl dX9_dueBetween_26 rfl (fun q_26 hf => ?_)
      refine z_iconst (pc' := 30) C dX9_dueBetween_29 zk_iconst_4 rfl ?_
      refine z_iadd (pc' := 31) C dX9_dueBetween_30 rfl ?_
      refine z_cV (pc' := 34) C hf (As := [.int (q_26 + (4 : Int32))]) (fun hq => c_X9_get (a := a) (zc_i (o := 0) n_a0 rfl) (zc_o (o := 1) h_a1 rfl) hq) (fun _ => (zu h a [(0, .inr (9, [.int m_thrown, .ref (zo w + (a + 1)), .ref (zo w + (a + 2)), .ref (zo w + (a + 3)), .int m_now, .int m_undoable, .ref (zo w + (a + 4)), .int m_bytes, .int m_errorAt, .int m_size, .int m_next, .int m_error, .int m_place, .int m_began, .int m_nested, .int m_once, .ref (zo w + (a + 5))]))])) (fun q_31 => [.long q_31, .long x3]) (fun _ => rfl) (fun _ => rfl) zy_X9_get zw_1349 zw_1351 zv_43 (ci := 9) rfl (zc_i (o := 0) n_a0 rfl) ⟨rfl, rfl⟩ rfl rfl rfl rfl rfl dX9_dueBetween_31 rfl (fun q_31 hf => ?_)
      refine z_iload_n (pc' := 35) C 1 dX9_dueBetween_34 rfl rfl rfl ?_
      refine z_i2l (pc' := 36) C dX9_dueBetween_35 rfl ?_
      refine z_iload_n (pc' := 37) C 2 dX9_dueBetween_36 rfl rfl rfl ?_
      refine z_i2l (pc' := 38) C dX9_dueBetween_37 rfl ?_
      refine z_cS (pc' := 41) C hf (As := [.long q_31, .long (x1).toInt64, .long (x2).toInt64]) (fun hq => c_X9_isIn  hq) (fun _ => (zu h a [(0, .inr (9, [.int m_thrown, .ref (zo w + (a + 1)), .ref (zo w + (a + 2)), .ref (zo w + (a + 3)), .int m_now, .int m_undoable, .ref (zo w + (a + 4)), .int m_bytes, .int m_errorAt, .int m_size, .int m_next, .int m_error, .int m_place, .int m_began, .int m_nested, .int m_once, .ref (zo w + (a + 5))]))])) (fun q_38 => [.int q_38, .long x3]) (fun _ => rfl) (fun _ => rfl) zy_X9_isIn zw_1248 zw_1249 ⟨rfl, rfl⟩ rfl rfl rfl rfl rfl dX9_dueBetween_38 rfl (fun q_38 hf => ?_)
      refine z_if_eq (pc' := 44) C 53 hf dX9_dueBetween_41 rfl rfl (fun g_41 hf => ?_) (fun g_41 hf => ?_)
      · refine z_lconst (pc' := 54) C dX9_dueBetween_53 zl_0 rfl ?_
        refine z_ladd (pc' := 55) C dX9_dueBetween_54 rfl ?_
        refine z_lstore_n (pc' := 56) C [(3, .long (x3 + (0 : Int64))), (0, .ref (zo w + a)), (1, .int x1), (2, .int x2), (5, .int x5)] dX9_dueBetween_55 rfl rfl rfl rfl ?_
        refine z_iinc (pc' := 59) C 4 [(5, .int (x5 + (1 : Int32))), (3, .long (x3 + (0 : Int64))), (0, .ref (zo w + a)), (1, .int x1), (2, .int x2)] dX9_dueBetween_56 rfl zk_iconst_1 rfl rfl rfl ?_
        refine z_goto C 10 dX9_dueBetween_59 rfl ?_
        refine z_pick (lv' := [(0, .ref (zo w + a)), (1, .int x1), (2, .int x2), (3, .long (x3 + (0 : Int64))), (5, .int (x5 + (1 : Int32)))]) [2, 3, 4, 1, 0] rfl ?_
        exact ih hf
      · refine z_aload_n (pc' := 45) C 0 dX9_dueBetween_44 rfl rfl rfl ?_
        refine z_iload (pc' := 47) C 4 dX9_dueBetween_45 rfl rfl ?_
        refine z_cV (pc' := 50) C hf (As := [.int x5]) (fun hq => c_X9_openOf (a := a) (zc_i (o := 0) n_a0 rfl) (zc_o (o := 1) h_a1 rfl) hq) (fun _ => (zu h a [(0, .inr (9, [.int m_thrown, .ref (zo w + (a + 1)), .ref (zo w + (a + 2)), .ref (zo w + (a + 3)), .int m_now, .int m_undoable, .ref (zo w + (a + 4)), .int m_bytes, .int m_errorAt, .int m_size, .int m_next, .int m_error, .int m_place, .int m_began, .int m_nested, .int m_once, .ref (zo w + (a + 5))]))])) (fun q_47 => [.long q_47, .long x3]) (fun _ => rfl) (fun _ => rfl) zy_X9_openOf zw_1509 zw_1511 zv_63 (ci := 9) rfl (zc_i (o := 0) n_a0 rfl) ⟨rfl, rfl⟩ rfl rfl rfl rfl rfl dX9_dueBetween_47 rfl (fun q_47 hf => ?_)
        refine z_goto C 54 dX9_dueBetween_50 rfl ?_
        refine z_ladd (pc' := 55) C dX9_dueBetween_54 rfl ?_
        refine z_lstore_n (pc' := 56) C [(3, .long (x3 + q_47)), (0, .ref (zo w + a)), (1, .int x1), (2, .int x2), (5, .int x5)] dX9_dueBetween_55 rfl rfl rfl rfl ?_
        refine z_iinc (pc' := 59) C 4 [(5, .int (x5 + (1 : Int32))), (3, .long (x3 + q_47)), (0, .ref (zo w + a)), (1, .int x1), (2, .int x2)] dX9_dueBetween_56 rfl zk_iconst_1 rfl rfl rfl ?_
        refine z_goto C 10 dX9_dueBetween_59 rfl ?_
        refine z_pick (lv' := [(0, .ref (zo w + a)), (1, .int x1), (2, .int x2), (3, .long (x3 + q_47)), (5, .int (x5 + (1 : Int32)))]) [2, 3, 4, 1, 0] rfl ?_
        exact ih hf
set_option maxRecDepth 20000 in
theorem c_X9_dueBetween {w : zV} {N : Nat} {h : zH} {a : Nat} {m_thrown : Int32} {m_next : Int32} {m_error : Int32} {m_place : Int32} {m_began : Int32} {m_nested : Int32} {m_once : Int32} {m_now : Int32} {m_undoable : Int32} {m_bytes : Int32} {m_errorAt : Int32} {m_size : Int32} {m_rows : Nat → Int64} {p1 : Int32} {p2 : Int32} (h_a0 : zc N h (a + 0) (.inr (9, [.int m_thrown, .ref (zo w + (a + 1)), .ref (zo w + (a + 2)), .ref (zo w + (a + 3)), .int m_now, .int m_undoable, .ref (zo w + (a + 4)), .int m_bytes, .int m_errorAt, .int m_size, .int m_next, .int m_error, .int m_place, .int m_began, .int m_nested, .int m_once, .ref (zo w + (a + 5))]))) (h_a1 : zc N h (a + 1) (.inl (w.2.2.1 1, 22500, .inr (.inl m_rows)))) {r : Int64 × Int32} (hf : f_X9_dueBetween m_thrown m_now m_rows p1 p2 = some r) : zM w yX9_dueBetween cX9_dueBetween 6 (some .long) (zr 2 58) false N N h [.ref (zo w + a), .int p1, .int p2] (some (.long r.1)) (zu h a [(0, .inr (9, [.int r.2, .ref (zo w + (a + 1)), .ref (zo w + (a + 2)), .ref (zo w + (a + 3)), .int m_now, .int m_undoable, .ref (zo w + (a + 4)), .int m_bytes, .int m_errorAt, .int m_size, .int m_next, .int m_error, .int m_place, .int m_began, .int m_nested, .int m_once, .ref (zo w + (a + 5))]))]) := by
  unfold f_X9_dueBetween at hf
  refine zM_of (by decide) rfl (fun X C _ => ?_)
  refine z_eq (h' := (zu h a [(0, .inr (9, [.int m_thrown, .ref (zo w + (a + 1)), .ref (zo w + (a + 2)), .ref (zo w + (a + 3)), .int m_now, .int m_undoable, .ref (zo w + (a + 4)), .int m_bytes, .int m_errorAt, .int m_size, .int m_next, .int m_error, .int m_place, .int m_began, .int m_nested, .int m_once, .ref (zo w + (a + 5))]))])) (zu_s h_a0 zu_0).symm ?_
  have n_a0 := h_a0.1
  refine z_pick (lv' := [(0, .ref (zo w + a)), (1, .int p1), (2, .int p2)]) [0, 1, 2] rfl ?_
  refine z_aload_n (pc' := 1) C 0 dX9_dueBetween_0 rfl rfl rfl ?_
  refine z_iconst (pc' := 2) C dX9_dueBetween_1 zk_iconst_0 rfl ?_
  refine z_putf (pc' := 5) C zci_9 zw_1184 (j := 0) rfl (zc_i (o := 0) n_a0 rfl) (fs' := [.int (0 : Int32), .ref (zo w + (a + 1)), .ref (zo w + (a + 2)), .ref (zo w + (a + 3)), .int m_now, .int m_undoable, .ref (zo w + (a + 4)), .int m_bytes, .int m_errorAt, .int m_size, .int m_next, .int m_error, .int m_place, .int m_began, .int m_nested, .int m_once, .ref (zo w + (a + 5))]) rfl rfl rfl rfl rfl (zu_put (o := 0) (L' := [(0, .inr (9, [.int (0 : Int32), .ref (zo w + (a + 1)), .ref (zo w + (a + 2)), .ref (zo w + (a + 3)), .int m_now, .int m_undoable, .ref (zo w + (a + 4)), .int m_bytes, .int m_errorAt, .int m_size, .int m_next, .int m_error, .int m_place, .int m_began, .int m_nested, .int m_once, .ref (zo w + (a + 5))]))]) rfl) dX9_dueBetween_2 rfl ?_
  refine z_lconst (pc' := 6) C dX9_dueBetween_5 zl_0 rfl ?_
  refine z_lstore_n (pc' := 7) C [(3, .long (0 : Int64)), (0, .ref (zo w + a)), (1, .int p1), (2, .int p2)] dX9_dueBetween_6 rfl rfl rfl rfl ?_
  refine z_iconst (pc' := 8) C dX9_dueBetween_7 zk_iconst_0 rfl ?_
  refine z_istore (pc' := 10) C [(5, .int (0 : Int32)), (3, .long (0 : Int64)), (0, .ref (zo w + a)), (1, .int p1), (2, .int p2)] dX9_dueBetween_8 rfl rfl rfl ?_
  refine z_pick (lv' := [(0, .ref (zo w + a)), (1, .int p1), (2, .int p2), (3, .long (0 : Int64)), (5, .int (0 : Int32))]) [2, 3, 4, 1, 0] rfl ?_
  exact w_X9_dueBetween_10 C n_a0 h_a1  FU hf
set_option maxRecDepth 20000 in
theorem c_X9_payerOf {w : zV} {N : Nat} {h : zH} {a : Nat} {m_thrown : Int32} {m_next : Int32} {m_error : Int32} {m_place : Int32} {m_began : Int32} {m_nested : Int32} {m_once : Int32} {m_now : Int32} {m_undoable : Int32} {m_bytes : Int32} {m_errorAt : Int32} {m_size : Int32} {m_rows : Nat → Int64} {p1 : Int32} (h_a0 : zc N h (a + 0) (.inr (9, [.int m_thrown, .ref (zo w + (a + 1)), .ref (zo w + (a + 2)), .ref (zo w + (a + 3)), .int m_now, .int m_undoable, .ref (zo w + (a + 4)), .int m_bytes, .int m_errorAt, .int m_size, .int m_next, .int m_error, .int m_place, .int m_began, .int m_nested, .int m_once, .ref (zo w + (a + 5))]))) (h_a1 : zc N h (a + 1) (.inl (w.2.2.1 1, 22500, .inr (.inl m_rows)))) {r : Int32} (hf : f_X9_payerOf m_now m_rows p1 = some r) : zM w yX9_payerOf cX9_payerOf 2 (some .int) (zr 2 58) false N N h [.ref (zo w + a), .int p1] (some (.int r)) h := by
  unfold f_X9_payerOf at hf
  refine zM_of (by decide) rfl (fun X C _ => ?_)
  refine z_pick (lv' := [(0, .ref (zo w + a)), (1, .int p1)]) [0, 1] rfl ?_
  refine z_bipush (pc' := 2) C dX9_payerOf_0 zk_bipush_9 rfl ?_
  refine z_aload_n (pc' := 3) C 0 dX9_payerOf_2 rfl rfl rfl ?_
  refine z_aload_n (pc' := 4) C 0 dX9_payerOf_3 rfl rfl rfl ?_
  refine z_aload_n (pc' := 5) C 0 dX9_payerOf_4 rfl rfl rfl ?_
  refine z_iload_n (pc' := 6) C 1 dX9_payerOf_5 rfl rfl rfl ?_
  refine z_cS (pc' := 9) C hf (As := [.int p1]) (fun hq => c_X9_bill  hq) (fun _ => h) (fun q_6 => [.int q_6, .ref (zo w + a), .ref (zo w + a), .ref (zo w + a), .int (9 : Int32)]) (fun _ => rfl) (fun _ => rfl) zy_X9_bill zw_1494 zw_1495 ⟨rfl, rfl⟩ rfl rfl rfl rfl rfl dX9_payerOf_6 rfl (fun q_6 hf => ?_)
  refine z_cV (pc' := 12) C hf (As := [.int q_6]) (fun hq => c_X9_small (a := a) h_a0 h_a1 hq) (fun _ => h) (fun q_9 => [.int q_9, .ref (zo w + a), .ref (zo w + a), .int (9 : Int32)]) (fun _ => rfl) (fun _ => rfl) zy_X9_small zw_1357 zw_1359 zv_45 (ci := 9) rfl h_a0 ⟨rfl, rfl⟩ rfl rfl rfl rfl rfl dX9_payerOf_9 rfl (fun q_9 hf => ?_)
  refine z_cV (pc' := 15) C hf (As := [.int q_9]) (fun hq => c_X9_at (a := a)  hq) (fun _ => h) (fun q_12 => [.int q_12, .ref (zo w + a), .int (9 : Int32)]) (fun _ => rfl) (fun _ => rfl) zy_X9_at zw_1381 zw_1383 zv_47 (ci := 9) rfl h_a0 ⟨rfl, rfl⟩ rfl rfl rfl rfl rfl dX9_payerOf_12 rfl (fun q_12 hf => ?_)
  refine z_iconst (pc' := 16) C dX9_payerOf_15 zk_iconst_0 rfl ?_
  refine z_iadd (pc' := 17) C dX9_payerOf_16 rfl ?_
  refine z_cV (pc' := 20) C hf (As := [.int (q_12 + (0 : Int32))]) (fun hq => c_X9_small (a := a) h_a0 h_a1 hq) (fun _ => h) (fun q_17 => [.int q_17, .int (9 : Int32)]) (fun _ => rfl) (fun _ => rfl) zy_X9_small zw_1357 zw_1359 zv_45 (ci := 9) rfl h_a0 ⟨rfl, rfl⟩ rfl rfl rfl rfl rfl dX9_payerOf_17 rfl (fun q_17 hf => ?_)
  refine z_iadd (pc' := 21) C dX9_payerOf_20 rfl ?_
  cases hf
  exact z_iret C rfl rfl dX9_payerOf_21
set_option maxRecDepth 20000 in
theorem c_X9_pays {w : zV} {N : Nat} {h : zH} {a : Nat} {m_thrown : Int32} {m_next : Int32} {m_error : Int32} {m_place : Int32} {m_began : Int32} {m_nested : Int32} {m_once : Int32} {m_now : Int32} {m_undoable : Int32} {m_bytes : Int32} {m_errorAt : Int32} {m_size : Int32} {m_rows : Nat → Int64} {p1 : Int32} {p2 : Int64} (h_a0 : zc N h (a + 0) (.inr (9, [.int m_thrown, .ref (zo w + (a + 1)), .ref (zo w + (a + 2)), .ref (zo w + (a + 3)), .int m_now, .int m_undoable, .ref (zo w + (a + 4)), .int m_bytes, .int m_errorAt, .int m_size, .int m_next, .int m_error, .int m_place, .int m_began, .int m_nested, .int m_once, .ref (zo w + (a + 5))]))) (h_a1 : zc N h (a + 1) (.inl (w.2.2.1 1, 22500, .inr (.inl m_rows)))) {r : (Nat → Int64)} (hf : f_X9_pays m_now m_rows p1 p2 = some r) : zM w yX9_pays cX9_pays 6 none (zr 3 87) false N N h [.ref (zo w + a), .int p1, .long p2] (none) (zu h a [(1, .inl (w.2.2.1 1, 22500, .inr (.inl r)))]) := by
  unfold f_X9_pays at hf
  refine zM_of (by decide) rfl (fun X C _ => ?_)
  refine z_eq (h' := (zu h a [(1, .inl (w.2.2.1 1, 22500, .inr (.inl m_rows)))])) (zu_s h_a1 zu_0).symm ?_
  have n_a1 := h_a1.1
  refine z_pick (lv' := [(0, .ref (zo w + a)), (1, .int p1), (2, .long p2)]) [0, 1, 2] rfl ?_
  refine z_aload_n (pc' := 1) C 0 dX9_pays_0 rfl rfl rfl ?_
  refine z_iload_n (pc' := 2) C 1 dX9_pays_1 rfl rfl rfl ?_
  refine z_cV (pc' := 5) C hf (As := [.int p1]) (fun hq => c_X9_payerOf (a := a) (zc_o (o := 0) h_a0 rfl) (zc_i (o := 1) n_a1 rfl) hq) (fun _ => (zu h a [(1, .inl (w.2.2.1 1, 22500, .inr (.inl m_rows)))])) (fun q_2 => [.int q_2]) (fun _ => rfl) (fun _ => rfl) zy_X9_payerOf zw_1566 zw_1568 zv_68 (ci := 9) rfl (zc_o (o := 0) h_a0 rfl) ⟨rfl, rfl⟩ rfl rfl rfl rfl rfl dX9_pays_2 rfl (fun q_2 hf => ?_)
  refine z_istore (pc' := 7) C [(4, .int q_2), (0, .ref (zo w + a)), (1, .int p1), (2, .long p2)] dX9_pays_5 rfl rfl rfl ?_
  refine z_bipush (pc' := 9) C dX9_pays_7 zk_bipush_9 rfl ?_
  refine z_aload_n (pc' := 10) C 1 dX9_pays_9 rfl rfl rfl ?_
  refine z_iload_n (pc' := 11) C 2 dX9_pays_10 rfl rfl rfl ?_
  refine z_cS (pc' := 14) C hf (As := [.int p1]) (fun hq => c_X9_bill  hq) (fun _ => (zu h a [(1, .inl (w.2.2.1 1, 22500, .inr (.inl m_rows)))])) (fun q_11 => [.int q_11, .ref (zo w + a), .int (9 : Int32)]) (fun _ => rfl) (fun _ => rfl) zy_X9_bill zw_1494 zw_1495 ⟨rfl, rfl⟩ rfl rfl rfl rfl rfl dX9_pays_11 rfl (fun q_11 hf => ?_)
  refine z_cV (pc' := 17) C hf (As := [.int q_11]) (fun hq => c_X9_small (a := a) (zc_o (o := 0) h_a0 rfl) (zc_i (o := 1) n_a1 rfl) hq) (fun _ => (zu h a [(1, .inl (w.2.2.1 1, 22500, .inr (.inl m_rows)))])) (fun q_14 => [.int q_14, .int (9 : Int32)]) (fun _ => rfl) (fun _ => rfl) zy_X9_small zw_1357 zw_1359 zv_45 (ci := 9) rfl (zc_o (o := 0) h_a0 rfl) ⟨rfl, rfl⟩ rfl rfl rfl rfl rfl dX9_pays_14 rfl (fun q_14 hf => ?_)
  refine z_iadd (pc' := 18) C dX9_pays_17 rfl ?_
  refine z_istore (pc' := 20) C [(5, .int ((9 : Int32) + q_14)), (4, .int q_2), (0, .ref (zo w + a)), (1, .int p1), (2, .long p2)] dX9_pays_18 rfl rfl rfl ?_
  refine z_aload_n (pc' := 21) C 2 dX9_pays_20 rfl rfl rfl ?_
  refine z_iload (pc' := 23) C 1 dX9_pays_21 rfl rfl ?_
  refine z_aload_n (pc' := 24) C 2 dX9_pays_23 rfl rfl rfl ?_
  refine z_iload (pc' := 26) C 1 dX9_pays_24 rfl rfl ?_
  refine z_cV (pc' := 29) C hf (As := [.int q_2]) (fun hq => c_X9_get (a := a) (zc_o (o := 0) h_a0 rfl) (zc_i (o := 1) n_a1 rfl) hq) (fun _ => (zu h a [(1, .inl (w.2.2.1 1, 22500, .inr (.inl m_rows)))])) (fun q_26 => [.long q_26, .int q_2, .ref (zo w + a)]) (fun _ => rfl) (fun _ => rfl) zy_X9_get zw_1349 zw_1351 zv_43 (ci := 9) rfl (zc_o (o := 0) h_a0 rfl) ⟨rfl, rfl⟩ rfl rfl rfl rfl rfl dX9_pays_26 rfl (fun q_26 hf => ?_)
  refine z_lload_n (pc' := 30) C 4 dX9_pays_29 rfl rfl rfl ?_
  refine z_lsub (pc' := 31) C dX9_pays_30 rfl ?_
  refine z_cV (pc' := 34) C hf (As := [.int q_2, .long (q_26 - p2)]) (fun hq => c_X9_put (a := a) (zc_o (o := 0) h_a0 rfl) (zc_i (o := 1) n_a1 rfl) hq) (fun q_31 => (zu h a [(1, .inl (w.2.2.1 1, 22500, .inr (.inl q_31)))])) (fun q_31 => []) (fun _ => zu_sh (d := 0) rfl rfl) (fun _ => rfl) zy_X9_put zw_1353 zw_1355 zv_44 (ci := 9) rfl (zc_o (o := 0) h_a0 rfl) ⟨rfl, rfl⟩ rfl rfl rfl rfl rfl dX9_pays_31 rfl (fun q_31 hf => ?_)
  refine z_aload_n (pc' := 35) C 2 dX9_pays_34 rfl rfl rfl ?_
  refine z_iload (pc' := 37) C 0 dX9_pays_35 rfl rfl ?_
  refine z_aload_n (pc' := 38) C 2 dX9_pays_37 rfl rfl rfl ?_
  refine z_iload (pc' := 40) C 0 dX9_pays_38 rfl rfl ?_
  refine z_cV (pc' := 43) C hf (As := [.int ((9 : Int32) + q_14)]) (fun hq => c_X9_get (a := a) (zc_o (o := 0) h_a0 rfl) (zc_i (o := 1) n_a1 rfl) hq) (fun _ => (zu h a [(1, .inl (w.2.2.1 1, 22500, .inr (.inl q_31)))])) (fun q_40 => [.long q_40, .int ((9 : Int32) + q_14), .ref (zo w + a)]) (fun _ => rfl) (fun _ => rfl) zy_X9_get zw_1349 zw_1351 zv_43 (ci := 9) rfl (zc_o (o := 0) h_a0 rfl) ⟨rfl, rfl⟩ rfl rfl rfl rfl rfl dX9_pays_40 rfl (fun q_40 hf => ?_)
  refine z_lload_n (pc' := 44) C 4 dX9_pays_43 rfl rfl rfl ?_
  refine z_ladd (pc' := 45) C dX9_pays_44 rfl ?_
  refine z_cV (pc' := 48) C hf (As := [.int ((9 : Int32) + q_14), .long (q_40 + p2)]) (fun hq => c_X9_put (a := a) (zc_o (o := 0) h_a0 rfl) (zc_i (o := 1) n_a1 rfl) hq) (fun q_45 => (zu h a [(1, .inl (w.2.2.1 1, 22500, .inr (.inl q_45)))])) (fun q_45 => []) (fun _ => zu_sh (d := 0) rfl rfl) (fun _ => rfl) zy_X9_put zw_1353 zw_1355 zv_44 (ci := 9) rfl (zc_o (o := 0) h_a0 rfl) ⟨rfl, rfl⟩ rfl rfl rfl rfl rfl dX9_pays_45 rfl (fun q_45 hf => ?_)
  refine z_aload_n (pc' := 49) C 2 dX9_pays_48 rfl rfl rfl ?_
  refine z_iload_n (pc' := 50) C 3 dX9_pays_49 rfl rfl rfl ?_
  refine z_cS (pc' := 53) C hf (As := [.int p1]) (fun hq => c_X9_bill  hq) (fun _ => (zu h a [(1, .inl (w.2.2.1 1, 22500, .inr (.inl q_45)))])) (fun q_50 => [.int q_50, .ref (zo w + a)]) (fun _ => rfl) (fun _ => rfl) zy_X9_bill zw_1494 zw_1495 ⟨rfl, rfl⟩ rfl rfl rfl rfl rfl dX9_pays_50 rfl (fun q_50 hf => ?_)
  refine z_iconst (pc' := 54) C dX9_pays_53 zk_iconst_2 rfl ?_
  refine z_iadd (pc' := 55) C dX9_pays_54 rfl ?_
  refine z_aload_n (pc' := 56) C 2 dX9_pays_55 rfl rfl rfl ?_
  refine z_iload_n (pc' := 57) C 3 dX9_pays_56 rfl rfl rfl ?_
  refine z_cS (pc' := 60) C hf (As := [.int p1]) (fun hq => c_X9_bill  hq) (fun _ => (zu h a [(1, .inl (w.2.2.1 1, 22500, .inr (.inl q_45)))])) (fun q_57 => [.int q_57, .ref (zo w + a), .int (q_50 + (2 : Int32)), .ref (zo w + a)]) (fun _ => rfl) (fun _ => rfl) zy_X9_bill zw_1494 zw_1495 ⟨rfl, rfl⟩ rfl rfl rfl rfl rfl dX9_pays_57 rfl (fun q_57 hf => ?_)
  refine z_iconst (pc' := 61) C dX9_pays_60 zk_iconst_2 rfl ?_
  refine z_iadd (pc' := 62) C dX9_pays_61 rfl ?_
  refine z_cV (pc' := 65) C hf (As := [.int (q_57 + (2 : Int32))]) (fun hq => c_X9_get (a := a) (zc_o (o := 0) h_a0 rfl) (zc_i (o := 1) n_a1 rfl) hq) (fun _ => (zu h a [(1, .inl (w.2.2.1 1, 22500, .inr (.inl q_45)))])) (fun q_62 => [.long q_62, .int (q_50 + (2 : Int32)), .ref (zo w + a)]) (fun _ => rfl) (fun _ => rfl) zy_X9_get zw_1349 zw_1351 zv_43 (ci := 9) rfl (zc_o (o := 0) h_a0 rfl) ⟨rfl, rfl⟩ rfl rfl rfl rfl rfl dX9_pays_62 rfl (fun q_62 hf => ?_)
  refine z_lload_n (pc' := 66) C 4 dX9_pays_65 rfl rfl rfl ?_
  refine z_ladd (pc' := 67) C dX9_pays_66 rfl ?_
  refine z_cV (pc' := 70) C hf (As := [.int (q_50 + (2 : Int32)), .long (q_62 + p2)]) (fun hq => c_X9_put (a := a) (zc_o (o := 0) h_a0 rfl) (zc_i (o := 1) n_a1 rfl) hq) (fun q_67 => (zu h a [(1, .inl (w.2.2.1 1, 22500, .inr (.inl q_67)))])) (fun q_67 => []) (fun _ => zu_sh (d := 0) rfl rfl) (fun _ => rfl) zy_X9_put zw_1353 zw_1355 zv_44 (ci := 9) rfl (zc_o (o := 0) h_a0 rfl) ⟨rfl, rfl⟩ rfl rfl rfl rfl rfl dX9_pays_67 rfl (fun q_67 hf => ?_)
  cases hf
  exact z_vret C rfl rfl dX9_pays_70
set_option maxRecDepth 20000 in
theorem w_X9_dueNext_62 {X : zC} {w : zV} {N : Nat} {h : zH} {a : Nat} {m_thrown : Int32} {m_next : Int32} {m_error : Int32} {m_place : Int32} {m_began : Int32} {m_nested : Int32} {m_once : Int32} {m_now : Int32} {m_undoable : Int32} {m_bytes : Int32} {m_errorAt : Int32} {m_size : Int32} {m_rows : Nat → Int64} (C : zK X w RX9 cX9_dueNext 10 (some .int) (zr 1 29)) (h_a0 : zc N h (a + 0) (.inr (9, [.int m_thrown, .ref (zo w + (a + 1)), .ref (zo w + (a + 2)), .ref (zo w + (a + 3)), .int m_now, .int m_undoable, .ref (zo w + (a + 4)), .int m_bytes, .int m_errorAt, .int m_size, .int m_next, .int m_error, .int m_place, .int m_began, .int m_nested, .int m_once, .ref (zo w + (a + 5))]))) (h_a1 : zc N h (a + 1) (.inl (w.2.2.1 1, 22500, .inr (.inl m_rows)))) {r : Int32} {k6 : Int32 → (Nat → Int64) → Int64 → Int32 → Int64 → Int32 → Int32 → Option (Int32)} (hk6 : ∀ {x1 : Int64} {x3 : Int32} {x4 : Int64} {x6 : Int32} {x7 : Int32}, k6 m_now m_rows x1 x3 x4 x6 x7 = some r → zZ X w (zQ X w (zr 1 29) (some (.int r)) false N h) 0 0 false N h 6 [(0, .ref (zo w + a)), (1, .long x1), (3, .int x3), (4, .long x4), (6, .int x6), (7, .int x7)] []) {x1 : Int64} {x3 : Int32} {x4 : Int64} {x6 : Int32} {x7 : Int32} {x8 : Int64} (hf : f_X9_dueNext_62 k6 m_now m_rows x1 x3 x4 x6 x7 x8 = some r) : zZ X w (zQ X w (zr 1 29) (some (.int r)) false N h) 0 0 false N h 62 [(0, .ref (zo w + a)), (1, .long x1), (3, .int x3), (4, .long x4), (6, .int x6), (7, .int x7), (8, .long x8)] [] := by
  unfold f_X9_dueNext_62 at hf
  refine z_iload (pc' := 64) C 4 dX9_dueNext_62 rfl rfl ?_
  refine z_iconst (pc' := 65) C dX9_dueNext_64 zk_iconst_m1 rfl ?_
  refine z_icmp_eq (pc' := 68) C 85 hf dX9_dueNext_65 rfl rfl (fun g_65 hf => ?_) (fun g_65 hf => ?_)
  · refine z_iload (pc' := 87) C 5 dX9_dueNext_85 rfl rfl ?_
    refine z_istore (pc' := 89) C [(6, .int x7), (0, .ref (zo w + a)), (1, .long x1), (3, .int x3), (4, .long x4), (7, .int x7), (8, .long x8)] dX9_dueNext_87 rfl rfl rfl ?_
    refine z_iinc (pc' := 92) C 5 [(7, .int (x7 + (1 : Int32))), (6, .int x7), (0, .ref (zo w + a)), (1, .long x1), (3, .int x3), (4, .long x4), (8, .long x8)] dX9_dueNext_89 rfl zk_iconst_1 rfl rfl rfl ?_
    refine z_goto C 6 dX9_dueNext_92 rfl ?_
    refine z_pick (lv' := [(0, .ref (zo w + a)), (1, .long x1), (3, .int x3), (4, .long x4), (6, .int x7), (7, .int (x7 + (1 : Int32)))]) [2, 3, 4, 5, 1, 0] rfl ?_
    exact hk6 hf
  · refine z_lload (pc' := 70) C 6 dX9_dueNext_68 rfl rfl ?_
    refine z_aload_n (pc' := 71) C 0 dX9_dueNext_70 rfl rfl rfl ?_
    refine z_iload (pc' := 73) C 4 dX9_dueNext_71 rfl rfl ?_
    refine z_cS (pc' := 76) C hf (As := [.int x6]) (fun hq => c_X9_bill  hq) (fun _ => h) (fun q_73 => [.int q_73, .ref (zo w + a), .long x8]) (fun _ => rfl) (fun _ => rfl) zy_X9_bill zw_1494 zw_1495 ⟨rfl, rfl⟩ rfl rfl rfl rfl rfl dX9_dueNext_73 rfl (fun q_73 hf => ?_)
    refine z_iconst (pc' := 77) C dX9_dueNext_76 zk_iconst_4 rfl ?_
    refine z_iadd (pc' := 78) C dX9_dueNext_77 rfl ?_
    refine z_cV (pc' := 81) C hf (As := [.int (q_73 + (4 : Int32))]) (fun hq => c_X9_get (a := a) h_a0 h_a1 hq) (fun _ => h) (fun q_78 => [.long q_78, .long x8]) (fun _ => rfl) (fun _ => rfl) zy_X9_get zw_1349 zw_1351 zv_43 (ci := 9) rfl h_a0 ⟨rfl, rfl⟩ rfl rfl rfl rfl rfl dX9_dueNext_78 rfl (fun q_78 hf => ?_)
    refine z_lcmp_ge (pc' := 85) C 89 hf dX9_dueNext_81 rfl dX9_dueNext_82 rfl rfl (fun g_81 hf => ?_) (fun g_81 hf => ?_)
    · refine z_iinc (pc' := 92) C 5 [(7, .int (x7 + (1 : Int32))), (0, .ref (zo w + a)), (1, .long x1), (3, .int x3), (4, .long x4), (6, .int x6), (8, .long x8)] dX9_dueNext_89 rfl zk_iconst_1 rfl rfl rfl ?_
      refine z_goto C 6 dX9_dueNext_92 rfl ?_
      refine z_pick (lv' := [(0, .ref (zo w + a)), (1, .long x1), (3, .int x3), (4, .long x4), (6, .int x6), (7, .int (x7 + (1 : Int32)))]) [1, 2, 3, 4, 5, 0] rfl ?_
      exact hk6 hf
    · refine z_iload (pc' := 87) C 5 dX9_dueNext_85 rfl rfl ?_
      refine z_istore (pc' := 89) C [(6, .int x7), (0, .ref (zo w + a)), (1, .long x1), (3, .int x3), (4, .long x4), (7, .int x7), (8, .long x8)] dX9_dueNext_87 rfl rfl rfl ?_
      refine z_iinc (pc' := 92) C 5 [(7, .int (x7 + (1 : Int32))), (6, .int x7), (0, .ref (zo w + a)), (1, .long x1), (3, .int x3), (4, .long x4), (8, .long x8)] dX9_dueNext_89 rfl zk_iconst_1 rfl rfl rfl ?_
      refine z_goto C 6 dX9_dueNext_92 rfl ?_
      refine z_pick (lv' := [(0, .ref (zo w + a)), (1, .long x1), (3, .int x3), (4, .long x4), (6, .int x7), (7, .int (x7 + (1 : Int32)))]) [2, 3, 4, 5, 1, 0] rfl ?_
      exact hk6 hf
set_option maxRecDepth 20000 in
theorem w_X9_dueNext_6 {X : zC} {w : zV} {N : Nat} {h : zH} {a : Nat} {m_thrown : Int32} {m_next : Int32} {m_error : Int32} {m_place : Int32} {m_began : Int32} {m_nested : Int32} {m_once : Int32} {m_now : Int32} {m_undoable : Int32} {m_bytes : Int32} {m_errorAt : Int32} {m_size : Int32} {m_rows : Nat → Int64} (C : zK X w RX9 cX9_dueNext 10 (some .int) (zr 1 29)) (h_a0 : zc N h (a + 0) (.inr (9, [.int m_thrown, .ref (zo w + (a + 1)), .ref (zo w + (a + 2)), .ref (zo w + (a + 3)), .int m_now, .int m_undoable, .ref (zo w + (a + 4)), .int m_bytes, .int m_errorAt, .int m_size, .int m_next, .int m_error, .int m_place, .int m_began, .int m_nested, .int m_once, .ref (zo w + (a + 5))]))) (h_a1 : zc N h (a + 1) (.inl (w.2.2.1 1, 22500, .inr (.inl m_rows)))) {r : Int32} (n : Nat) : ∀ {x1 : Int64} {x3 : Int32} {x4 : Int64} {x6 : Int32} {x7 : Int32}, f_X9_dueNext_6  n m_now m_rows x1 x3 x4 x6 x7 = some r → zZ X w (zQ X w (zr 1 29) (some (.int r)) false N h) 0 0 false N h 6 [(0, .ref (zo w + a)), (1, .long x1), (3, .int x3), (4, .long x4), (6, .int x6), (7, .int x7)] [] := by
  induction n with
  | zero =>
    intro x1 x3 x4 x6 x7 hf
    have hf : (none : Option (Int32)) = some r := hf
    cases hf
  | succ z ih =>
    intro x1 x3 x4 x6 x7 hf
    rw [f_X9_dueNext_6] at hf
    refine z_iload (pc' := 8) C 5 dX9_dueNext_6 rfl rfl ?_
    refine z_i2l (pc' := 9) C dX9_dueNext_8 rfl ?_
    refine z_aload_n (pc' := 10) C 0 dX9_dueNext_9 rfl rfl rfl ?_
    refine z_iconst (pc' := 11) C dX9_dueNext_10 zk_iconst_5 rfl ?_
    refine z_cV (pc' := 14) C hf (As := [.int (5 : Int32)]) (fun hq => c_X9_get (a := a) h_a0 h_a1 hq) (fun _ => h) (fun q_11 => [.long q_11, .long (x7).toInt64]) (fun _ => rfl) (fun _ => rfl) zy_X9_get zw_1349 zw_1351 zv_43 (ci := 9) rfl h_a0 ⟨rfl, rfl⟩ rfl rfl rfl rfl rfl dX9_dueNext_11 rfl (fun q_11 hf => ?_)
    refine z_lcmp_ge (pc' := 18) C 95 hf dX9_dueNext_14 rfl dX9_dueNext_15 rfl rfl (fun g_14 hf => ?_) (fun g_14 hf => ?_)
    · refine z_iload (pc' := 97) C 4 dX9_dueNext_95 rfl rfl ?_
      cases hf
      exact z_iret C rfl rfl dX9_dueNext_97
    · refine z_aload_n (pc' := 19) C 0 dX9_dueNext_18 rfl rfl rfl ?_
      refine z_iload (pc' := 21) C 5 dX9_dueNext_19 rfl rfl ?_
      refine z_cS (pc' := 24) C hf (As := [.int x7]) (fun hq => c_X9_bill  hq) (fun _ => h) (fun q_21 => [.int q_21, .ref (zo w + a)]) (fun _ => rfl) (fun _ => rfl) zy_X9_bill zw_1494 zw_1495 ⟨rfl, rfl⟩ rfl rfl rfl rfl rfl dX9_dueNext_21 rfl (fun q_21 hf => ?_)
      refine z_iconst (pc' := 25) C dX9_dueNext_24 zk_iconst_4 rfl ?_
      refine z_iadd (pc' := 26) C dX9_dueNext_25 rfl ?_
      refine z_cV (pc' := 29) C hf (As := [.int (q_21 + (4 : Int32))]) (fun hq => c_X9_get (a := a) h_a0 h_a1 hq) (fun _ => h) (fun q_26 => [.long q_26]) (fun _ => rfl) (fun _ => rfl) zy_X9_get zw_1349 zw_1351 zv_43 (ci := 9) rfl h_a0 ⟨rfl, rfl⟩ rfl rfl rfl rfl rfl dX9_dueNext_26 rfl (fun q_26 hf => ?_)
      refine z_lstore (pc' := 31) C [(8, .long q_26), (0, .ref (zo w + a)), (1, .long x1), (3, .int x3), (4, .long x4), (6, .int x6), (7, .int x7)] dX9_dueNext_29 rfl rfl rfl ?_
      refine z_lload (pc' := 33) C 0 dX9_dueNext_31 rfl rfl ?_
      refine z_lload (pc' := 35) C 4 dX9_dueNext_33 rfl rfl ?_
      refine z_lcmp_gt (pc' := 39) C 89 hf dX9_dueNext_35 rfl dX9_dueNext_36 rfl rfl (fun g_35 hf => ?_) (fun g_35 hf => ?_)
      · refine z_iinc (pc' := 92) C 6 [(7, .int (x7 + (1 : Int32))), (8, .long q_26), (0, .ref (zo w + a)), (1, .long x1), (3, .int x3), (4, .long x4), (6, .int x6)] dX9_dueNext_89 rfl zk_iconst_1 rfl rfl rfl ?_
        refine z_goto C 6 dX9_dueNext_92 rfl ?_
        refine z_pick (lv' := [(0, .ref (zo w + a)), (1, .long x1), (3, .int x3), (4, .long x4), (6, .int x6), (7, .int (x7 + (1 : Int32)))]) [2, 3, 4, 5, 6, 0] rfl ?_
        exact ih hf
      · refine z_lload (pc' := 41) C 0 dX9_dueNext_39 rfl rfl ?_
        refine z_lload_n (pc' := 42) C 2 dX9_dueNext_41 rfl rfl rfl ?_
        refine z_lcmp_lt (pc' := 46) C 89 hf dX9_dueNext_42 rfl dX9_dueNext_43 rfl rfl (fun g_42 hf => ?_) (fun g_42 hf => ?_)
        · refine z_iinc (pc' := 92) C 6 [(7, .int (x7 + (1 : Int32))), (8, .long q_26), (0, .ref (zo w + a)), (1, .long x1), (3, .int x3), (4, .long x4), (6, .int x6)] dX9_dueNext_89 rfl zk_iconst_1 rfl rfl rfl ?_
          refine z_goto C 6 dX9_dueNext_92 rfl ?_
          refine z_pick (lv' := [(0, .ref (zo w + a)), (1, .long x1), (3, .int x3), (4, .long x4), (6, .int x6), (7, .int (x7 + (1 : Int32)))]) [2, 3, 4, 5, 6, 0] rfl ?_
          exact ih hf
        · refine z_lload (pc' := 48) C 0 dX9_dueNext_46 rfl rfl ?_
          refine z_lload_n (pc' := 49) C 2 dX9_dueNext_48 rfl rfl rfl ?_
          refine z_lcmp_ne (pc' := 53) C 62 hf dX9_dueNext_49 rfl dX9_dueNext_50 rfl rfl (fun g_49 hf => ?_) (fun g_49 hf => ?_)
          · refine z_pick (lv' := [(0, .ref (zo w + a)), (1, .long x1), (3, .int x3), (4, .long x4), (6, .int x6), (7, .int x7), (8, .long q_26)]) [1, 2, 3, 4, 5, 6, 0] rfl ?_
            exact w_X9_dueNext_62 C h_a0 h_a1 (fun hf => ih hf) hf
          · refine z_iload (pc' := 55) C 6 dX9_dueNext_53 rfl rfl ?_
            refine z_iload_n (pc' := 56) C 3 dX9_dueNext_55 rfl rfl rfl ?_
            refine z_icmp_gt (pc' := 59) C 62 hf dX9_dueNext_56 rfl rfl (fun g_56 hf => ?_) (fun g_56 hf => ?_)
            · refine z_pick (lv' := [(0, .ref (zo w + a)), (1, .long x1), (3, .int x3), (4, .long x4), (6, .int x6), (7, .int x7), (8, .long q_26)]) [1, 2, 3, 4, 5, 6, 0] rfl ?_
              exact w_X9_dueNext_62 C h_a0 h_a1 (fun hf => ih hf) hf
            · refine z_goto C 89 dX9_dueNext_59 rfl ?_
              refine z_iinc (pc' := 92) C 6 [(7, .int (x7 + (1 : Int32))), (8, .long q_26), (0, .ref (zo w + a)), (1, .long x1), (3, .int x3), (4, .long x4), (6, .int x6)] dX9_dueNext_89 rfl zk_iconst_1 rfl rfl rfl ?_
              refine z_goto C 6 dX9_dueNext_92 rfl ?_
              refine z_pick (lv' := [(0, .ref (zo w + a)), (1, .long x1), (3, .int x3), (4, .long x4), (6, .int x6), (7, .int (x7 + (1 : Int32)))]) [2, 3, 4, 5, 6, 0] rfl ?_
              exact ih hf
set_option maxRecDepth 20000 in
theorem c_X9_dueNext {w : zV} {N : Nat} {h : zH} {a : Nat} {m_thrown : Int32} {m_next : Int32} {m_error : Int32} {m_place : Int32} {m_began : Int32} {m_nested : Int32} {m_once : Int32} {m_now : Int32} {m_undoable : Int32} {m_bytes : Int32} {m_errorAt : Int32} {m_size : Int32} {m_rows : Nat → Int64} {p1 : Int64} {p3 : Int32} {p4 : Int64} (h_a0 : zc N h (a + 0) (.inr (9, [.int m_thrown, .ref (zo w + (a + 1)), .ref (zo w + (a + 2)), .ref (zo w + (a + 3)), .int m_now, .int m_undoable, .ref (zo w + (a + 4)), .int m_bytes, .int m_errorAt, .int m_size, .int m_next, .int m_error, .int m_place, .int m_began, .int m_nested, .int m_once, .ref (zo w + (a + 5))]))) (h_a1 : zc N h (a + 1) (.inl (w.2.2.1 1, 22500, .inr (.inl m_rows)))) {r : Int32} (hf : f_X9_dueNext m_now m_rows p1 p3 p4 = some r) : zM w yX9_dueNext cX9_dueNext 10 (some .int) (zr 1 29) false N N h [.ref (zo w + a), .long p1, .int p3, .long p4] (some (.int r)) h := by
  unfold f_X9_dueNext at hf
  refine zM_of (by decide) rfl (fun X C _ => ?_)
  refine z_pick (lv' := [(0, .ref (zo w + a)), (1, .long p1), (3, .int p3), (4, .long p4)]) [0, 1, 2, 3] rfl ?_
  refine z_iconst (pc' := 1) C dX9_dueNext_0 zk_iconst_m1 rfl ?_
  refine z_istore (pc' := 3) C [(6, .int (-1 : Int32)), (0, .ref (zo w + a)), (1, .long p1), (3, .int p3), (4, .long p4)] dX9_dueNext_1 rfl rfl rfl ?_
  refine z_iconst (pc' := 4) C dX9_dueNext_3 zk_iconst_0 rfl ?_
  refine z_istore (pc' := 6) C [(7, .int (0 : Int32)), (6, .int (-1 : Int32)), (0, .ref (zo w + a)), (1, .long p1), (3, .int p3), (4, .long p4)] dX9_dueNext_4 rfl rfl rfl ?_
  refine z_pick (lv' := [(0, .ref (zo w + a)), (1, .long p1), (3, .int p3), (4, .long p4), (6, .int (-1 : Int32)), (7, .int (0 : Int32))]) [2, 3, 4, 5, 1, 0] rfl ?_
  exact w_X9_dueNext_6 C h_a0 h_a1  FU hf
set_option maxRecDepth 20000 in
theorem w_X9_settles_69 {X : zC} {w : zV} {N : Nat} {h : zH} {a : Nat} {m_thrown : Int32} {m_next : Int32} {m_error : Int32} {m_place : Int32} {m_began : Int32} {m_nested : Int32} {m_once : Int32} {m_now : Int32} {m_undoable : Int32} {m_bytes : Int32} {m_errorAt : Int32} {m_size : Int32} (C : zK X w RX9 cX9_settles 8 (some .long) (zr 4 120)) (h_a0 : zc N h (a + 0) (.inr (9, [.int m_thrown, .ref (zo w + (a + 1)), .ref (zo w + (a + 2)), .ref (zo w + (a + 3)), .int m_now, .int m_undoable, .ref (zo w + (a + 4)), .int m_bytes, .int m_errorAt, .int m_size, .int m_next, .int m_error, .int m_place, .int m_began, .int m_nested, .int m_once, .ref (zo w + (a + 5))]))) (n_a1 : a + 1 < N) {r : Int64 × (Nat → Int64)} {k17 : Int32 → (Nat → Int64) → Int64 → Int64 → Int32 → Option (Int64 × (Nat → Int64))} (hk17 : ∀ {m_rows : Nat → Int64} {x1 : Int64} {x3 : Int64} {x5 : Int32}, k17 m_now m_rows x1 x3 x5 = some r → zZ X w (zQ X w (zr 4 120) (some (.long r.1)) false N (zu h a [(1, .inl (w.2.2.1 1, 22500, .inr (.inl r.2)))])) 0 0 false N (zu h a [(1, .inl (w.2.2.1 1, 22500, .inr (.inl m_rows)))]) 17 [(0, .ref (zo w + a)), (1, .long x1), (3, .long x3), (5, .int x5)] []) {m_rows : Nat → Int64} {x1 : Int64} {x3 : Int64} {x5 : Int32} (hf : f_X9_settles_69 k17 m_now m_rows x1 x3 x5 = some r) : zZ X w (zQ X w (zr 4 120) (some (.long r.1)) false N (zu h a [(1, .inl (w.2.2.1 1, 22500, .inr (.inl r.2)))])) 0 0 false N (zu h a [(1, .inl (w.2.2.1 1, 22500, .inr (.inl m_rows)))]) 69 [(0, .ref (zo w + a)), (1, .long x1), (3, .long x3), (5, .int x5)] [] := by
  unfold f_X9_settles_69 at hf
  refine z_aload_n (pc' := 70) C 0 dX9_settles_69 rfl rfl rfl ?_
  refine z_aload_n (pc' := 71) C 0 dX9_settles_70 rfl rfl rfl ?_
  refine z_iload (pc' := 73) C 3 dX9_settles_71 rfl rfl ?_
  refine z_cS (pc' := 76) C hf (As := [.int x5]) (fun hq => c_X9_bill  hq) (fun _ => (zu h a [(1, .inl (w.2.2.1 1, 22500, .inr (.inl m_rows)))])) (fun q_73 => [.int q_73, .ref (zo w + a), .ref (zo w + a)]) (fun _ => rfl) (fun _ => rfl) zy_X9_bill zw_1494 zw_1495 ⟨rfl, rfl⟩ rfl rfl rfl rfl rfl dX9_settles_73 rfl (fun q_73 hf => ?_)
  refine z_iconst (pc' := 77) C dX9_settles_76 zk_iconst_4 rfl ?_
  refine z_iadd (pc' := 78) C dX9_settles_77 rfl ?_
  refine z_cV (pc' := 81) C hf (As := [.int (q_73 + (4 : Int32))]) (fun hq => c_X9_get (a := a) (zc_o (o := 0) h_a0 rfl) (zc_i (o := 1) n_a1 rfl) hq) (fun _ => (zu h a [(1, .inl (w.2.2.1 1, 22500, .inr (.inl m_rows)))])) (fun q_78 => [.long q_78, .ref (zo w + a)]) (fun _ => rfl) (fun _ => rfl) zy_X9_get zw_1349 zw_1351 zv_43 (ci := 9) rfl (zc_o (o := 0) h_a0 rfl) ⟨rfl, rfl⟩ rfl rfl rfl rfl rfl dX9_settles_78 rfl (fun q_78 hf => ?_)
  refine z_iload (pc' := 83) C 3 dX9_settles_81 rfl rfl ?_
  refine z_lload_n (pc' := 84) C 2 dX9_settles_83 rfl rfl rfl ?_
  refine z_cV (pc' := 87) C hf (As := [.long q_78, .int x5, .long x3]) (fun hq => c_X9_dueNext (a := a) (zc_o (o := 0) h_a0 rfl) (zc_i (o := 1) n_a1 rfl) hq) (fun _ => (zu h a [(1, .inl (w.2.2.1 1, 22500, .inr (.inl m_rows)))])) (fun q_84 => [.int q_84]) (fun _ => rfl) (fun _ => rfl) zy_X9_dueNext zw_1562 zw_1564 zv_67 (ci := 9) rfl (zc_o (o := 0) h_a0 rfl) ⟨rfl, rfl⟩ rfl rfl rfl rfl rfl dX9_settles_84 rfl (fun q_84 hf => ?_)
  refine z_istore (pc' := 89) C [(5, .int q_84), (0, .ref (zo w + a)), (1, .long x1), (3, .long x3)] dX9_settles_87 rfl rfl rfl ?_
  refine z_goto C 17 dX9_settles_89 rfl ?_
  refine z_pick (lv' := [(0, .ref (zo w + a)), (1, .long x1), (3, .long x3), (5, .int q_84)]) [1, 2, 3, 0] rfl ?_
  exact hk17 hf
set_option maxRecDepth 20000 in
theorem w_X9_settles_17 {X : zC} {w : zV} {N : Nat} {h : zH} {a : Nat} {m_thrown : Int32} {m_next : Int32} {m_error : Int32} {m_place : Int32} {m_began : Int32} {m_nested : Int32} {m_once : Int32} {m_now : Int32} {m_undoable : Int32} {m_bytes : Int32} {m_errorAt : Int32} {m_size : Int32} (C : zK X w RX9 cX9_settles 8 (some .long) (zr 4 120)) (h_a0 : zc N h (a + 0) (.inr (9, [.int m_thrown, .ref (zo w + (a + 1)), .ref (zo w + (a + 2)), .ref (zo w + (a + 3)), .int m_now, .int m_undoable, .ref (zo w + (a + 4)), .int m_bytes, .int m_errorAt, .int m_size, .int m_next, .int m_error, .int m_place, .int m_began, .int m_nested, .int m_once, .ref (zo w + (a + 5))]))) (n_a1 : a + 1 < N) {r : Int64 × (Nat → Int64)} (n : Nat) : ∀ {m_rows : Nat → Int64} {x1 : Int64} {x3 : Int64} {x5 : Int32}, f_X9_settles_17  n m_now m_rows x1 x3 x5 = some r → zZ X w (zQ X w (zr 4 120) (some (.long r.1)) false N (zu h a [(1, .inl (w.2.2.1 1, 22500, .inr (.inl r.2)))])) 0 0 false N (zu h a [(1, .inl (w.2.2.1 1, 22500, .inr (.inl m_rows)))]) 17 [(0, .ref (zo w + a)), (1, .long x1), (3, .long x3), (5, .int x5)] [] := by
  induction n with
  | zero =>
    intro m_rows x1 x3 x5 hf
    have hf : (none : Option (Int64 × (Nat → Int64))) = some r := hf
    cases hf
  | succ z ih =>
    intro m_rows x1 x3 x5 hf
    rw [f_X9_settles_17] at hf
    refine z_iload (pc' := 19) C 3 dX9_settles_17 rfl rfl ?_
    refine z_iconst (pc' := 20) C dX9_settles_19 zk_iconst_m1 rfl ?_
    refine z_icmp_eq (pc' := 23) C 92 hf dX9_settles_20 rfl rfl (fun g_20 hf => ?_) (fun g_20 hf => ?_)
    · refine z_aload_n (pc' := 93) C 0 dX9_settles_92 rfl rfl rfl ?_
      refine z_iconst (pc' := 94) C dX9_settles_93 zk_iconst_1 rfl ?_
      refine z_lload_n (pc' := 95) C 2 dX9_settles_94 rfl rfl rfl ?_
      refine z_lconst (pc' := 96) C dX9_settles_95 zl_1 rfl ?_
      refine z_ladd (pc' := 97) C dX9_settles_96 rfl ?_
      refine z_cV (pc' := 100) C hf (As := [.int (1 : Int32), .long (x3 + (1 : Int64))]) (fun hq => c_X9_put (a := a) (zc_o (o := 0) h_a0 rfl) (zc_i (o := 1) n_a1 rfl) hq) (fun q_97 => (zu h a [(1, .inl (w.2.2.1 1, 22500, .inr (.inl q_97)))])) (fun q_97 => []) (fun _ => zu_sh (d := 0) rfl rfl) (fun _ => rfl) zy_X9_put zw_1353 zw_1355 zv_44 (ci := 9) rfl (zc_o (o := 0) h_a0 rfl) ⟨rfl, rfl⟩ rfl rfl rfl rfl rfl dX9_settles_97 rfl (fun q_97 hf => ?_)
      refine z_lload_n (pc' := 101) C 1 dX9_settles_100 rfl rfl rfl ?_
      cases hf
      exact z_lret C rfl rfl dX9_settles_101
    · refine z_aload_n (pc' := 24) C 0 dX9_settles_23 rfl rfl rfl ?_
      refine z_iload (pc' := 26) C 3 dX9_settles_24 rfl rfl ?_
      refine z_cV (pc' := 29) C hf (As := [.int x5]) (fun hq => c_X9_isHeld (a := a) (zc_o (o := 0) h_a0 rfl) (zc_i (o := 1) n_a1 rfl) hq) (fun _ => (zu h a [(1, .inl (w.2.2.1 1, 22500, .inr (.inl m_rows)))])) (fun q_26 => [.int q_26]) (fun _ => rfl) (fun _ => rfl) zy_X9_isHeld zw_1545 zw_1547 zv_65 (ci := 9) rfl (zc_o (o := 0) h_a0 rfl) ⟨rfl, rfl⟩ rfl rfl rfl rfl rfl dX9_settles_26 rfl (fun q_26 hf => ?_)
      refine z_if_eq (pc' := 32) C 35 hf dX9_settles_29 rfl rfl (fun g_29 hf => ?_) (fun g_29 hf => ?_)
      · refine z_aload_n (pc' := 36) C 0 dX9_settles_35 rfl rfl rfl ?_
        refine z_iload (pc' := 38) C 3 dX9_settles_36 rfl rfl ?_
        refine z_cV (pc' := 41) C hf (As := [.int x5]) (fun hq => c_X9_openOf (a := a) (zc_o (o := 0) h_a0 rfl) (zc_i (o := 1) n_a1 rfl) hq) (fun _ => (zu h a [(1, .inl (w.2.2.1 1, 22500, .inr (.inl m_rows)))])) (fun q_38 => [.long q_38]) (fun _ => rfl) (fun _ => rfl) zy_X9_openOf zw_1509 zw_1511 zv_63 (ci := 9) rfl (zc_o (o := 0) h_a0 rfl) ⟨rfl, rfl⟩ rfl rfl rfl rfl rfl dX9_settles_38 rfl (fun q_38 hf => ?_)
        refine z_aload_n (pc' := 42) C 0 dX9_settles_41 rfl rfl rfl ?_
        refine z_aload_n (pc' := 43) C 0 dX9_settles_42 rfl rfl rfl ?_
        refine z_iload (pc' := 45) C 3 dX9_settles_43 rfl rfl ?_
        refine z_cV (pc' := 48) C hf (As := [.int x5]) (fun hq => c_X9_payerOf (a := a) (zc_o (o := 0) h_a0 rfl) (zc_i (o := 1) n_a1 rfl) hq) (fun _ => (zu h a [(1, .inl (w.2.2.1 1, 22500, .inr (.inl m_rows)))])) (fun q_45 => [.int q_45, .ref (zo w + a), .long q_38]) (fun _ => rfl) (fun _ => rfl) zy_X9_payerOf zw_1566 zw_1568 zv_68 (ci := 9) rfl (zc_o (o := 0) h_a0 rfl) ⟨rfl, rfl⟩ rfl rfl rfl rfl rfl dX9_settles_45 rfl (fun q_45 hf => ?_)
        refine z_cV (pc' := 51) C hf (As := [.int q_45]) (fun hq => c_X9_get (a := a) (zc_o (o := 0) h_a0 rfl) (zc_i (o := 1) n_a1 rfl) hq) (fun _ => (zu h a [(1, .inl (w.2.2.1 1, 22500, .inr (.inl m_rows)))])) (fun q_48 => [.long q_48, .long q_38]) (fun _ => rfl) (fun _ => rfl) zy_X9_get zw_1349 zw_1351 zv_43 (ci := 9) rfl (zc_o (o := 0) h_a0 rfl) ⟨rfl, rfl⟩ rfl rfl rfl rfl rfl dX9_settles_48 rfl (fun q_48 hf => ?_)
        refine z_lmin (pc' := 54) C zw_1473 rfl rfl dX9_settles_51 rfl ?_
        refine z_lstore (pc' := 56) C [(6, .long (if q_48 < q_38 then q_48 else q_38)), (0, .ref (zo w + a)), (1, .long x1), (3, .long x3), (5, .int x5)] dX9_settles_54 rfl rfl rfl ?_
        refine z_aload_n (pc' := 57) C 1 dX9_settles_56 rfl rfl rfl ?_
        refine z_iload (pc' := 59) C 4 dX9_settles_57 rfl rfl ?_
        refine z_lload (pc' := 61) C 0 dX9_settles_59 rfl rfl ?_
        refine z_cV (pc' := 64) C hf (As := [.int x5, .long (if q_48 < q_38 then q_48 else q_38)]) (fun hq => c_X9_pays (a := a) (zc_o (o := 0) h_a0 rfl) (zc_i (o := 1) n_a1 rfl) hq) (fun q_61 => (zu h a [(1, .inl (w.2.2.1 1, 22500, .inr (.inl q_61)))])) (fun q_61 => []) (fun _ => zu_sh (d := 0) rfl rfl) (fun _ => rfl) zy_X9_pays zw_1570 zw_1572 zv_69 (ci := 9) rfl (zc_o (o := 0) h_a0 rfl) ⟨rfl, rfl⟩ rfl rfl rfl rfl rfl dX9_settles_61 rfl (fun q_61 hf => ?_)
        refine z_lload_n (pc' := 65) C 2 dX9_settles_64 rfl rfl rfl ?_
        refine z_lload (pc' := 67) C 0 dX9_settles_65 rfl rfl ?_
        refine z_ladd (pc' := 68) C dX9_settles_67 rfl ?_
        refine z_lstore_n (pc' := 69) C [(1, .long (x1 + (if q_48 < q_38 then q_48 else q_38))), (6, .long (if q_48 < q_38 then q_48 else q_38)), (0, .ref (zo w + a)), (3, .long x3), (5, .int x5)] dX9_settles_68 rfl rfl rfl rfl ?_
        refine z_pick (lv' := [(0, .ref (zo w + a)), (1, .long (x1 + (if q_48 < q_38 then q_48 else q_38))), (3, .long x3), (5, .int x5)]) [2, 0, 3, 4] rfl ?_
        exact w_X9_settles_69 C h_a0 n_a1 (fun hf => ih hf) hf
      · refine z_goto C 69 dX9_settles_32 rfl ?_
        exact w_X9_settles_69 C h_a0 n_a1 (fun hf => ih hf) hf
set_option maxRecDepth 20000 in
theorem c_X9_settles {w : zV} {N : Nat} {h : zH} {a : Nat} {m_thrown : Int32} {m_next : Int32} {m_error : Int32} {m_place : Int32} {m_began : Int32} {m_nested : Int32} {m_once : Int32} {m_now : Int32} {m_undoable : Int32} {m_bytes : Int32} {m_errorAt : Int32} {m_size : Int32} {m_rows : Nat → Int64} (h_a0 : zc N h (a + 0) (.inr (9, [.int m_thrown, .ref (zo w + (a + 1)), .ref (zo w + (a + 2)), .ref (zo w + (a + 3)), .int m_now, .int m_undoable, .ref (zo w + (a + 4)), .int m_bytes, .int m_errorAt, .int m_size, .int m_next, .int m_error, .int m_place, .int m_began, .int m_nested, .int m_once, .ref (zo w + (a + 5))]))) (h_a1 : zc N h (a + 1) (.inl (w.2.2.1 1, 22500, .inr (.inl m_rows)))) {r : Int64 × (Nat → Int64)} (hf : f_X9_settles m_now m_rows = some r) : zM w yX9_settles cX9_settles 8 (some .long) (zr 4 120) false N N h [.ref (zo w + a)] (some (.long r.1)) (zu h a [(1, .inl (w.2.2.1 1, 22500, .inr (.inl r.2)))]) := by
  unfold f_X9_settles at hf
  refine zM_of (by decide) rfl (fun X C _ => ?_)
  refine z_eq (h' := (zu h a [(1, .inl (w.2.2.1 1, 22500, .inr (.inl m_rows)))])) (zu_s h_a1 zu_0).symm ?_
  have n_a1 := h_a1.1
  refine z_pick (lv' := [(0, .ref (zo w + a))]) [0] rfl ?_
  refine z_lconst (pc' := 1) C dX9_settles_0 zl_0 rfl ?_
  refine z_lstore_n (pc' := 2) C [(1, .long (0 : Int64)), (0, .ref (zo w + a))] dX9_settles_1 rfl rfl rfl rfl ?_
  refine z_aload_n (pc' := 3) C 1 dX9_settles_2 rfl rfl rfl ?_
  refine z_iconst (pc' := 4) C dX9_settles_3 zk_iconst_1 rfl ?_
  refine z_cV (pc' := 7) C hf (As := [.int (1 : Int32)]) (fun hq => c_X9_get (a := a) (zc_o (o := 0) h_a0 rfl) (zc_i (o := 1) n_a1 rfl) hq) (fun _ => (zu h a [(1, .inl (w.2.2.1 1, 22500, .inr (.inl m_rows)))])) (fun q_4 => [.long q_4]) (fun _ => rfl) (fun _ => rfl) zy_X9_get zw_1349 zw_1351 zv_43 (ci := 9) rfl (zc_o (o := 0) h_a0 rfl) ⟨rfl, rfl⟩ rfl rfl rfl rfl rfl dX9_settles_4 rfl (fun q_4 hf => ?_)
  refine z_lstore_n (pc' := 8) C [(3, .long q_4), (1, .long (0 : Int64)), (0, .ref (zo w + a))] dX9_settles_7 rfl rfl rfl rfl ?_
  refine z_aload_n (pc' := 9) C 2 dX9_settles_8 rfl rfl rfl ?_
  refine z_lconst (pc' := 10) C dX9_settles_9 zl_0 rfl ?_
  refine z_iconst (pc' := 11) C dX9_settles_10 zk_iconst_m1 rfl ?_
  refine z_lload_n (pc' := 12) C 0 dX9_settles_11 rfl rfl rfl ?_
  refine z_cV (pc' := 15) C hf (As := [.long (0 : Int64), .int (-1 : Int32), .long q_4]) (fun hq => c_X9_dueNext (a := a) (zc_o (o := 0) h_a0 rfl) (zc_i (o := 1) n_a1 rfl) hq) (fun _ => (zu h a [(1, .inl (w.2.2.1 1, 22500, .inr (.inl m_rows)))])) (fun q_12 => [.int q_12]) (fun _ => rfl) (fun _ => rfl) zy_X9_dueNext zw_1562 zw_1564 zv_67 (ci := 9) rfl (zc_o (o := 0) h_a0 rfl) ⟨rfl, rfl⟩ rfl rfl rfl rfl rfl dX9_settles_12 rfl (fun q_12 hf => ?_)
  refine z_istore (pc' := 17) C [(5, .int q_12), (3, .long q_4), (1, .long (0 : Int64)), (0, .ref (zo w + a))] dX9_settles_15 rfl rfl rfl ?_
  refine z_pick (lv' := [(0, .ref (zo w + a)), (1, .long (0 : Int64)), (3, .long q_4), (5, .int q_12)]) [3, 2, 1, 0] rfl ?_
  exact w_X9_settles_17 C h_a0 n_a1  FU hf
set_option maxRecDepth 20000 in
theorem w_X9_settleDays_101 {X : zC} {w : zV} {N : Nat} {h : zH} {a : Nat} {m_next : Int32} {m_error : Int32} {m_place : Int32} {m_began : Int32} {m_nested : Int32} {m_once : Int32} {m_now : Int32} {m_undoable : Int32} {m_bytes : Int32} {m_errorAt : Int32} {m_size : Int32} (C : zK X w RX9 cX9_settleDays 6 (some .int) (zr 5 155)) (n_a0 : a + 0 < N) (n_a1 : a + 1 < N) (n_a3 : a + 3 < N) {r : Int32 × Int32 × (Nat → Int64) × (Nat → Int64)} (n : Nat) : ∀ {m_thrown : Int32} {m_rows : Nat → Int64} {m_aside : Nat → Int64} {x4 : Int32} {x5 : Int32}, f_X9_settleDays_101  n m_thrown m_now m_rows m_aside x4 x5 = some r → zZ X w (zQ X w (zr 5 155) (some (.int r.1)) false N (zu h a [(0, .inr (9, [.int r.2.1, .ref (zo w + (a + 1)), .ref (zo w + (a + 2)), .ref (zo w + (a + 3)), .int m_now, .int m_undoable, .ref (zo w + (a + 4)), .int m_bytes, .int m_errorAt, .int m_size, .int m_next, .int m_error, .int m_place, .int m_began, .int m_nested, .int m_once, .ref (zo w + (a + 5))])), (1, .inl (w.2.2.1 1, 22500, .inr (.inl r.2.2.1))), (3, .inl (w.2.2.1 1, 2500, .inr (.inl r.2.2.2)))])) 0 0 false N (zu h a [(0, .inr (9, [.int m_thrown, .ref (zo w + (a + 1)), .ref (zo w + (a + 2)), .ref (zo w + (a + 3)), .int m_now, .int m_undoable, .ref (zo w + (a + 4)), .int m_bytes, .int m_errorAt, .int m_size, .int m_next, .int m_error, .int m_place, .int m_began, .int m_nested, .int m_once, .ref (zo w + (a + 5))])), (1, .inl (w.2.2.1 1, 22500, .inr (.inl m_rows))), (3, .inl (w.2.2.1 1, 2500, .inr (.inl m_aside)))]) 101 [(0, .ref (zo w + a)), (4, .int x4), (5, .int x5)] [] := by
  induction n with
  | zero =>
    intro m_thrown m_rows m_aside x4 x5 hf
    have hf : (none : Option (Int32 × Int32 × (Nat → Int64) × (Nat → Int64))) = some r := hf
    cases hf
  | succ z ih =>
    intro m_thrown m_rows m_aside x4 x5 hf
    rw [f_X9_settleDays_101] at hf
    refine z_iload (pc' := 103) C 2 dX9_settleDays_101 rfl rfl ?_
    refine z_sipush (pc' := 106) C dX9_settleDays_103 zk_sipush_2500 rfl ?_
    refine z_icmp_ge (pc' := 109) C 128 hf dX9_settleDays_106 rfl rfl (fun g_106 hf => ?_) (fun g_106 hf => ?_)
    · refine z_iload (pc' := 130) C 1 dX9_settleDays_128 rfl rfl ?_
      cases hf
      exact z_iret C rfl rfl dX9_settleDays_130
    · refine z_aload_n (pc' := 110) C 0 dX9_settleDays_109 rfl rfl rfl ?_
      refine z_iload (pc' := 112) C 2 dX9_settleDays_110 rfl rfl ?_
      refine z_aload_n (pc' := 113) C 0 dX9_settleDays_112 rfl rfl rfl ?_
      refine z_getf (pc' := 116) C zci_9 zw_1187 (j := 3) rfl (zc_i (o := 0) n_a0 rfl) rfl rfl dX9_settleDays_113 rfl ?_
      refine z_iload (pc' := 118) C 2 dX9_settleDays_116 rfl rfl ?_
      refine z_lald (pc' := 119) C hf (zc_i (o := 3) n_a3 rfl) dX9_settleDays_118 rfl (fun v_118 hf => ?_)
      refine z_cV (pc' := 122) C hf (As := [.int x5, .long v_118]) (fun hq => c_X9_put (a := a) (zc_i (o := 0) n_a0 rfl) (zc_i (o := 1) n_a1 rfl) hq) (fun q_119 => (zu h a [(0, .inr (9, [.int m_thrown, .ref (zo w + (a + 1)), .ref (zo w + (a + 2)), .ref (zo w + (a + 3)), .int m_now, .int m_undoable, .ref (zo w + (a + 4)), .int m_bytes, .int m_errorAt, .int m_size, .int m_next, .int m_error, .int m_place, .int m_began, .int m_nested, .int m_once, .ref (zo w + (a + 5))])), (1, .inl (w.2.2.1 1, 22500, .inr (.inl q_119))), (3, .inl (w.2.2.1 1, 2500, .inr (.inl m_aside)))])) (fun q_119 => []) (fun _ => zu_sh (d := 0) rfl rfl) (fun _ => rfl) zy_X9_put zw_1353 zw_1355 zv_44 (ci := 9) rfl (zc_i (o := 0) n_a0 rfl) ⟨rfl, rfl⟩ rfl rfl rfl rfl rfl dX9_settleDays_119 rfl (fun q_119 hf => ?_)
      refine z_iinc (pc' := 125) C 2 [(5, .int (x5 + (1 : Int32))), (0, .ref (zo w + a)), (4, .int x4)] dX9_settleDays_122 rfl zk_iconst_1 rfl rfl rfl ?_
      refine z_goto C 101 dX9_settleDays_125 rfl ?_
      refine z_pick (lv' := [(0, .ref (zo w + a)), (4, .int x4), (5, .int (x5 + (1 : Int32)))]) [1, 2, 0] rfl ?_
      exact ih hf
set_option maxRecDepth 20000 in
theorem w_X9_settleDays_81 {X : zC} {w : zV} {N : Nat} {h : zH} {a : Nat} {m_next : Int32} {m_error : Int32} {m_place : Int32} {m_began : Int32} {m_nested : Int32} {m_once : Int32} {m_now : Int32} {m_undoable : Int32} {m_bytes : Int32} {m_errorAt : Int32} {m_size : Int32} (C : zK X w RX9 cX9_settleDays 6 (some .int) (zr 5 155)) (n_a0 : a + 0 < N) (n_a1 : a + 1 < N) (n_a3 : a + 3 < N) {r : Int32 × Int32 × (Nat → Int64) × (Nat → Int64)} {m_thrown : Int32} {m_rows : Nat → Int64} {m_aside : Nat → Int64} {x1 : Int32} {x3 : Int32} (hf : f_X9_settleDays_81  m_thrown m_now m_rows m_aside x1 x3 = some r) : zZ X w (zQ X w (zr 5 155) (some (.int r.1)) false N (zu h a [(0, .inr (9, [.int r.2.1, .ref (zo w + (a + 1)), .ref (zo w + (a + 2)), .ref (zo w + (a + 3)), .int m_now, .int m_undoable, .ref (zo w + (a + 4)), .int m_bytes, .int m_errorAt, .int m_size, .int m_next, .int m_error, .int m_place, .int m_began, .int m_nested, .int m_once, .ref (zo w + (a + 5))])), (1, .inl (w.2.2.1 1, 22500, .inr (.inl r.2.2.1))), (3, .inl (w.2.2.1 1, 2500, .inr (.inl r.2.2.2)))])) 0 0 false N (zu h a [(0, .inr (9, [.int m_thrown, .ref (zo w + (a + 1)), .ref (zo w + (a + 2)), .ref (zo w + (a + 3)), .int m_now, .int m_undoable, .ref (zo w + (a + 4)), .int m_bytes, .int m_errorAt, .int m_size, .int m_next, .int m_error, .int m_place, .int m_began, .int m_nested, .int m_once, .ref (zo w + (a + 5))])), (1, .inl (w.2.2.1 1, 22500, .inr (.inl m_rows))), (3, .inl (w.2.2.1 1, 2500, .inr (.inl m_aside)))]) 81 [(0, .ref (zo w + a)), (1, .int x1), (3, .int x3)] [] := by
  unfold f_X9_settleDays_81 at hf
  refine z_aload_n (pc' := 82) C 0 dX9_settleDays_81 rfl rfl rfl ?_
  refine z_iload_n (pc' := 83) C 1 dX9_settleDays_82 rfl rfl rfl ?_
  refine z_cV (pc' := 86) C hf (As := [.int x1]) (fun hq => c_X9_openOf (a := a) (zc_i (o := 0) n_a0 rfl) (zc_i (o := 1) n_a1 rfl) hq) (fun _ => (zu h a [(0, .inr (9, [.int m_thrown, .ref (zo w + (a + 1)), .ref (zo w + (a + 2)), .ref (zo w + (a + 3)), .int m_now, .int m_undoable, .ref (zo w + (a + 4)), .int m_bytes, .int m_errorAt, .int m_size, .int m_next, .int m_error, .int m_place, .int m_began, .int m_nested, .int m_once, .ref (zo w + (a + 5))])), (1, .inl (w.2.2.1 1, 22500, .inr (.inl m_rows))), (3, .inl (w.2.2.1 1, 2500, .inr (.inl m_aside)))])) (fun q_83 => [.long q_83]) (fun _ => rfl) (fun _ => rfl) zy_X9_openOf zw_1509 zw_1511 zv_63 (ci := 9) rfl (zc_i (o := 0) n_a0 rfl) ⟨rfl, rfl⟩ rfl rfl rfl rfl rfl dX9_settleDays_83 rfl (fun q_83 hf => ?_)
  refine z_lconst (pc' := 87) C dX9_settleDays_86 zl_0 rfl ?_
  refine z_lcmp_le (pc' := 91) C 95 hf dX9_settleDays_87 rfl dX9_settleDays_88 rfl rfl (fun g_87 hf => ?_) (fun g_87 hf => ?_)
  · refine z_iload_n (pc' := 96) C 2 dX9_settleDays_95 rfl rfl rfl ?_
    refine z_istore (pc' := 98) C [(4, .int x3), (0, .ref (zo w + a)), (1, .int x1), (3, .int x3)] dX9_settleDays_96 rfl rfl rfl ?_
    refine z_iconst (pc' := 99) C dX9_settleDays_98 zk_iconst_0 rfl ?_
    refine z_istore (pc' := 101) C [(5, .int (0 : Int32)), (4, .int x3), (0, .ref (zo w + a)), (1, .int x1), (3, .int x3)] dX9_settleDays_99 rfl rfl rfl ?_
    refine z_pick (lv' := [(0, .ref (zo w + a)), (4, .int x3), (5, .int (0 : Int32))]) [2, 1, 0] rfl ?_
    exact w_X9_settleDays_101 C n_a0 n_a1 n_a3  FU hf
  · refine z_iconst (pc' := 92) C dX9_settleDays_91 zk_iconst_m1 rfl ?_
    refine z_goto C 96 dX9_settleDays_92 rfl ?_
    refine z_istore (pc' := 98) C [(4, .int (-1 : Int32)), (0, .ref (zo w + a)), (1, .int x1), (3, .int x3)] dX9_settleDays_96 rfl rfl rfl ?_
    refine z_iconst (pc' := 99) C dX9_settleDays_98 zk_iconst_0 rfl ?_
    refine z_istore (pc' := 101) C [(5, .int (0 : Int32)), (4, .int (-1 : Int32)), (0, .ref (zo w + a)), (1, .int x1), (3, .int x3)] dX9_settleDays_99 rfl rfl rfl ?_
    refine z_pick (lv' := [(0, .ref (zo w + a)), (4, .int (-1 : Int32)), (5, .int (0 : Int32))]) [2, 1, 0] rfl ?_
    exact w_X9_settleDays_101 C n_a0 n_a1 n_a3  FU hf
set_option maxRecDepth 20000 in
theorem w_X9_settleDays_55 {X : zC} {w : zV} {N : Nat} {h : zH} {a : Nat} {m_next : Int32} {m_error : Int32} {m_place : Int32} {m_began : Int32} {m_nested : Int32} {m_once : Int32} {m_now : Int32} {m_undoable : Int32} {m_bytes : Int32} {m_errorAt : Int32} {m_size : Int32} (C : zK X w RX9 cX9_settleDays 6 (some .int) (zr 5 155)) (n_a0 : a + 0 < N) (n_a1 : a + 1 < N) (n_a3 : a + 3 < N) {r : Int32 × Int32 × (Nat → Int64) × (Nat → Int64)} (n : Nat) : ∀ {m_thrown : Int32} {m_rows : Nat → Int64} {m_aside : Nat → Int64} {x1 : Int32} {x2 : Int32} {x3 : Int32}, f_X9_settleDays_55  n m_thrown m_now m_rows m_aside x1 x2 x3 = some r → zZ X w (zQ X w (zr 5 155) (some (.int r.1)) false N (zu h a [(0, .inr (9, [.int r.2.1, .ref (zo w + (a + 1)), .ref (zo w + (a + 2)), .ref (zo w + (a + 3)), .int m_now, .int m_undoable, .ref (zo w + (a + 4)), .int m_bytes, .int m_errorAt, .int m_size, .int m_next, .int m_error, .int m_place, .int m_began, .int m_nested, .int m_once, .ref (zo w + (a + 5))])), (1, .inl (w.2.2.1 1, 22500, .inr (.inl r.2.2.1))), (3, .inl (w.2.2.1 1, 2500, .inr (.inl r.2.2.2)))])) 0 0 false N (zu h a [(0, .inr (9, [.int m_thrown, .ref (zo w + (a + 1)), .ref (zo w + (a + 2)), .ref (zo w + (a + 3)), .int m_now, .int m_undoable, .ref (zo w + (a + 4)), .int m_bytes, .int m_errorAt, .int m_size, .int m_next, .int m_error, .int m_place, .int m_began, .int m_nested, .int m_once, .ref (zo w + (a + 5))])), (1, .inl (w.2.2.1 1, 22500, .inr (.inl m_rows))), (3, .inl (w.2.2.1 1, 2500, .inr (.inl m_aside)))]) 55 [(0, .ref (zo w + a)), (1, .int x1), (2, .int x2), (3, .int x3)] [] := by
  induction n with
  | zero =>
    intro m_thrown m_rows m_aside x1 x2 x3 hf
    have hf : (none : Option (Int32 × Int32 × (Nat → Int64) × (Nat → Int64))) = some r := hf
    cases hf
  | succ z ih =>
    intro m_thrown m_rows m_aside x1 x2 x3 hf
    rw [f_X9_settleDays_55] at hf
    refine z_iload_n (pc' := 56) C 3 dX9_settleDays_55 rfl rfl rfl ?_
    refine z_iload_n (pc' := 57) C 2 dX9_settleDays_56 rfl rfl rfl ?_
    refine z_icmp_ge (pc' := 60) C 81 hf dX9_settleDays_57 rfl rfl (fun g_57 hf => ?_) (fun g_57 hf => ?_)
    · refine z_pick (lv' := [(0, .ref (zo w + a)), (1, .int x1), (3, .int x3)]) [0, 1, 3] rfl ?_
      exact w_X9_settleDays_81 C n_a0 n_a1 n_a3  hf
    · refine z_aload_n (pc' := 61) C 0 dX9_settleDays_60 rfl rfl rfl ?_
      refine z_iload_n (pc' := 62) C 1 dX9_settleDays_61 rfl rfl rfl ?_
      refine z_cV (pc' := 65) C hf (As := [.int x1]) (fun hq => c_X9_openOf (a := a) (zc_i (o := 0) n_a0 rfl) (zc_i (o := 1) n_a1 rfl) hq) (fun _ => (zu h a [(0, .inr (9, [.int m_thrown, .ref (zo w + (a + 1)), .ref (zo w + (a + 2)), .ref (zo w + (a + 3)), .int m_now, .int m_undoable, .ref (zo w + (a + 4)), .int m_bytes, .int m_errorAt, .int m_size, .int m_next, .int m_error, .int m_place, .int m_began, .int m_nested, .int m_once, .ref (zo w + (a + 5))])), (1, .inl (w.2.2.1 1, 22500, .inr (.inl m_rows))), (3, .inl (w.2.2.1 1, 2500, .inr (.inl m_aside)))])) (fun q_62 => [.long q_62]) (fun _ => rfl) (fun _ => rfl) zy_X9_openOf zw_1509 zw_1511 zv_63 (ci := 9) rfl (zc_i (o := 0) n_a0 rfl) ⟨rfl, rfl⟩ rfl rfl rfl rfl rfl dX9_settleDays_62 rfl (fun q_62 hf => ?_)
      refine z_lconst (pc' := 66) C dX9_settleDays_65 zl_0 rfl ?_
      refine z_lcmp_le (pc' := 70) C 81 hf dX9_settleDays_66 rfl dX9_settleDays_67 rfl rfl (fun g_66 hf => ?_) (fun g_66 hf => ?_)
      · refine z_pick (lv' := [(0, .ref (zo w + a)), (1, .int x1), (3, .int x3)]) [0, 1, 3] rfl ?_
        exact w_X9_settleDays_81 C n_a0 n_a1 n_a3  hf
      · refine z_aload_n (pc' := 71) C 0 dX9_settleDays_70 rfl rfl rfl ?_
        refine z_cV (pc' := 74) C hf (As := []) (fun hq => c_X9_settles (a := a) (zc_i (o := 0) n_a0 rfl) (zc_i (o := 1) n_a1 rfl) hq) (fun q_71 => (zu h a [(0, .inr (9, [.int m_thrown, .ref (zo w + (a + 1)), .ref (zo w + (a + 2)), .ref (zo w + (a + 3)), .int m_now, .int m_undoable, .ref (zo w + (a + 4)), .int m_bytes, .int m_errorAt, .int m_size, .int m_next, .int m_error, .int m_place, .int m_began, .int m_nested, .int m_once, .ref (zo w + (a + 5))])), (1, .inl (w.2.2.1 1, 22500, .inr (.inl q_71.2))), (3, .inl (w.2.2.1 1, 2500, .inr (.inl m_aside)))])) (fun q_71 => [.long q_71.1]) (fun _ => zu_sh (d := 0) rfl rfl) (fun _ => rfl) zy_X9_settles zw_1558 zw_1560 zv_66 (ci := 9) rfl (zc_i (o := 0) n_a0 rfl) ⟨rfl, rfl⟩ rfl rfl rfl rfl rfl dX9_settleDays_71 rfl (fun q_71 hf => ?_)
        refine z_pop2 (pc' := 75) C dX9_settleDays_74 rfl rfl ?_
        refine z_iinc (pc' := 78) C 3 [(3, .int (x3 + (1 : Int32))), (0, .ref (zo w + a)), (1, .int x1), (2, .int x2)] dX9_settleDays_75 rfl zk_iconst_1 rfl rfl rfl ?_
        refine z_goto C 55 dX9_settleDays_78 rfl ?_
        refine z_pick (lv' := [(0, .ref (zo w + a)), (1, .int x1), (2, .int x2), (3, .int (x3 + (1 : Int32)))]) [1, 2, 3, 0] rfl ?_
        exact ih hf
set_option maxRecDepth 20000 in
theorem w_X9_settleDays_29 {X : zC} {w : zV} {N : Nat} {h : zH} {a : Nat} {m_next : Int32} {m_error : Int32} {m_place : Int32} {m_began : Int32} {m_nested : Int32} {m_once : Int32} {m_now : Int32} {m_undoable : Int32} {m_bytes : Int32} {m_errorAt : Int32} {m_size : Int32} (C : zK X w RX9 cX9_settleDays 6 (some .int) (zr 5 155)) (n_a0 : a + 0 < N) (n_a1 : a + 1 < N) (n_a3 : a + 3 < N) {r : Int32 × Int32 × (Nat → Int64) × (Nat → Int64)} (n : Nat) : ∀ {m_thrown : Int32} {m_rows : Nat → Int64} {m_aside : Nat → Int64} {x1 : Int32} {x2 : Int32} {x3 : Int32}, f_X9_settleDays_29  n m_thrown m_now m_rows m_aside x1 x2 x3 = some r → zZ X w (zQ X w (zr 5 155) (some (.int r.1)) false N (zu h a [(0, .inr (9, [.int r.2.1, .ref (zo w + (a + 1)), .ref (zo w + (a + 2)), .ref (zo w + (a + 3)), .int m_now, .int m_undoable, .ref (zo w + (a + 4)), .int m_bytes, .int m_errorAt, .int m_size, .int m_next, .int m_error, .int m_place, .int m_began, .int m_nested, .int m_once, .ref (zo w + (a + 5))])), (1, .inl (w.2.2.1 1, 22500, .inr (.inl r.2.2.1))), (3, .inl (w.2.2.1 1, 2500, .inr (.inl r.2.2.2)))])) 0 0 false N (zu h a [(0, .inr (9, [.int m_thrown, .ref (zo w + (a + 1)), .ref (zo w + (a + 2)), .ref (zo w + (a + 3)), .int m_now, .int m_undoable, .ref (zo w + (a + 4)), .int m_bytes, .int m_errorAt, .int m_size, .int m_next, .int m_error, .int m_place, .int m_began, .int m_nested, .int m_once, .ref (zo w + (a + 5))])), (1, .inl (w.2.2.1 1, 22500, .inr (.inl m_rows))), (3, .inl (w.2.2.1 1, 2500, .inr (.inl m_aside)))]) 29 [(0, .ref (zo w + a)), (1, .int x1), (2, .int x2), (3, .int x3)] [] := by
  induction n with
  | zero =>
    intro m_thrown m_rows m_aside x1 x2 x3 hf
    have hf : (none : Option (Int32 × Int32 × (Nat → Int64) × (Nat → Int64))) = some r := hf
    cases hf
  | succ z ih =>
    intro m_thrown m_rows m_aside x1 x2 x3 hf
    rw [f_X9_settleDays_29] at hf
    refine z_iload_n (pc' := 30) C 3 dX9_settleDays_29 rfl rfl rfl ?_
    refine z_sipush (pc' := 33) C dX9_settleDays_30 zk_sipush_2500 rfl ?_
    refine z_icmp_ge (pc' := 36) C 53 hf dX9_settleDays_33 rfl rfl (fun g_33 hf => ?_) (fun g_33 hf => ?_)
    · refine z_iconst (pc' := 54) C dX9_settleDays_53 zk_iconst_0 rfl ?_
      refine z_istore_n (pc' := 55) C [(3, .int (0 : Int32)), (0, .ref (zo w + a)), (1, .int x1), (2, .int x2)] dX9_settleDays_54 rfl rfl rfl rfl ?_
      refine z_pick (lv' := [(0, .ref (zo w + a)), (1, .int x1), (2, .int x2), (3, .int (0 : Int32))]) [1, 2, 3, 0] rfl ?_
      exact w_X9_settleDays_55 C n_a0 n_a1 n_a3  FU hf
    · refine z_aload_n (pc' := 37) C 0 dX9_settleDays_36 rfl rfl rfl ?_
      refine z_getf (pc' := 40) C zci_9 zw_1187 (j := 3) rfl (zc_i (o := 0) n_a0 rfl) rfl rfl dX9_settleDays_37 rfl ?_
      refine z_iload_n (pc' := 41) C 3 dX9_settleDays_40 rfl rfl rfl ?_
      refine z_aload_n (pc' := 42) C 0 dX9_settleDays_41 rfl rfl rfl ?_
      refine z_iload_n (pc' := 43) C 3 dX9_settleDays_42 rfl rfl rfl ?_
      refine z_cV (pc' := 46) C hf (As := [.int x3]) (fun hq => c_X9_get (a := a) (zc_i (o := 0) n_a0 rfl) (zc_i (o := 1) n_a1 rfl) hq) (fun _ => (zu h a [(0, .inr (9, [.int m_thrown, .ref (zo w + (a + 1)), .ref (zo w + (a + 2)), .ref (zo w + (a + 3)), .int m_now, .int m_undoable, .ref (zo w + (a + 4)), .int m_bytes, .int m_errorAt, .int m_size, .int m_next, .int m_error, .int m_place, .int m_began, .int m_nested, .int m_once, .ref (zo w + (a + 5))])), (1, .inl (w.2.2.1 1, 22500, .inr (.inl m_rows))), (3, .inl (w.2.2.1 1, 2500, .inr (.inl m_aside)))])) (fun q_43 => [.long q_43, .int x3, .ref (zo w + (a + 3))]) (fun _ => rfl) (fun _ => rfl) zy_X9_get zw_1349 zw_1351 zv_43 (ci := 9) rfl (zc_i (o := 0) n_a0 rfl) ⟨rfl, rfl⟩ rfl rfl rfl rfl rfl dX9_settleDays_43 rfl (fun q_43 hf => ?_)
      refine z_last (pc' := 47) C hf (zc_i (o := 3) n_a3 rfl) (h' := fun v_46 => (zu h a [(0, .inr (9, [.int m_thrown, .ref (zo w + (a + 1)), .ref (zo w + (a + 2)), .ref (zo w + (a + 3)), .int m_now, .int m_undoable, .ref (zo w + (a + 4)), .int m_bytes, .int m_errorAt, .int m_size, .int m_next, .int m_error, .int m_place, .int m_began, .int m_nested, .int m_once, .ref (zo w + (a + 5))])), (1, .inl (w.2.2.1 1, 22500, .inr (.inl m_rows))), (3, .inl (w.2.2.1 1, 2500, .inr (.inl v_46)))])) (fun _ => zu_put (o := 3) rfl) dX9_settleDays_46 rfl (fun v_46 hf => ?_)
      refine z_iinc (pc' := 50) C 3 [(3, .int (x3 + (1 : Int32))), (0, .ref (zo w + a)), (1, .int x1), (2, .int x2)] dX9_settleDays_47 rfl zk_iconst_1 rfl rfl rfl ?_
      refine z_goto C 29 dX9_settleDays_50 rfl ?_
      refine z_pick (lv' := [(0, .ref (zo w + a)), (1, .int x1), (2, .int x2), (3, .int (x3 + (1 : Int32)))]) [1, 2, 3, 0] rfl ?_
      exact ih hf
set_option maxRecDepth 20000 in
theorem c_X9_settleDays {w : zV} {N : Nat} {h : zH} {a : Nat} {m_thrown : Int32} {m_next : Int32} {m_error : Int32} {m_place : Int32} {m_began : Int32} {m_nested : Int32} {m_once : Int32} {m_now : Int32} {m_undoable : Int32} {m_bytes : Int32} {m_errorAt : Int32} {m_size : Int32} {m_rows : Nat → Int64} {m_aside : Nat → Int64} {p1 : Int32} {p2 : Int32} (h_a0 : zc N h (a + 0) (.inr (9, [.int m_thrown, .ref (zo w + (a + 1)), .ref (zo w + (a + 2)), .ref (zo w + (a + 3)), .int m_now, .int m_undoable, .ref (zo w + (a + 4)), .int m_bytes, .int m_errorAt, .int m_size, .int m_next, .int m_error, .int m_place, .int m_began, .int m_nested, .int m_once, .ref (zo w + (a + 5))]))) (h_a1 : zc N h (a + 1) (.inl (w.2.2.1 1, 22500, .inr (.inl m_rows)))) (h_a3 : zc N h (a + 3) (.inl (w.2.2.1 1, 2500, .inr (.inl m_aside)))) {r : Int32 × Int32 × (Nat → Int64) × (Nat → Int64)} (hf : f_X9_settleDays m_thrown m_now m_rows m_aside p1 p2 = some r) : zM w yX9_settleDays cX9_settleDays 6 (some .int) (zr 5 155) false N N h [.ref (zo w + a), .int p1, .int p2] (some (.int r.1)) (zu h a [(0, .inr (9, [.int r.2.1, .ref (zo w + (a + 1)), .ref (zo w + (a + 2)), .ref (zo w + (a + 3)), .int m_now, .int m_undoable, .ref (zo w + (a + 4)), .int m_bytes, .int m_errorAt, .int m_size, .int m_next, .int m_error, .int m_place, .int m_began, .int m_nested, .int m_once, .ref (zo w + (a + 5))])), (1, .inl (w.2.2.1 1, 22500, .inr (.inl r.2.2.1))), (3, .inl (w.2.2.1 1, 2500, .inr (.inl r.2.2.2)))]) := by
  unfold f_X9_settleDays at hf
  refine zM_of (by decide) rfl (fun X C _ => ?_)
  refine z_eq (h' := (zu h a [(0, .inr (9, [.int m_thrown, .ref (zo w + (a + 1)), .ref (zo w + (a + 2)), .ref (zo w + (a + 3)), .int m_now, .int m_undoable, .ref (zo w + (a + 4)), .int m_bytes, .int m_errorAt, .int m_size, .int m_next, .int m_error, .int m_place, .int m_began, .int m_nested, .int m_once, .ref (zo w + (a + 5))])), (1, .inl (w.2.2.1 1, 22500, .inr (.inl m_rows))), (3, .inl (w.2.2.1 1, 2500, .inr (.inl m_aside)))])) (zu_s h_a0 (zu_s h_a1 (zu_s h_a3 zu_0))).symm ?_
  have n_a0 := h_a0.1
  have n_a1 := h_a1.1
  have n_a3 := h_a3.1
  refine z_pick (lv' := [(0, .ref (zo w + a)), (1, .int p1), (2, .int p2)]) [0, 1, 2] rfl ?_
  refine z_aload_n (pc' := 1) C 0 dX9_settleDays_0 rfl rfl rfl ?_
  refine z_iload_n (pc' := 2) C 1 dX9_settleDays_1 rfl rfl rfl ?_
  refine z_cV (pc' := 5) C hf (As := [.int p1]) (fun hq => c_X9_isBill (a := a) (zc_i (o := 0) n_a0 rfl) (zc_i (o := 1) n_a1 rfl) hq) (fun q_2 => (zu h a [(0, .inr (9, [.int q_2.2, .ref (zo w + (a + 1)), .ref (zo w + (a + 2)), .ref (zo w + (a + 3)), .int m_now, .int m_undoable, .ref (zo w + (a + 4)), .int m_bytes, .int m_errorAt, .int m_size, .int m_next, .int m_error, .int m_place, .int m_began, .int m_nested, .int m_once, .ref (zo w + (a + 5))])), (1, .inl (w.2.2.1 1, 22500, .inr (.inl m_rows))), (3, .inl (w.2.2.1 1, 2500, .inr (.inl m_aside)))])) (fun q_2 => [.int q_2.1]) (fun _ => zu_sh (d := 0) rfl rfl) (fun _ => rfl) zy_X9_isBill zw_1525 zw_1527 zv_64 (ci := 9) rfl (zc_i (o := 0) n_a0 rfl) ⟨rfl, rfl⟩ rfl rfl rfl rfl rfl dX9_settleDays_2 rfl (fun q_2 hf => ?_)
  refine z_if_eq (pc' := 8) C 25 hf dX9_settleDays_5 rfl rfl (fun g_5 hf => ?_) (fun g_5 hf => ?_)
  · refine z_iconst (pc' := 26) C dX9_settleDays_25 zk_iconst_0 rfl ?_
    cases hf
    exact z_iret C rfl rfl dX9_settleDays_26
  · refine z_aload_n (pc' := 9) C 0 dX9_settleDays_8 rfl rfl rfl ?_
    refine z_iload_n (pc' := 10) C 2 dX9_settleDays_9 rfl rfl rfl ?_
    refine z_i2l (pc' := 11) C dX9_settleDays_10 rfl ?_
    refine z_lconst (pc' := 12) C dX9_settleDays_11 zl_0 rfl ?_
    refine z_ldc2 (pc' := 15) C zw_1557 dX9_settleDays_12 rfl ?_
    refine z_cS (pc' := 18) C hf (As := [.long (p2).toInt64, .long (0 : Int64), .long (200 : Int64)]) (fun hq => c_X9_isIn  hq) (fun _ => (zu h a [(0, .inr (9, [.int q_2.2, .ref (zo w + (a + 1)), .ref (zo w + (a + 2)), .ref (zo w + (a + 3)), .int m_now, .int m_undoable, .ref (zo w + (a + 4)), .int m_bytes, .int m_errorAt, .int m_size, .int m_next, .int m_error, .int m_place, .int m_began, .int m_nested, .int m_once, .ref (zo w + (a + 5))])), (1, .inl (w.2.2.1 1, 22500, .inr (.inl m_rows))), (3, .inl (w.2.2.1 1, 2500, .inr (.inl m_aside)))])) (fun q_15 => [.int q_15, .ref (zo w + a)]) (fun _ => rfl) (fun _ => rfl) zy_X9_isIn zw_1248 zw_1249 ⟨rfl, rfl⟩ rfl rfl rfl rfl rfl dX9_settleDays_15 rfl (fun q_15 hf => ?_)
    refine z_iconst (pc' := 19) C dX9_settleDays_18 zk_iconst_2 rfl ?_
    refine z_cV (pc' := 22) C hf (As := [.int q_15, .int (2 : Int32)]) (fun hq => c_X9_right (a := a) (zc_i (o := 0) n_a0 rfl) hq) (fun q_19 => (zu h a [(0, .inr (9, [.int q_19.2, .ref (zo w + (a + 1)), .ref (zo w + (a + 2)), .ref (zo w + (a + 3)), .int m_now, .int m_undoable, .ref (zo w + (a + 4)), .int m_bytes, .int m_errorAt, .int m_size, .int m_next, .int m_error, .int m_place, .int m_began, .int m_nested, .int m_once, .ref (zo w + (a + 5))])), (1, .inl (w.2.2.1 1, 22500, .inr (.inl m_rows))), (3, .inl (w.2.2.1 1, 2500, .inr (.inl m_aside)))])) (fun q_19 => [.int q_19.1]) (fun _ => zu_sh (d := 0) rfl rfl) (fun _ => rfl) zy_X9_right zw_1251 zw_1253 zv_23 (ci := 9) rfl (zc_i (o := 0) n_a0 rfl) ⟨rfl, rfl⟩ rfl rfl rfl rfl rfl dX9_settleDays_19 rfl (fun q_19 hf => ?_)
    refine z_if_ne (pc' := 25) C 27 hf dX9_settleDays_22 rfl rfl (fun g_22 hf => ?_) (fun g_22 hf => ?_)
    · refine z_iconst (pc' := 28) C dX9_settleDays_27 zk_iconst_0 rfl ?_
      refine z_istore_n (pc' := 29) C [(3, .int (0 : Int32)), (0, .ref (zo w + a)), (1, .int p1), (2, .int p2)] dX9_settleDays_28 rfl rfl rfl rfl ?_
      refine z_pick (lv' := [(0, .ref (zo w + a)), (1, .int p1), (2, .int p2), (3, .int (0 : Int32))]) [1, 2, 3, 0] rfl ?_
      exact w_X9_settleDays_29 C n_a0 n_a1 n_a3  FU hf
    · refine z_iconst (pc' := 26) C dX9_settleDays_25 zk_iconst_0 rfl ?_
      cases hf
      exact z_iret C rfl rfl dX9_settleDays_26
set_option maxRecDepth 20000 in
theorem c_X9_variationCount {w : zV} {N : Nat} {h : zH} {a : Nat} {m_thrown : Int32} {m_next : Int32} {m_error : Int32} {m_place : Int32} {m_began : Int32} {m_nested : Int32} {m_once : Int32} {m_now : Int32} {m_undoable : Int32} {m_bytes : Int32} {m_errorAt : Int32} {m_size : Int32} {m_rows : Nat → Int64} (h_a0 : zc N h (a + 0) (.inr (9, [.int m_thrown, .ref (zo w + (a + 1)), .ref (zo w + (a + 2)), .ref (zo w + (a + 3)), .int m_now, .int m_undoable, .ref (zo w + (a + 4)), .int m_bytes, .int m_errorAt, .int m_size, .int m_next, .int m_error, .int m_place, .int m_began, .int m_nested, .int m_once, .ref (zo w + (a + 5))]))) (h_a1 : zc N h (a + 1) (.inl (w.2.2.1 1, 22500, .inr (.inl m_rows)))) {r : Int32 × Int32} (hf : f_X9_variationCount m_thrown m_now m_rows = some r) : zM w yX9_variationCount cX9_variationCount 1 (some .int) (zr 2 58) false N N h [.ref (zo w + a)] (some (.int r.1)) (zu h a [(0, .inr (9, [.int r.2, .ref (zo w + (a + 1)), .ref (zo w + (a + 2)), .ref (zo w + (a + 3)), .int m_now, .int m_undoable, .ref (zo w + (a + 4)), .int m_bytes, .int m_errorAt, .int m_size, .int m_next, .int m_error, .int m_place, .int m_began, .int m_nested, .int m_once, .ref (zo w + (a + 5))]))]) := by
  unfold f_X9_variationCount at hf
  refine zM_of (by decide) rfl (fun X C _ => ?_)
  refine z_eq (h' := (zu h a [(0, .inr (9, [.int m_thrown, .ref (zo w + (a + 1)), .ref (zo w + (a + 2)), .ref (zo w + (a + 3)), .int m_now, .int m_undoable, .ref (zo w + (a + 4)), .int m_bytes, .int m_errorAt, .int m_size, .int m_next, .int m_error, .int m_place, .int m_began, .int m_nested, .int m_once, .ref (zo w + (a + 5))]))])) (zu_s h_a0 zu_0).symm ?_
  have n_a0 := h_a0.1
  refine z_pick (lv' := [(0, .ref (zo w + a))]) [0] rfl ?_
  refine z_aload_n (pc' := 1) C 0 dX9_variationCount_0 rfl rfl rfl ?_
  refine z_iconst (pc' := 2) C dX9_variationCount_1 zk_iconst_0 rfl ?_
  refine z_putf (pc' := 5) C zci_9 zw_1184 (j := 0) rfl (zc_i (o := 0) n_a0 rfl) (fs' := [.int (0 : Int32), .ref (zo w + (a + 1)), .ref (zo w + (a + 2)), .ref (zo w + (a + 3)), .int m_now, .int m_undoable, .ref (zo w + (a + 4)), .int m_bytes, .int m_errorAt, .int m_size, .int m_next, .int m_error, .int m_place, .int m_began, .int m_nested, .int m_once, .ref (zo w + (a + 5))]) rfl rfl rfl rfl rfl (zu_put (o := 0) (L' := [(0, .inr (9, [.int (0 : Int32), .ref (zo w + (a + 1)), .ref (zo w + (a + 2)), .ref (zo w + (a + 3)), .int m_now, .int m_undoable, .ref (zo w + (a + 4)), .int m_bytes, .int m_errorAt, .int m_size, .int m_next, .int m_error, .int m_place, .int m_began, .int m_nested, .int m_once, .ref (zo w + (a + 5))]))]) rfl) dX9_variationCount_2 rfl ?_
  refine z_aload_n (pc' := 6) C 0 dX9_variationCount_5 rfl rfl rfl ?_
  refine z_iconst (pc' := 7) C dX9_variationCount_6 zk_iconst_4 rfl ?_
  refine z_cV (pc' := 10) C hf (As := [.int (4 : Int32)]) (fun hq => c_X9_small (a := a) (zc_i (o := 0) n_a0 rfl) (zc_o (o := 1) h_a1 rfl) hq) (fun _ => (zu h a [(0, .inr (9, [.int (0 : Int32), .ref (zo w + (a + 1)), .ref (zo w + (a + 2)), .ref (zo w + (a + 3)), .int m_now, .int m_undoable, .ref (zo w + (a + 4)), .int m_bytes, .int m_errorAt, .int m_size, .int m_next, .int m_error, .int m_place, .int m_began, .int m_nested, .int m_once, .ref (zo w + (a + 5))]))])) (fun q_7 => [.int q_7]) (fun _ => rfl) (fun _ => rfl) zy_X9_small zw_1357 zw_1359 zv_45 (ci := 9) rfl (zc_i (o := 0) n_a0 rfl) ⟨rfl, rfl⟩ rfl rfl rfl rfl rfl dX9_variationCount_7 rfl (fun q_7 hf => ?_)
  cases hf
  exact z_iret C rfl rfl dX9_variationCount_10
set_option maxRecDepth 20000 in
theorem c_X9_isVariation {w : zV} {N : Nat} {h : zH} {a : Nat} {m_thrown : Int32} {m_next : Int32} {m_error : Int32} {m_place : Int32} {m_began : Int32} {m_nested : Int32} {m_once : Int32} {m_now : Int32} {m_undoable : Int32} {m_bytes : Int32} {m_errorAt : Int32} {m_size : Int32} {m_rows : Nat → Int64} {p1 : Int32} (h_a0 : zc N h (a + 0) (.inr (9, [.int m_thrown, .ref (zo w + (a + 1)), .ref (zo w + (a + 2)), .ref (zo w + (a + 3)), .int m_now, .int m_undoable, .ref (zo w + (a + 4)), .int m_bytes, .int m_errorAt, .int m_size, .int m_next, .int m_error, .int m_place, .int m_began, .int m_nested, .int m_once, .ref (zo w + (a + 5))]))) (h_a1 : zc N h (a + 1) (.inl (w.2.2.1 1, 22500, .inr (.inl m_rows)))) {r : Int32 × Int32} (hf : f_X9_isVariation m_thrown m_now m_rows p1 = some r) : zM w yX9_isVariation cX9_isVariation 2 (some .boolean) (zr 1 33) false N N h [.ref (zo w + a), .int p1] (some (.int r.1)) (zu h a [(0, .inr (9, [.int r.2, .ref (zo w + (a + 1)), .ref (zo w + (a + 2)), .ref (zo w + (a + 3)), .int m_now, .int m_undoable, .ref (zo w + (a + 4)), .int m_bytes, .int m_errorAt, .int m_size, .int m_next, .int m_error, .int m_place, .int m_began, .int m_nested, .int m_once, .ref (zo w + (a + 5))]))]) := by
  unfold f_X9_isVariation at hf
  refine zM_of (by decide) rfl (fun X C _ => ?_)
  refine z_eq (h' := (zu h a [(0, .inr (9, [.int m_thrown, .ref (zo w + (a + 1)), .ref (zo w + (a + 2)), .ref (zo w + (a + 3)), .int m_now, .int m_undoable, .ref (zo w + (a + 4)), .int m_bytes, .int m_errorAt, .int m_size, .int m_next, .int m_error, .int m_place, .int m_began, .int m_nested, .int m_once, .ref (zo w + (a + 5))]))])) (zu_s h_a0 zu_0).symm ?_
  have n_a0 := h_a0.1
  refine z_pick (lv' := [(0, .ref (zo w + a)), (1, .int p1)]) [0, 1] rfl ?_
  refine z_aload_n (pc' := 1) C 0 dX9_isVariation_0 rfl rfl rfl ?_
  refine z_iconst (pc' := 2) C dX9_isVariation_1 zk_iconst_0 rfl ?_
  refine z_putf (pc' := 5) C zci_9 zw_1184 (j := 0) rfl (zc_i (o := 0) n_a0 rfl) (fs' := [.int (0 : Int32), .ref (zo w + (a + 1)), .ref (zo w + (a + 2)), .ref (zo w + (a + 3)), .int m_now, .int m_undoable, .ref (zo w + (a + 4)), .int m_bytes, .int m_errorAt, .int m_size, .int m_next, .int m_error, .int m_place, .int m_began, .int m_nested, .int m_once, .ref (zo w + (a + 5))]) rfl rfl rfl rfl rfl (zu_put (o := 0) (L' := [(0, .inr (9, [.int (0 : Int32), .ref (zo w + (a + 1)), .ref (zo w + (a + 2)), .ref (zo w + (a + 3)), .int m_now, .int m_undoable, .ref (zo w + (a + 4)), .int m_bytes, .int m_errorAt, .int m_size, .int m_next, .int m_error, .int m_place, .int m_began, .int m_nested, .int m_once, .ref (zo w + (a + 5))]))]) rfl) dX9_isVariation_2 rfl ?_
  refine z_aload_n (pc' := 6) C 0 dX9_isVariation_5 rfl rfl rfl ?_
  refine z_iload_n (pc' := 7) C 1 dX9_isVariation_6 rfl rfl rfl ?_
  refine z_i2l (pc' := 8) C dX9_isVariation_7 rfl ?_
  refine z_lconst (pc' := 9) C dX9_isVariation_8 zl_0 rfl ?_
  refine z_aload_n (pc' := 10) C 0 dX9_isVariation_9 rfl rfl rfl ?_
  refine z_iconst (pc' := 11) C dX9_isVariation_10 zk_iconst_4 rfl ?_
  refine z_cV (pc' := 14) C hf (As := [.int (4 : Int32)]) (fun hq => c_X9_get (a := a) (zc_i (o := 0) n_a0 rfl) (zc_o (o := 1) h_a1 rfl) hq) (fun _ => (zu h a [(0, .inr (9, [.int (0 : Int32), .ref (zo w + (a + 1)), .ref (zo w + (a + 2)), .ref (zo w + (a + 3)), .int m_now, .int m_undoable, .ref (zo w + (a + 4)), .int m_bytes, .int m_errorAt, .int m_size, .int m_next, .int m_error, .int m_place, .int m_began, .int m_nested, .int m_once, .ref (zo w + (a + 5))]))])) (fun q_11 => [.long q_11, .long (0 : Int64), .long (p1).toInt64, .ref (zo w + a)]) (fun _ => rfl) (fun _ => rfl) zy_X9_get zw_1349 zw_1351 zv_43 (ci := 9) rfl (zc_i (o := 0) n_a0 rfl) ⟨rfl, rfl⟩ rfl rfl rfl rfl rfl dX9_isVariation_11 rfl (fun q_11 hf => ?_)
  refine z_lconst (pc' := 15) C dX9_isVariation_14 zl_1 rfl ?_
  refine z_lsub (pc' := 16) C dX9_isVariation_15 rfl ?_
  refine z_cS (pc' := 19) C hf (As := [.long (p1).toInt64, .long (0 : Int64), .long (q_11 - (1 : Int64))]) (fun hq => c_X9_isIn  hq) (fun _ => (zu h a [(0, .inr (9, [.int (0 : Int32), .ref (zo w + (a + 1)), .ref (zo w + (a + 2)), .ref (zo w + (a + 3)), .int m_now, .int m_undoable, .ref (zo w + (a + 4)), .int m_bytes, .int m_errorAt, .int m_size, .int m_next, .int m_error, .int m_place, .int m_began, .int m_nested, .int m_once, .ref (zo w + (a + 5))]))])) (fun q_16 => [.int q_16, .ref (zo w + a)]) (fun _ => rfl) (fun _ => rfl) zy_X9_isIn zw_1248 zw_1249 ⟨rfl, rfl⟩ rfl rfl rfl rfl rfl dX9_isVariation_16 rfl (fun q_16 hf => ?_)
  refine z_iconst (pc' := 20) C dX9_isVariation_19 zk_iconst_1 rfl ?_
  refine z_cV (pc' := 23) C hf (As := [.int q_16, .int (1 : Int32)]) (fun hq => c_X9_right (a := a) (zc_i (o := 0) n_a0 rfl) hq) (fun q_20 => (zu h a [(0, .inr (9, [.int q_20.2, .ref (zo w + (a + 1)), .ref (zo w + (a + 2)), .ref (zo w + (a + 3)), .int m_now, .int m_undoable, .ref (zo w + (a + 4)), .int m_bytes, .int m_errorAt, .int m_size, .int m_next, .int m_error, .int m_place, .int m_began, .int m_nested, .int m_once, .ref (zo w + (a + 5))]))])) (fun q_20 => [.int q_20.1]) (fun _ => zu_sh (d := 0) rfl rfl) (fun _ => rfl) zy_X9_right zw_1251 zw_1253 zv_23 (ci := 9) rfl (zc_i (o := 0) n_a0 rfl) ⟨rfl, rfl⟩ rfl rfl rfl rfl rfl dX9_isVariation_20 rfl (fun q_20 hf => ?_)
  obtain ⟨g_23, hf⟩ := zG1_s hf
  cases hf
  exact z_zret C g_23 rfl rfl dX9_isVariation_23
set_option maxRecDepth 20000 in
theorem c_X9_isApproved {w : zV} {N : Nat} {h : zH} {a : Nat} {m_thrown : Int32} {m_next : Int32} {m_error : Int32} {m_place : Int32} {m_began : Int32} {m_nested : Int32} {m_once : Int32} {m_now : Int32} {m_undoable : Int32} {m_bytes : Int32} {m_errorAt : Int32} {m_size : Int32} {m_rows : Nat → Int64} {p1 : Int32} (h_a0 : zc N h (a + 0) (.inr (9, [.int m_thrown, .ref (zo w + (a + 1)), .ref (zo w + (a + 2)), .ref (zo w + (a + 3)), .int m_now, .int m_undoable, .ref (zo w + (a + 4)), .int m_bytes, .int m_errorAt, .int m_size, .int m_next, .int m_error, .int m_place, .int m_began, .int m_nested, .int m_once, .ref (zo w + (a + 5))]))) (h_a1 : zc N h (a + 1) (.inl (w.2.2.1 1, 22500, .inr (.inl m_rows)))) {r : Int32 × Int32} (hf : f_X9_isApproved m_thrown m_now m_rows p1 = some r) : zM w yX9_isApproved cX9_isApproved 2 (some .boolean) (zr 2 62) false N N h [.ref (zo w + a), .int p1] (some (.int r.1)) (zu h a [(0, .inr (9, [.int r.2, .ref (zo w + (a + 1)), .ref (zo w + (a + 2)), .ref (zo w + (a + 3)), .int m_now, .int m_undoable, .ref (zo w + (a + 4)), .int m_bytes, .int m_errorAt, .int m_size, .int m_next, .int m_error, .int m_place, .int m_began, .int m_nested, .int m_once, .ref (zo w + (a + 5))]))]) := by
  unfold f_X9_isApproved at hf
  refine zM_of (by decide) rfl (fun X C _ => ?_)
  refine z_eq (h' := (zu h a [(0, .inr (9, [.int m_thrown, .ref (zo w + (a + 1)), .ref (zo w + (a + 2)), .ref (zo w + (a + 3)), .int m_now, .int m_undoable, .ref (zo w + (a + 4)), .int m_bytes, .int m_errorAt, .int m_size, .int m_next, .int m_error, .int m_place, .int m_began, .int m_nested, .int m_once, .ref (zo w + (a + 5))]))])) (zu_s h_a0 zu_0).symm ?_
  have n_a0 := h_a0.1
  refine z_pick (lv' := [(0, .ref (zo w + a)), (1, .int p1)]) [0, 1] rfl ?_
  refine z_aload_n (pc' := 1) C 0 dX9_isApproved_0 rfl rfl rfl ?_
  refine z_iload_n (pc' := 2) C 1 dX9_isApproved_1 rfl rfl rfl ?_
  refine z_cV (pc' := 5) C hf (As := [.int p1]) (fun hq => c_X9_isVariation (a := a) (zc_i (o := 0) n_a0 rfl) (zc_o (o := 1) h_a1 rfl) hq) (fun q_2 => (zu h a [(0, .inr (9, [.int q_2.2, .ref (zo w + (a + 1)), .ref (zo w + (a + 2)), .ref (zo w + (a + 3)), .int m_now, .int m_undoable, .ref (zo w + (a + 4)), .int m_bytes, .int m_errorAt, .int m_size, .int m_next, .int m_error, .int m_place, .int m_began, .int m_nested, .int m_once, .ref (zo w + (a + 5))]))])) (fun q_2 => [.int q_2.1]) (fun _ => zu_sh (d := 0) rfl rfl) (fun _ => rfl) zy_X9_isVariation zw_1582 zw_1584 zv_70 (ci := 9) rfl (zc_i (o := 0) n_a0 rfl) ⟨rfl, rfl⟩ rfl rfl rfl rfl rfl dX9_isApproved_2 rfl (fun q_2 hf => ?_)
  refine z_if_eq (pc' := 8) C 30 hf dX9_isApproved_5 rfl rfl (fun g_5 hf => ?_) (fun g_5 hf => ?_)
  · refine z_iconst (pc' := 31) C dX9_isApproved_30 zk_iconst_0 rfl ?_
    cases hf
    exact z_zret C zb_0 rfl rfl dX9_isApproved_31
  · refine z_aload_n (pc' := 9) C 0 dX9_isApproved_8 rfl rfl rfl ?_
    refine z_sipush (pc' := 12) C dX9_isApproved_9 zk_sipush_230 rfl ?_
    refine z_iconst (pc' := 13) C dX9_isApproved_12 zk_iconst_4 rfl ?_
    refine z_iload_n (pc' := 14) C 1 dX9_isApproved_13 rfl rfl rfl ?_
    refine z_imul (pc' := 15) C dX9_isApproved_14 rfl ?_
    refine z_iadd (pc' := 16) C dX9_isApproved_15 rfl ?_
    refine z_iconst (pc' := 17) C dX9_isApproved_16 zk_iconst_3 rfl ?_
    refine z_iadd (pc' := 18) C dX9_isApproved_17 rfl ?_
    refine z_cV (pc' := 21) C hf (As := [.int (((230 : Int32) + ((4 : Int32) * p1)) + (3 : Int32))]) (fun hq => c_X9_get (a := a) (zc_i (o := 0) n_a0 rfl) (zc_o (o := 1) h_a1 rfl) hq) (fun _ => (zu h a [(0, .inr (9, [.int q_2.2, .ref (zo w + (a + 1)), .ref (zo w + (a + 2)), .ref (zo w + (a + 3)), .int m_now, .int m_undoable, .ref (zo w + (a + 4)), .int m_bytes, .int m_errorAt, .int m_size, .int m_next, .int m_error, .int m_place, .int m_began, .int m_nested, .int m_once, .ref (zo w + (a + 5))]))])) (fun q_18 => [.long q_18]) (fun _ => rfl) (fun _ => rfl) zy_X9_get zw_1349 zw_1351 zv_43 (ci := 9) rfl (zc_i (o := 0) n_a0 rfl) ⟨rfl, rfl⟩ rfl rfl rfl rfl rfl dX9_isApproved_18 rfl (fun q_18 hf => ?_)
    refine z_lconst (pc' := 22) C dX9_isApproved_21 zl_1 rfl ?_
    refine z_lcmp_ne (pc' := 26) C 30 hf dX9_isApproved_22 rfl dX9_isApproved_23 rfl rfl (fun g_22 hf => ?_) (fun g_22 hf => ?_)
    · refine z_iconst (pc' := 31) C dX9_isApproved_30 zk_iconst_0 rfl ?_
      cases hf
      exact z_zret C zb_0 rfl rfl dX9_isApproved_31
    · refine z_iconst (pc' := 27) C dX9_isApproved_26 zk_iconst_1 rfl ?_
      refine z_goto C 31 dX9_isApproved_27 rfl ?_
      cases hf
      exact z_zret C zb_1 rfl rfl dX9_isApproved_31
set_option maxRecDepth 20000 in
theorem c_X9_quantityBy {w : zV} {N : Nat} {h : zH} {a : Nat} {m_thrown : Int32} {m_next : Int32} {m_error : Int32} {m_place : Int32} {m_began : Int32} {m_nested : Int32} {m_once : Int32} {m_now : Int32} {m_undoable : Int32} {m_bytes : Int32} {m_errorAt : Int32} {m_size : Int32} {m_rows : Nat → Int64} {p1 : Int32} (h_a0 : zc N h (a + 0) (.inr (9, [.int m_thrown, .ref (zo w + (a + 1)), .ref (zo w + (a + 2)), .ref (zo w + (a + 3)), .int m_now, .int m_undoable, .ref (zo w + (a + 4)), .int m_bytes, .int m_errorAt, .int m_size, .int m_next, .int m_error, .int m_place, .int m_began, .int m_nested, .int m_once, .ref (zo w + (a + 5))]))) (h_a1 : zc N h (a + 1) (.inl (w.2.2.1 1, 22500, .inr (.inl m_rows)))) {r : Int64} (hf : f_X9_quantityBy m_now m_rows p1 = some r) : zM w yX9_quantityBy cX9_quantityBy 3 (some .long) (zr 3 93) false N N h [.ref (zo w + a), .int p1] (some (.long r)) h := by
  unfold f_X9_quantityBy at hf
  refine zM_of (by decide) rfl (fun X C _ => ?_)
  refine z_pick (lv' := [(0, .ref (zo w + a)), (1, .int p1)]) [0, 1] rfl ?_
  refine z_sipush (pc' := 3) C dX9_quantityBy_0 zk_sipush_230 rfl ?_
  refine z_iconst (pc' := 4) C dX9_quantityBy_3 zk_iconst_4 rfl ?_
  refine z_iload_n (pc' := 5) C 1 dX9_quantityBy_4 rfl rfl rfl ?_
  refine z_imul (pc' := 6) C dX9_quantityBy_5 rfl ?_
  refine z_iadd (pc' := 7) C dX9_quantityBy_6 rfl ?_
  refine z_istore_n (pc' := 8) C [(2, .int ((230 : Int32) + ((4 : Int32) * p1))), (0, .ref (zo w + a)), (1, .int p1)] dX9_quantityBy_7 rfl rfl rfl rfl ?_
  refine z_aload_n (pc' := 9) C 1 dX9_quantityBy_8 rfl rfl rfl ?_
  refine z_aload_n (pc' := 10) C 1 dX9_quantityBy_9 rfl rfl rfl ?_
  refine z_iload_n (pc' := 11) C 0 dX9_quantityBy_10 rfl rfl rfl ?_
  refine z_cV (pc' := 14) C hf (As := [.int ((230 : Int32) + ((4 : Int32) * p1))]) (fun hq => c_X9_small (a := a) h_a0 h_a1 hq) (fun _ => h) (fun q_11 => [.int q_11, .ref (zo w + a)]) (fun _ => rfl) (fun _ => rfl) zy_X9_small zw_1357 zw_1359 zv_45 (ci := 9) rfl h_a0 ⟨rfl, rfl⟩ rfl rfl rfl rfl rfl dX9_quantityBy_11 rfl (fun q_11 hf => ?_)
  refine z_aload_n (pc' := 15) C 1 dX9_quantityBy_14 rfl rfl rfl ?_
  refine z_iload_n (pc' := 16) C 0 dX9_quantityBy_15 rfl rfl rfl ?_
  refine z_iconst (pc' := 17) C dX9_quantityBy_16 zk_iconst_1 rfl ?_
  refine z_iadd (pc' := 18) C dX9_quantityBy_17 rfl ?_
  refine z_cV (pc' := 21) C hf (As := [.int (((230 : Int32) + ((4 : Int32) * p1)) + (1 : Int32))]) (fun hq => c_X9_small (a := a) h_a0 h_a1 hq) (fun _ => h) (fun q_18 => [.int q_18, .int q_11, .ref (zo w + a)]) (fun _ => rfl) (fun _ => rfl) zy_X9_small zw_1357 zw_1359 zv_45 (ci := 9) rfl h_a0 ⟨rfl, rfl⟩ rfl rfl rfl rfl rfl dX9_quantityBy_18 rfl (fun q_18 hf => ?_)
  refine z_cV (pc' := 24) C hf (As := [.int q_11, .int q_18]) (fun hq => c_X9_quantityOf (a := a) h_a0 h_a1 hq) (fun _ => h) (fun q_21 => [.long q_21]) (fun _ => rfl) (fun _ => rfl) zy_X9_quantityOf zw_1397 zw_1399 zv_49 (ci := 9) rfl h_a0 ⟨rfl, rfl⟩ rfl rfl rfl rfl rfl dX9_quantityBy_21 rfl (fun q_21 hf => ?_)
  refine z_aload_n (pc' := 25) C 1 dX9_quantityBy_24 rfl rfl rfl ?_
  refine z_iload_n (pc' := 26) C 0 dX9_quantityBy_25 rfl rfl rfl ?_
  refine z_iconst (pc' := 27) C dX9_quantityBy_26 zk_iconst_2 rfl ?_
  refine z_iadd (pc' := 28) C dX9_quantityBy_27 rfl ?_
  refine z_cV (pc' := 31) C hf (As := [.int (((230 : Int32) + ((4 : Int32) * p1)) + (2 : Int32))]) (fun hq => c_X9_get (a := a) h_a0 h_a1 hq) (fun _ => h) (fun q_28 => [.long q_28, .long q_21]) (fun _ => rfl) (fun _ => rfl) zy_X9_get zw_1349 zw_1351 zv_43 (ci := 9) rfl h_a0 ⟨rfl, rfl⟩ rfl rfl rfl rfl rfl dX9_quantityBy_28 rfl (fun q_28 hf => ?_)
  refine z_ladd (pc' := 32) C dX9_quantityBy_31 rfl ?_
  cases hf
  exact z_lret C rfl rfl dX9_quantityBy_32
set_option maxRecDepth 20000 in
theorem c_X9_variationWorth {w : zV} {N : Nat} {h : zH} {a : Nat} {m_thrown : Int32} {m_next : Int32} {m_error : Int32} {m_place : Int32} {m_began : Int32} {m_nested : Int32} {m_once : Int32} {m_now : Int32} {m_undoable : Int32} {m_bytes : Int32} {m_errorAt : Int32} {m_size : Int32} {m_rows : Nat → Int64} {m_pile : Nat → Int64} {p1 : Int32} (h_a0 : zc N h (a + 0) (.inr (9, [.int m_thrown, .ref (zo w + (a + 1)), .ref (zo w + (a + 2)), .ref (zo w + (a + 3)), .int m_now, .int m_undoable, .ref (zo w + (a + 4)), .int m_bytes, .int m_errorAt, .int m_size, .int m_next, .int m_error, .int m_place, .int m_began, .int m_nested, .int m_once, .ref (zo w + (a + 5))]))) (h_a1 : zc N h (a + 1) (.inl (w.2.2.1 1, 22500, .inr (.inl m_rows)))) (h_a5 : zc N h (a + 5) (.inl (w.2.2.1 1, 128, .inr (.inl m_pile)))) {r : Int64 × Int32 × (Nat → Int64)} (hf : f_X9_variationWorth m_thrown m_now m_rows m_pile p1 = some r) : zM w yX9_variationWorth cX9_variationWorth 3 (some .long) (zr 5 167) false N N h [.ref (zo w + a), .int p1] (some (.long r.1)) (zu h a [(0, .inr (9, [.int r.2.1, .ref (zo w + (a + 1)), .ref (zo w + (a + 2)), .ref (zo w + (a + 3)), .int m_now, .int m_undoable, .ref (zo w + (a + 4)), .int m_bytes, .int m_errorAt, .int m_size, .int m_next, .int m_error, .int m_place, .int m_began, .int m_nested, .int m_once, .ref (zo w + (a + 5))])), (5, .inl (w.2.2.1 1, 128, .inr (.inl r.2.2)))]) := by
  unfold f_X9_variationWorth at hf
  refine zM_of (by decide) rfl (fun X C _ => ?_)
  refine z_eq (h' := (zu h a [(0, .inr (9, [.int m_thrown, .ref (zo w + (a + 1)), .ref (zo w + (a + 2)), .ref (zo w + (a + 3)), .int m_now, .int m_undoable, .ref (zo w + (a + 4)), .int m_bytes, .int m_errorAt, .int m_size, .int m_next, .int m_error, .int m_place, .int m_began, .int m_nested, .int m_once, .ref (zo w + (a + 5))])), (5, .inl (w.2.2.1 1, 128, .inr (.inl m_pile)))])) (zu_s h_a0 (zu_s h_a5 zu_0)).symm ?_
  have n_a0 := h_a0.1
  have n_a5 := h_a5.1
  refine z_pick (lv' := [(0, .ref (zo w + a)), (1, .int p1)]) [0, 1] rfl ?_
  refine z_aload_n (pc' := 1) C 0 dX9_variationWorth_0 rfl rfl rfl ?_
  refine z_iload_n (pc' := 2) C 1 dX9_variationWorth_1 rfl rfl rfl ?_
  refine z_cV (pc' := 5) C hf (As := [.int p1]) (fun hq => c_X9_isVariation (a := a) (zc_i (o := 0) n_a0 rfl) (zc_o (o := 1) h_a1 rfl) hq) (fun q_2 => (zu h a [(0, .inr (9, [.int q_2.2, .ref (zo w + (a + 1)), .ref (zo w + (a + 2)), .ref (zo w + (a + 3)), .int m_now, .int m_undoable, .ref (zo w + (a + 4)), .int m_bytes, .int m_errorAt, .int m_size, .int m_next, .int m_error, .int m_place, .int m_began, .int m_nested, .int m_once, .ref (zo w + (a + 5))])), (5, .inl (w.2.2.1 1, 128, .inr (.inl m_pile)))])) (fun q_2 => [.int q_2.1]) (fun _ => zu_sh (d := 0) rfl rfl) (fun _ => rfl) zy_X9_isVariation zw_1582 zw_1584 zv_70 (ci := 9) rfl (zc_i (o := 0) n_a0 rfl) ⟨rfl, rfl⟩ rfl rfl rfl rfl rfl dX9_variationWorth_2 rfl (fun q_2 hf => ?_)
  refine z_if_ne (pc' := 8) C 10 hf dX9_variationWorth_5 rfl rfl (fun g_5 hf => ?_) (fun g_5 hf => ?_)
  · refine z_sipush (pc' := 13) C dX9_variationWorth_10 zk_sipush_230 rfl ?_
    refine z_iconst (pc' := 14) C dX9_variationWorth_13 zk_iconst_4 rfl ?_
    refine z_iload_n (pc' := 15) C 1 dX9_variationWorth_14 rfl rfl rfl ?_
    refine z_imul (pc' := 16) C dX9_variationWorth_15 rfl ?_
    refine z_iadd (pc' := 17) C dX9_variationWorth_16 rfl ?_
    refine z_istore_n (pc' := 18) C [(2, .int ((230 : Int32) + ((4 : Int32) * p1))), (0, .ref (zo w + a)), (1, .int p1)] dX9_variationWorth_17 rfl rfl rfl rfl ?_
    refine z_aload_n (pc' := 19) C 1 dX9_variationWorth_18 rfl rfl rfl ?_
    refine z_iload_n (pc' := 20) C 0 dX9_variationWorth_19 rfl rfl rfl ?_
    refine z_iconst (pc' := 21) C dX9_variationWorth_20 zk_iconst_3 rfl ?_
    refine z_iadd (pc' := 22) C dX9_variationWorth_21 rfl ?_
    refine z_cV (pc' := 25) C hf (As := [.int (((230 : Int32) + ((4 : Int32) * p1)) + (3 : Int32))]) (fun hq => c_X9_get (a := a) (zc_i (o := 0) n_a0 rfl) (zc_o (o := 1) h_a1 rfl) hq) (fun _ => (zu h a [(0, .inr (9, [.int q_2.2, .ref (zo w + (a + 1)), .ref (zo w + (a + 2)), .ref (zo w + (a + 3)), .int m_now, .int m_undoable, .ref (zo w + (a + 4)), .int m_bytes, .int m_errorAt, .int m_size, .int m_next, .int m_error, .int m_place, .int m_began, .int m_nested, .int m_once, .ref (zo w + (a + 5))])), (5, .inl (w.2.2.1 1, 128, .inr (.inl m_pile)))])) (fun q_22 => [.long q_22]) (fun _ => rfl) (fun _ => rfl) zy_X9_get zw_1349 zw_1351 zv_43 (ci := 9) rfl (zc_i (o := 0) n_a0 rfl) ⟨rfl, rfl⟩ rfl rfl rfl rfl rfl dX9_variationWorth_22 rfl (fun q_22 hf => ?_)
    refine z_lconst (pc' := 26) C dX9_variationWorth_25 zl_1 rfl ?_
    refine z_lcmp_eq (pc' := 30) C 40 hf dX9_variationWorth_26 rfl dX9_variationWorth_27 rfl rfl (fun g_26 hf => ?_) (fun g_26 hf => ?_)
    · refine z_lconst (pc' := 41) C dX9_variationWorth_40 zl_0 rfl ?_
      cases hf
      exact z_lret C rfl rfl dX9_variationWorth_41
    · refine z_aload_n (pc' := 31) C 1 dX9_variationWorth_30 rfl rfl rfl ?_
      refine z_iload_n (pc' := 32) C 2 dX9_variationWorth_31 rfl rfl rfl ?_
      refine z_cV (pc' := 35) C hf (As := [.int p1]) (fun hq => c_X9_quantityBy (a := a) (zc_i (o := 0) n_a0 rfl) (zc_o (o := 1) h_a1 rfl) hq) (fun _ => (zu h a [(0, .inr (9, [.int q_2.2, .ref (zo w + (a + 1)), .ref (zo w + (a + 2)), .ref (zo w + (a + 3)), .int m_now, .int m_undoable, .ref (zo w + (a + 4)), .int m_bytes, .int m_errorAt, .int m_size, .int m_next, .int m_error, .int m_place, .int m_began, .int m_nested, .int m_once, .ref (zo w + (a + 5))])), (5, .inl (w.2.2.1 1, 128, .inr (.inl m_pile)))])) (fun q_32 => [.long q_32]) (fun _ => rfl) (fun _ => rfl) zy_X9_quantityBy zw_1590 zw_1592 zv_71 (ci := 9) rfl (zc_i (o := 0) n_a0 rfl) ⟨rfl, rfl⟩ rfl rfl rfl rfl rfl dX9_variationWorth_32 rfl (fun q_32 hf => ?_)
      refine z_lconst (pc' := 36) C dX9_variationWorth_35 zl_0 rfl ?_
      refine z_lcmp_ge (pc' := 40) C 42 hf dX9_variationWorth_36 rfl dX9_variationWorth_37 rfl rfl (fun g_36 hf => ?_) (fun g_36 hf => ?_)
      · refine z_aload_n (pc' := 43) C 1 dX9_variationWorth_42 rfl rfl rfl ?_
        refine z_aload_n (pc' := 44) C 1 dX9_variationWorth_43 rfl rfl rfl ?_
        refine z_iload_n (pc' := 45) C 0 dX9_variationWorth_44 rfl rfl rfl ?_
        refine z_cV (pc' := 48) C hf (As := [.int ((230 : Int32) + ((4 : Int32) * p1))]) (fun hq => c_X9_small (a := a) (zc_i (o := 0) n_a0 rfl) (zc_o (o := 1) h_a1 rfl) hq) (fun _ => (zu h a [(0, .inr (9, [.int q_2.2, .ref (zo w + (a + 1)), .ref (zo w + (a + 2)), .ref (zo w + (a + 3)), .int m_now, .int m_undoable, .ref (zo w + (a + 4)), .int m_bytes, .int m_errorAt, .int m_size, .int m_next, .int m_error, .int m_place, .int m_began, .int m_nested, .int m_once, .ref (zo w + (a + 5))])), (5, .inl (w.2.2.1 1, 128, .inr (.inl m_pile)))])) (fun q_45 => [.int q_45, .ref (zo w + a)]) (fun _ => rfl) (fun _ => rfl) zy_X9_small zw_1357 zw_1359 zv_45 (ci := 9) rfl (zc_i (o := 0) n_a0 rfl) ⟨rfl, rfl⟩ rfl rfl rfl rfl rfl dX9_variationWorth_45 rfl (fun q_45 hf => ?_)
        refine z_aload_n (pc' := 49) C 1 dX9_variationWorth_48 rfl rfl rfl ?_
        refine z_iload_n (pc' := 50) C 0 dX9_variationWorth_49 rfl rfl rfl ?_
        refine z_iconst (pc' := 51) C dX9_variationWorth_50 zk_iconst_1 rfl ?_
        refine z_iadd (pc' := 52) C dX9_variationWorth_51 rfl ?_
        refine z_cV (pc' := 55) C hf (As := [.int (((230 : Int32) + ((4 : Int32) * p1)) + (1 : Int32))]) (fun hq => c_X9_small (a := a) (zc_i (o := 0) n_a0 rfl) (zc_o (o := 1) h_a1 rfl) hq) (fun _ => (zu h a [(0, .inr (9, [.int q_2.2, .ref (zo w + (a + 1)), .ref (zo w + (a + 2)), .ref (zo w + (a + 3)), .int m_now, .int m_undoable, .ref (zo w + (a + 4)), .int m_bytes, .int m_errorAt, .int m_size, .int m_next, .int m_error, .int m_place, .int m_began, .int m_nested, .int m_once, .ref (zo w + (a + 5))])), (5, .inl (w.2.2.1 1, 128, .inr (.inl m_pile)))])) (fun q_52 => [.int q_52, .int q_45, .ref (zo w + a)]) (fun _ => rfl) (fun _ => rfl) zy_X9_small zw_1357 zw_1359 zv_45 (ci := 9) rfl (zc_i (o := 0) n_a0 rfl) ⟨rfl, rfl⟩ rfl rfl rfl rfl rfl dX9_variationWorth_52 rfl (fun q_52 hf => ?_)
        refine z_aload_n (pc' := 56) C 1 dX9_variationWorth_55 rfl rfl rfl ?_
        refine z_iload_n (pc' := 57) C 2 dX9_variationWorth_56 rfl rfl rfl ?_
        refine z_cV (pc' := 60) C hf (As := [.int p1]) (fun hq => c_X9_quantityBy (a := a) (zc_i (o := 0) n_a0 rfl) (zc_o (o := 1) h_a1 rfl) hq) (fun _ => (zu h a [(0, .inr (9, [.int q_2.2, .ref (zo w + (a + 1)), .ref (zo w + (a + 2)), .ref (zo w + (a + 3)), .int m_now, .int m_undoable, .ref (zo w + (a + 4)), .int m_bytes, .int m_errorAt, .int m_size, .int m_next, .int m_error, .int m_place, .int m_began, .int m_nested, .int m_once, .ref (zo w + (a + 5))])), (5, .inl (w.2.2.1 1, 128, .inr (.inl m_pile)))])) (fun q_57 => [.long q_57, .int q_52, .int q_45, .ref (zo w + a)]) (fun _ => rfl) (fun _ => rfl) zy_X9_quantityBy zw_1590 zw_1592 zv_71 (ci := 9) rfl (zc_i (o := 0) n_a0 rfl) ⟨rfl, rfl⟩ rfl rfl rfl rfl rfl dX9_variationWorth_57 rfl (fun q_57 hf => ?_)
        refine z_cV (pc' := 63) C hf (As := [.int q_45, .int q_52, .long q_57]) (fun hq => c_X9_fullBy (a := a) (zc_i (o := 0) n_a0 rfl) (zc_o (o := 1) h_a1 rfl) (zc_i (o := 5) n_a5 rfl) hq) (fun q_60 => (zu h a [(0, .inr (9, [.int q_2.2, .ref (zo w + (a + 1)), .ref (zo w + (a + 2)), .ref (zo w + (a + 3)), .int m_now, .int m_undoable, .ref (zo w + (a + 4)), .int m_bytes, .int m_errorAt, .int m_size, .int m_next, .int m_error, .int m_place, .int m_began, .int m_nested, .int m_once, .ref (zo w + (a + 5))])), (5, .inl (w.2.2.1 1, 128, .inr (.inl q_60.2)))])) (fun q_60 => [.long q_60.1]) (fun _ => zu_sh (d := 0) rfl rfl) (fun _ => rfl) zy_X9_fullBy zw_1437 zw_1439 zv_55 (ci := 9) rfl (zc_i (o := 0) n_a0 rfl) ⟨rfl, rfl⟩ rfl rfl rfl rfl rfl dX9_variationWorth_60 rfl (fun q_60 hf => ?_)
        refine z_aload_n (pc' := 64) C 1 dX9_variationWorth_63 rfl rfl rfl ?_
        refine z_aload_n (pc' := 65) C 1 dX9_variationWorth_64 rfl rfl rfl ?_
        refine z_iload_n (pc' := 66) C 0 dX9_variationWorth_65 rfl rfl rfl ?_
        refine z_cV (pc' := 69) C hf (As := [.int ((230 : Int32) + ((4 : Int32) * p1))]) (fun hq => c_X9_small (a := a) (zc_i (o := 0) n_a0 rfl) (zc_o (o := 1) h_a1 rfl) hq) (fun _ => (zu h a [(0, .inr (9, [.int q_2.2, .ref (zo w + (a + 1)), .ref (zo w + (a + 2)), .ref (zo w + (a + 3)), .int m_now, .int m_undoable, .ref (zo w + (a + 4)), .int m_bytes, .int m_errorAt, .int m_size, .int m_next, .int m_error, .int m_place, .int m_began, .int m_nested, .int m_once, .ref (zo w + (a + 5))])), (5, .inl (w.2.2.1 1, 128, .inr (.inl q_60.2)))])) (fun q_66 => [.int q_66, .ref (zo w + a), .long q_60.1]) (fun _ => rfl) (fun _ => rfl) zy_X9_small zw_1357 zw_1359 zv_45 (ci := 9) rfl (zc_i (o := 0) n_a0 rfl) ⟨rfl, rfl⟩ rfl rfl rfl rfl rfl dX9_variationWorth_66 rfl (fun q_66 hf => ?_)
        refine z_aload_n (pc' := 70) C 1 dX9_variationWorth_69 rfl rfl rfl ?_
        refine z_iload_n (pc' := 71) C 0 dX9_variationWorth_70 rfl rfl rfl ?_
        refine z_iconst (pc' := 72) C dX9_variationWorth_71 zk_iconst_1 rfl ?_
        refine z_iadd (pc' := 73) C dX9_variationWorth_72 rfl ?_
        refine z_cV (pc' := 76) C hf (As := [.int (((230 : Int32) + ((4 : Int32) * p1)) + (1 : Int32))]) (fun hq => c_X9_small (a := a) (zc_i (o := 0) n_a0 rfl) (zc_o (o := 1) h_a1 rfl) hq) (fun _ => (zu h a [(0, .inr (9, [.int q_2.2, .ref (zo w + (a + 1)), .ref (zo w + (a + 2)), .ref (zo w + (a + 3)), .int m_now, .int m_undoable, .ref (zo w + (a + 4)), .int m_bytes, .int m_errorAt, .int m_size, .int m_next, .int m_error, .int m_place, .int m_began, .int m_nested, .int m_once, .ref (zo w + (a + 5))])), (5, .inl (w.2.2.1 1, 128, .inr (.inl q_60.2)))])) (fun q_73 => [.int q_73, .int q_66, .ref (zo w + a), .long q_60.1]) (fun _ => rfl) (fun _ => rfl) zy_X9_small zw_1357 zw_1359 zv_45 (ci := 9) rfl (zc_i (o := 0) n_a0 rfl) ⟨rfl, rfl⟩ rfl rfl rfl rfl rfl dX9_variationWorth_73 rfl (fun q_73 hf => ?_)
        refine z_aload_n (pc' := 77) C 1 dX9_variationWorth_76 rfl rfl rfl ?_
        refine z_aload_n (pc' := 78) C 1 dX9_variationWorth_77 rfl rfl rfl ?_
        refine z_iload_n (pc' := 79) C 0 dX9_variationWorth_78 rfl rfl rfl ?_
        refine z_cV (pc' := 82) C hf (As := [.int ((230 : Int32) + ((4 : Int32) * p1))]) (fun hq => c_X9_small (a := a) (zc_i (o := 0) n_a0 rfl) (zc_o (o := 1) h_a1 rfl) hq) (fun _ => (zu h a [(0, .inr (9, [.int q_2.2, .ref (zo w + (a + 1)), .ref (zo w + (a + 2)), .ref (zo w + (a + 3)), .int m_now, .int m_undoable, .ref (zo w + (a + 4)), .int m_bytes, .int m_errorAt, .int m_size, .int m_next, .int m_error, .int m_place, .int m_began, .int m_nested, .int m_once, .ref (zo w + (a + 5))])), (5, .inl (w.2.2.1 1, 128, .inr (.inl q_60.2)))])) (fun q_79 => [.int q_79, .ref (zo w + a), .int q_73, .int q_66, .ref (zo w + a), .long q_60.1]) (fun _ => rfl) (fun _ => rfl) zy_X9_small zw_1357 zw_1359 zv_45 (ci := 9) rfl (zc_i (o := 0) n_a0 rfl) ⟨rfl, rfl⟩ rfl rfl rfl rfl rfl dX9_variationWorth_79 rfl (fun q_79 hf => ?_)
        refine z_aload_n (pc' := 83) C 1 dX9_variationWorth_82 rfl rfl rfl ?_
        refine z_iload_n (pc' := 84) C 0 dX9_variationWorth_83 rfl rfl rfl ?_
        refine z_iconst (pc' := 85) C dX9_variationWorth_84 zk_iconst_1 rfl ?_
        refine z_iadd (pc' := 86) C dX9_variationWorth_85 rfl ?_
        refine z_cV (pc' := 89) C hf (As := [.int (((230 : Int32) + ((4 : Int32) * p1)) + (1 : Int32))]) (fun hq => c_X9_small (a := a) (zc_i (o := 0) n_a0 rfl) (zc_o (o := 1) h_a1 rfl) hq) (fun _ => (zu h a [(0, .inr (9, [.int q_2.2, .ref (zo w + (a + 1)), .ref (zo w + (a + 2)), .ref (zo w + (a + 3)), .int m_now, .int m_undoable, .ref (zo w + (a + 4)), .int m_bytes, .int m_errorAt, .int m_size, .int m_next, .int m_error, .int m_place, .int m_began, .int m_nested, .int m_once, .ref (zo w + (a + 5))])), (5, .inl (w.2.2.1 1, 128, .inr (.inl q_60.2)))])) (fun q_86 => [.int q_86, .int q_79, .ref (zo w + a), .int q_73, .int q_66, .ref (zo w + a), .long q_60.1]) (fun _ => rfl) (fun _ => rfl) zy_X9_small zw_1357 zw_1359 zv_45 (ci := 9) rfl (zc_i (o := 0) n_a0 rfl) ⟨rfl, rfl⟩ rfl rfl rfl rfl rfl dX9_variationWorth_86 rfl (fun q_86 hf => ?_)
        refine z_cV (pc' := 92) C hf (As := [.int q_79, .int q_86]) (fun hq => c_X9_quantityOf (a := a) (zc_i (o := 0) n_a0 rfl) (zc_o (o := 1) h_a1 rfl) hq) (fun _ => (zu h a [(0, .inr (9, [.int q_2.2, .ref (zo w + (a + 1)), .ref (zo w + (a + 2)), .ref (zo w + (a + 3)), .int m_now, .int m_undoable, .ref (zo w + (a + 4)), .int m_bytes, .int m_errorAt, .int m_size, .int m_next, .int m_error, .int m_place, .int m_began, .int m_nested, .int m_once, .ref (zo w + (a + 5))])), (5, .inl (w.2.2.1 1, 128, .inr (.inl q_60.2)))])) (fun q_89 => [.long q_89, .int q_73, .int q_66, .ref (zo w + a), .long q_60.1]) (fun _ => rfl) (fun _ => rfl) zy_X9_quantityOf zw_1397 zw_1399 zv_49 (ci := 9) rfl (zc_i (o := 0) n_a0 rfl) ⟨rfl, rfl⟩ rfl rfl rfl rfl rfl dX9_variationWorth_89 rfl (fun q_89 hf => ?_)
        refine z_cV (pc' := 95) C hf (As := [.int q_66, .int q_73, .long q_89]) (fun hq => c_X9_fullBy (a := a) (zc_i (o := 0) n_a0 rfl) (zc_o (o := 1) h_a1 rfl) (zc_i (o := 5) n_a5 rfl) hq) (fun q_92 => (zu h a [(0, .inr (9, [.int q_2.2, .ref (zo w + (a + 1)), .ref (zo w + (a + 2)), .ref (zo w + (a + 3)), .int m_now, .int m_undoable, .ref (zo w + (a + 4)), .int m_bytes, .int m_errorAt, .int m_size, .int m_next, .int m_error, .int m_place, .int m_began, .int m_nested, .int m_once, .ref (zo w + (a + 5))])), (5, .inl (w.2.2.1 1, 128, .inr (.inl q_92.2)))])) (fun q_92 => [.long q_92.1, .long q_60.1]) (fun _ => zu_sh (d := 0) rfl rfl) (fun _ => rfl) zy_X9_fullBy zw_1437 zw_1439 zv_55 (ci := 9) rfl (zc_i (o := 0) n_a0 rfl) ⟨rfl, rfl⟩ rfl rfl rfl rfl rfl dX9_variationWorth_92 rfl (fun q_92 hf => ?_)
        refine z_lsub (pc' := 96) C dX9_variationWorth_95 rfl ?_
        cases hf
        exact z_lret C rfl rfl dX9_variationWorth_96
      · refine z_lconst (pc' := 41) C dX9_variationWorth_40 zl_0 rfl ?_
        cases hf
        exact z_lret C rfl rfl dX9_variationWorth_41
  · refine z_lconst (pc' := 9) C dX9_variationWorth_8 zl_0 rfl ?_
    cases hf
    exact z_lret C rfl rfl dX9_variationWorth_9
set_option maxRecDepth 20000 in
theorem c_X9_lien {w : zV} {N : Nat} {h : zH} {p0 : Int32} {r : Int32} (hf : f_X9_lien p0 = some r) : zM w yX9_lien cX9_lien 1 (some .int) (zr 0 0) false N N h [.int p0] (some (.int r)) h := by
  unfold f_X9_lien at hf
  refine zM_of (by decide) rfl (fun X C _ => ?_)
  refine z_pick (lv' := [(0, .int p0)]) [0] rfl ?_
  refine z_sipush (pc' := 3) C dX9_lien_0 zk_sipush_530 rfl ?_
  refine z_iconst (pc' := 4) C dX9_lien_3 zk_iconst_4 rfl ?_
  refine z_iload_n (pc' := 5) C 0 dX9_lien_4 rfl rfl rfl ?_
  refine z_imul (pc' := 6) C dX9_lien_5 rfl ?_
  refine z_iadd (pc' := 7) C dX9_lien_6 rfl ?_
  cases hf
  exact z_iret C rfl rfl dX9_lien_7
set_option maxRecDepth 20000 in
theorem c_X9_lienCount {w : zV} {N : Nat} {h : zH} {a : Nat} {m_thrown : Int32} {m_next : Int32} {m_error : Int32} {m_place : Int32} {m_began : Int32} {m_nested : Int32} {m_once : Int32} {m_now : Int32} {m_undoable : Int32} {m_bytes : Int32} {m_errorAt : Int32} {m_size : Int32} {m_rows : Nat → Int64} (h_a0 : zc N h (a + 0) (.inr (9, [.int m_thrown, .ref (zo w + (a + 1)), .ref (zo w + (a + 2)), .ref (zo w + (a + 3)), .int m_now, .int m_undoable, .ref (zo w + (a + 4)), .int m_bytes, .int m_errorAt, .int m_size, .int m_next, .int m_error, .int m_place, .int m_began, .int m_nested, .int m_once, .ref (zo w + (a + 5))]))) (h_a1 : zc N h (a + 1) (.inl (w.2.2.1 1, 22500, .inr (.inl m_rows)))) {r : Int32 × Int32} (hf : f_X9_lienCount m_thrown m_now m_rows = some r) : zM w yX9_lienCount cX9_lienCount 1 (some .int) (zr 2 58) false N N h [.ref (zo w + a)] (some (.int r.1)) (zu h a [(0, .inr (9, [.int r.2, .ref (zo w + (a + 1)), .ref (zo w + (a + 2)), .ref (zo w + (a + 3)), .int m_now, .int m_undoable, .ref (zo w + (a + 4)), .int m_bytes, .int m_errorAt, .int m_size, .int m_next, .int m_error, .int m_place, .int m_began, .int m_nested, .int m_once, .ref (zo w + (a + 5))]))]) := by
  unfold f_X9_lienCount at hf
  refine zM_of (by decide) rfl (fun X C _ => ?_)
  refine z_eq (h' := (zu h a [(0, .inr (9, [.int m_thrown, .ref (zo w + (a + 1)), .ref (zo w + (a + 2)), .ref (zo w + (a + 3)), .int m_now, .int m_undoable, .ref (zo w + (a + 4)), .int m_bytes, .int m_errorAt, .int m_size, .int m_next, .int m_error, .int m_place, .int m_began, .int m_nested, .int m_once, .ref (zo w + (a + 5))]))])) (zu_s h_a0 zu_0).symm ?_
  have n_a0 := h_a0.1
  refine z_pick (lv' := [(0, .ref (zo w + a))]) [0] rfl ?_
  refine z_aload_n (pc' := 1) C 0 dX9_lienCount_0 rfl rfl rfl ?_
  refine z_iconst (pc' := 2) C dX9_lienCount_1 zk_iconst_0 rfl ?_
  refine z_putf (pc' := 5) C zci_9 zw_1184 (j := 0) rfl (zc_i (o := 0) n_a0 rfl) (fs' := [.int (0 : Int32), .ref (zo w + (a + 1)), .ref (zo w + (a + 2)), .ref (zo w + (a + 3)), .int m_now, .int m_undoable, .ref (zo w + (a + 4)), .int m_bytes, .int m_errorAt, .int m_size, .int m_next, .int m_error, .int m_place, .int m_began, .int m_nested, .int m_once, .ref (zo w + (a + 5))]) rfl rfl rfl rfl rfl (zu_put (o := 0) (L' := [(0, .inr (9, [.int (0 : Int32), .ref (zo w + (a + 1)), .ref (zo w + (a + 2)), .ref (zo w + (a + 3)), .int m_now, .int m_undoable, .ref (zo w + (a + 4)), .int m_bytes, .int m_errorAt, .int m_size, .int m_next, .int m_error, .int m_place, .int m_began, .int m_nested, .int m_once, .ref (zo w + (a + 5))]))]) rfl) dX9_lienCount_2 rfl ?_
  refine z_aload_n (pc' := 6) C 0 dX9_lienCount_5 rfl rfl rfl ?_
  refine z_bipush (pc' := 8) C dX9_lienCount_6 zk_bipush_6 rfl ?_
  refine z_cV (pc' := 11) C hf (As := [.int (6 : Int32)]) (fun hq => c_X9_small (a := a) (zc_i (o := 0) n_a0 rfl) (zc_o (o := 1) h_a1 rfl) hq) (fun _ => (zu h a [(0, .inr (9, [.int (0 : Int32), .ref (zo w + (a + 1)), .ref (zo w + (a + 2)), .ref (zo w + (a + 3)), .int m_now, .int m_undoable, .ref (zo w + (a + 4)), .int m_bytes, .int m_errorAt, .int m_size, .int m_next, .int m_error, .int m_place, .int m_began, .int m_nested, .int m_once, .ref (zo w + (a + 5))]))])) (fun q_8 => [.int q_8]) (fun _ => rfl) (fun _ => rfl) zy_X9_small zw_1357 zw_1359 zv_45 (ci := 9) rfl (zc_i (o := 0) n_a0 rfl) ⟨rfl, rfl⟩ rfl rfl rfl rfl rfl dX9_lienCount_8 rfl (fun q_8 hf => ?_)
  cases hf
  exact z_iret C rfl rfl dX9_lienCount_11
set_option maxRecDepth 20000 in
theorem c_X9_isLien {w : zV} {N : Nat} {h : zH} {a : Nat} {m_thrown : Int32} {m_next : Int32} {m_error : Int32} {m_place : Int32} {m_began : Int32} {m_nested : Int32} {m_once : Int32} {m_now : Int32} {m_undoable : Int32} {m_bytes : Int32} {m_errorAt : Int32} {m_size : Int32} {m_rows : Nat → Int64} {p1 : Int32} (h_a0 : zc N h (a + 0) (.inr (9, [.int m_thrown, .ref (zo w + (a + 1)), .ref (zo w + (a + 2)), .ref (zo w + (a + 3)), .int m_now, .int m_undoable, .ref (zo w + (a + 4)), .int m_bytes, .int m_errorAt, .int m_size, .int m_next, .int m_error, .int m_place, .int m_began, .int m_nested, .int m_once, .ref (zo w + (a + 5))]))) (h_a1 : zc N h (a + 1) (.inl (w.2.2.1 1, 22500, .inr (.inl m_rows)))) {r : Int32 × Int32} (hf : f_X9_isLien m_thrown m_now m_rows p1 = some r) : zM w yX9_isLien cX9_isLien 2 (some .boolean) (zr 1 33) false N N h [.ref (zo w + a), .int p1] (some (.int r.1)) (zu h a [(0, .inr (9, [.int r.2, .ref (zo w + (a + 1)), .ref (zo w + (a + 2)), .ref (zo w + (a + 3)), .int m_now, .int m_undoable, .ref (zo w + (a + 4)), .int m_bytes, .int m_errorAt, .int m_size, .int m_next, .int m_error, .int m_place, .int m_began, .int m_nested, .int m_once, .ref (zo w + (a + 5))]))]) := by
  unfold f_X9_isLien at hf
  refine zM_of (by decide) rfl (fun X C _ => ?_)
  refine z_eq (h' := (zu h a [(0, .inr (9, [.int m_thrown, .ref (zo w + (a + 1)), .ref (zo w + (a + 2)), .ref (zo w + (a + 3)), .int m_now, .int m_undoable, .ref (zo w + (a + 4)), .int m_bytes, .int m_errorAt, .int m_size, .int m_next, .int m_error, .int m_place, .int m_began, .int m_nested, .int m_once, .ref (zo w + (a + 5))]))])) (zu_s h_a0 zu_0).symm ?_
  have n_a0 := h_a0.1
  refine z_pick (lv' := [(0, .ref (zo w + a)), (1, .int p1)]) [0, 1] rfl ?_
  refine z_aload_n (pc' := 1) C 0 dX9_isLien_0 rfl rfl rfl ?_
  refine z_iconst (pc' := 2) C dX9_isLien_1 zk_iconst_0 rfl ?_
  refine z_putf (pc' := 5) C zci_9 zw_1184 (j := 0) rfl (zc_i (o := 0) n_a0 rfl) (fs' := [.int (0 : Int32), .ref (zo w + (a + 1)), .ref (zo w + (a + 2)), .ref (zo w + (a + 3)), .int m_now, .int m_undoable, .ref (zo w + (a + 4)), .int m_bytes, .int m_errorAt, .int m_size, .int m_next, .int m_error, .int m_place, .int m_began, .int m_nested, .int m_once, .ref (zo w + (a + 5))]) rfl rfl rfl rfl rfl (zu_put (o := 0) (L' := [(0, .inr (9, [.int (0 : Int32), .ref (zo w + (a + 1)), .ref (zo w + (a + 2)), .ref (zo w + (a + 3)), .int m_now, .int m_undoable, .ref (zo w + (a + 4)), .int m_bytes, .int m_errorAt, .int m_size, .int m_next, .int m_error, .int m_place, .int m_began, .int m_nested, .int m_once, .ref (zo w + (a + 5))]))]) rfl) dX9_isLien_2 rfl ?_
  refine z_aload_n (pc' := 6) C 0 dX9_isLien_5 rfl rfl rfl ?_
  refine z_iload_n (pc' := 7) C 1 dX9_isLien_6 rfl rfl rfl ?_
  refine z_i2l (pc' := 8) C dX9_isLien_7 rfl ?_
  refine z_lconst (pc' := 9) C dX9_isLien_8 zl_0 rfl ?_
  refine z_aload_n (pc' := 10) C 0 dX9_isLien_9 rfl rfl rfl ?_
  refine z_bipush (pc' := 12) C dX9_isLien_10 zk_bipush_6 rfl ?_
  refine z_cV (pc' := 15) C hf (As := [.int (6 : Int32)]) (fun hq => c_X9_get (a := a) (zc_i (o := 0) n_a0 rfl) (zc_o (o := 1) h_a1 rfl) hq) (fun _ => (zu h a [(0, .inr (9, [.int (0 : Int32), .ref (zo w + (a + 1)), .ref (zo w + (a + 2)), .ref (zo w + (a + 3)), .int m_now, .int m_undoable, .ref (zo w + (a + 4)), .int m_bytes, .int m_errorAt, .int m_size, .int m_next, .int m_error, .int m_place, .int m_began, .int m_nested, .int m_once, .ref (zo w + (a + 5))]))])) (fun q_12 => [.long q_12, .long (0 : Int64), .long (p1).toInt64, .ref (zo w + a)]) (fun _ => rfl) (fun _ => rfl) zy_X9_get zw_1349 zw_1351 zv_43 (ci := 9) rfl (zc_i (o := 0) n_a0 rfl) ⟨rfl, rfl⟩ rfl rfl rfl rfl rfl dX9_isLien_12 rfl (fun q_12 hf => ?_)
  refine z_lconst (pc' := 16) C dX9_isLien_15 zl_1 rfl ?_
  refine z_lsub (pc' := 17) C dX9_isLien_16 rfl ?_
  refine z_cS (pc' := 20) C hf (As := [.long (p1).toInt64, .long (0 : Int64), .long (q_12 - (1 : Int64))]) (fun hq => c_X9_isIn  hq) (fun _ => (zu h a [(0, .inr (9, [.int (0 : Int32), .ref (zo w + (a + 1)), .ref (zo w + (a + 2)), .ref (zo w + (a + 3)), .int m_now, .int m_undoable, .ref (zo w + (a + 4)), .int m_bytes, .int m_errorAt, .int m_size, .int m_next, .int m_error, .int m_place, .int m_began, .int m_nested, .int m_once, .ref (zo w + (a + 5))]))])) (fun q_17 => [.int q_17, .ref (zo w + a)]) (fun _ => rfl) (fun _ => rfl) zy_X9_isIn zw_1248 zw_1249 ⟨rfl, rfl⟩ rfl rfl rfl rfl rfl dX9_isLien_17 rfl (fun q_17 hf => ?_)
  refine z_iconst (pc' := 21) C dX9_isLien_20 zk_iconst_1 rfl ?_
  refine z_cV (pc' := 24) C hf (As := [.int q_17, .int (1 : Int32)]) (fun hq => c_X9_right (a := a) (zc_i (o := 0) n_a0 rfl) hq) (fun q_21 => (zu h a [(0, .inr (9, [.int q_21.2, .ref (zo w + (a + 1)), .ref (zo w + (a + 2)), .ref (zo w + (a + 3)), .int m_now, .int m_undoable, .ref (zo w + (a + 4)), .int m_bytes, .int m_errorAt, .int m_size, .int m_next, .int m_error, .int m_place, .int m_began, .int m_nested, .int m_once, .ref (zo w + (a + 5))]))])) (fun q_21 => [.int q_21.1]) (fun _ => zu_sh (d := 0) rfl rfl) (fun _ => rfl) zy_X9_right zw_1251 zw_1253 zv_23 (ci := 9) rfl (zc_i (o := 0) n_a0 rfl) ⟨rfl, rfl⟩ rfl rfl rfl rfl rfl dX9_isLien_21 rfl (fun q_21 hf => ?_)
  obtain ⟨g_24, hf⟩ := zG1_s hf
  cases hf
  exact z_zret C g_24 rfl rfl dX9_isLien_24
set_option maxRecDepth 20000 in
theorem c_X9_claimOf {w : zV} {N : Nat} {h : zH} {a : Nat} {m_thrown : Int32} {m_next : Int32} {m_error : Int32} {m_place : Int32} {m_began : Int32} {m_nested : Int32} {m_once : Int32} {m_now : Int32} {m_undoable : Int32} {m_bytes : Int32} {m_errorAt : Int32} {m_size : Int32} {m_rows : Nat → Int64} {p1 : Int32} (h_a0 : zc N h (a + 0) (.inr (9, [.int m_thrown, .ref (zo w + (a + 1)), .ref (zo w + (a + 2)), .ref (zo w + (a + 3)), .int m_now, .int m_undoable, .ref (zo w + (a + 4)), .int m_bytes, .int m_errorAt, .int m_size, .int m_next, .int m_error, .int m_place, .int m_began, .int m_nested, .int m_once, .ref (zo w + (a + 5))]))) (h_a1 : zc N h (a + 1) (.inl (w.2.2.1 1, 22500, .inr (.inl m_rows)))) {r : Int64} (hf : f_X9_claimOf m_now m_rows p1 = some r) : zM w yX9_claimOf cX9_claimOf 2 (some .long) (zr 4 121) false N N h [.ref (zo w + a), .int p1] (some (.long r)) h := by
  unfold f_X9_claimOf at hf
  refine zM_of (by decide) rfl (fun X C _ => ?_)
  refine z_pick (lv' := [(0, .ref (zo w + a)), (1, .int p1)]) [0, 1] rfl ?_
  refine z_aload_n (pc' := 1) C 0 dX9_claimOf_0 rfl rfl rfl ?_
  refine z_iload_n (pc' := 2) C 1 dX9_claimOf_1 rfl rfl rfl ?_
  refine z_cS (pc' := 5) C hf (As := [.int p1]) (fun hq => c_X9_lien  hq) (fun _ => h) (fun q_2 => [.int q_2, .ref (zo w + a)]) (fun _ => rfl) (fun _ => rfl) zy_X9_lien zw_1610 zw_1611 ⟨rfl, rfl⟩ rfl rfl rfl rfl rfl dX9_claimOf_2 rfl (fun q_2 hf => ?_)
  refine z_iconst (pc' := 6) C dX9_claimOf_5 zk_iconst_3 rfl ?_
  refine z_iadd (pc' := 7) C dX9_claimOf_6 rfl ?_
  refine z_cV (pc' := 10) C hf (As := [.int (q_2 + (3 : Int32))]) (fun hq => c_X9_get (a := a) h_a0 h_a1 hq) (fun _ => h) (fun q_7 => [.long q_7]) (fun _ => rfl) (fun _ => rfl) zy_X9_get zw_1349 zw_1351 zv_43 (ci := 9) rfl h_a0 ⟨rfl, rfl⟩ rfl rfl rfl rfl rfl dX9_claimOf_7 rfl (fun q_7 hf => ?_)
  refine z_lconst (pc' := 11) C dX9_claimOf_10 zl_1 rfl ?_
  refine z_lcmp_ne (pc' := 15) C 19 hf dX9_claimOf_11 rfl dX9_claimOf_12 rfl rfl (fun g_11 hf => ?_) (fun g_11 hf => ?_)
  · refine z_aload_n (pc' := 20) C 0 dX9_claimOf_19 rfl rfl rfl ?_
    refine z_iload_n (pc' := 21) C 1 dX9_claimOf_20 rfl rfl rfl ?_
    refine z_cS (pc' := 24) C hf (As := [.int p1]) (fun hq => c_X9_lien  hq) (fun _ => h) (fun q_21 => [.int q_21, .ref (zo w + a)]) (fun _ => rfl) (fun _ => rfl) zy_X9_lien zw_1610 zw_1611 ⟨rfl, rfl⟩ rfl rfl rfl rfl rfl dX9_claimOf_21 rfl (fun q_21 hf => ?_)
    refine z_iconst (pc' := 25) C dX9_claimOf_24 zk_iconst_1 rfl ?_
    refine z_iadd (pc' := 26) C dX9_claimOf_25 rfl ?_
    refine z_cV (pc' := 29) C hf (As := [.int (q_21 + (1 : Int32))]) (fun hq => c_X9_get (a := a) h_a0 h_a1 hq) (fun _ => h) (fun q_26 => [.long q_26]) (fun _ => rfl) (fun _ => rfl) zy_X9_get zw_1349 zw_1351 zv_43 (ci := 9) rfl h_a0 ⟨rfl, rfl⟩ rfl rfl rfl rfl rfl dX9_claimOf_26 rfl (fun q_26 hf => ?_)
    refine z_aload_n (pc' := 30) C 0 dX9_claimOf_29 rfl rfl rfl ?_
    refine z_aload_n (pc' := 31) C 0 dX9_claimOf_30 rfl rfl rfl ?_
    refine z_iload_n (pc' := 32) C 1 dX9_claimOf_31 rfl rfl rfl ?_
    refine z_cS (pc' := 35) C hf (As := [.int p1]) (fun hq => c_X9_lien  hq) (fun _ => h) (fun q_32 => [.int q_32, .ref (zo w + a), .ref (zo w + a), .long q_26]) (fun _ => rfl) (fun _ => rfl) zy_X9_lien zw_1610 zw_1611 ⟨rfl, rfl⟩ rfl rfl rfl rfl rfl dX9_claimOf_32 rfl (fun q_32 hf => ?_)
    refine z_cV (pc' := 38) C hf (As := [.int q_32]) (fun hq => c_X9_small (a := a) h_a0 h_a1 hq) (fun _ => h) (fun q_35 => [.int q_35, .ref (zo w + a), .long q_26]) (fun _ => rfl) (fun _ => rfl) zy_X9_small zw_1357 zw_1359 zv_45 (ci := 9) rfl h_a0 ⟨rfl, rfl⟩ rfl rfl rfl rfl rfl dX9_claimOf_35 rfl (fun q_35 hf => ?_)
    refine z_cV (pc' := 41) C hf (As := [.int q_35]) (fun hq => c_X9_unpaidOf (a := a) h_a0 h_a1 hq) (fun _ => h) (fun q_38 => [.long q_38, .long q_26]) (fun _ => rfl) (fun _ => rfl) zy_X9_unpaidOf zw_1501 zw_1503 zv_61 (ci := 9) rfl h_a0 ⟨rfl, rfl⟩ rfl rfl rfl rfl rfl dX9_claimOf_38 rfl (fun q_38 hf => ?_)
    refine z_lmin (pc' := 44) C zw_1473 rfl rfl dX9_claimOf_41 rfl ?_
    cases hf
    exact z_lret C rfl rfl dX9_claimOf_44
  · refine z_lconst (pc' := 16) C dX9_claimOf_15 zl_0 rfl ?_
    refine z_goto C 44 dX9_claimOf_16 rfl ?_
    cases hf
    exact z_lret C rfl rfl dX9_claimOf_44
set_option maxRecDepth 20000 in
theorem c_X9_claim {w : zV} {N : Nat} {h : zH} {a : Nat} {m_thrown : Int32} {m_next : Int32} {m_error : Int32} {m_place : Int32} {m_began : Int32} {m_nested : Int32} {m_once : Int32} {m_now : Int32} {m_undoable : Int32} {m_bytes : Int32} {m_errorAt : Int32} {m_size : Int32} {m_rows : Nat → Int64} {p1 : Int32} (h_a0 : zc N h (a + 0) (.inr (9, [.int m_thrown, .ref (zo w + (a + 1)), .ref (zo w + (a + 2)), .ref (zo w + (a + 3)), .int m_now, .int m_undoable, .ref (zo w + (a + 4)), .int m_bytes, .int m_errorAt, .int m_size, .int m_next, .int m_error, .int m_place, .int m_began, .int m_nested, .int m_once, .ref (zo w + (a + 5))]))) (h_a1 : zc N h (a + 1) (.inl (w.2.2.1 1, 22500, .inr (.inl m_rows)))) {r : Int64 × Int32} (hf : f_X9_claim m_thrown m_now m_rows p1 = some r) : zM w yX9_claim cX9_claim 2 (some .long) (zr 5 150) false N N h [.ref (zo w + a), .int p1] (some (.long r.1)) (zu h a [(0, .inr (9, [.int r.2, .ref (zo w + (a + 1)), .ref (zo w + (a + 2)), .ref (zo w + (a + 3)), .int m_now, .int m_undoable, .ref (zo w + (a + 4)), .int m_bytes, .int m_errorAt, .int m_size, .int m_next, .int m_error, .int m_place, .int m_began, .int m_nested, .int m_once, .ref (zo w + (a + 5))]))]) := by
  unfold f_X9_claim at hf
  refine zM_of (by decide) rfl (fun X C _ => ?_)
  refine z_eq (h' := (zu h a [(0, .inr (9, [.int m_thrown, .ref (zo w + (a + 1)), .ref (zo w + (a + 2)), .ref (zo w + (a + 3)), .int m_now, .int m_undoable, .ref (zo w + (a + 4)), .int m_bytes, .int m_errorAt, .int m_size, .int m_next, .int m_error, .int m_place, .int m_began, .int m_nested, .int m_once, .ref (zo w + (a + 5))]))])) (zu_s h_a0 zu_0).symm ?_
  have n_a0 := h_a0.1
  refine z_pick (lv' := [(0, .ref (zo w + a)), (1, .int p1)]) [0, 1] rfl ?_
  refine z_aload_n (pc' := 1) C 0 dX9_claim_0 rfl rfl rfl ?_
  refine z_iload_n (pc' := 2) C 1 dX9_claim_1 rfl rfl rfl ?_
  refine z_cV (pc' := 5) C hf (As := [.int p1]) (fun hq => c_X9_isLien (a := a) (zc_i (o := 0) n_a0 rfl) (zc_o (o := 1) h_a1 rfl) hq) (fun q_2 => (zu h a [(0, .inr (9, [.int q_2.2, .ref (zo w + (a + 1)), .ref (zo w + (a + 2)), .ref (zo w + (a + 3)), .int m_now, .int m_undoable, .ref (zo w + (a + 4)), .int m_bytes, .int m_errorAt, .int m_size, .int m_next, .int m_error, .int m_place, .int m_began, .int m_nested, .int m_once, .ref (zo w + (a + 5))]))])) (fun q_2 => [.int q_2.1]) (fun _ => zu_sh (d := 0) rfl rfl) (fun _ => rfl) zy_X9_isLien zw_1602 zw_1604 zv_72 (ci := 9) rfl (zc_i (o := 0) n_a0 rfl) ⟨rfl, rfl⟩ rfl rfl rfl rfl rfl dX9_claim_2 rfl (fun q_2 hf => ?_)
  refine z_if_eq (pc' := 8) C 16 hf dX9_claim_5 rfl rfl (fun g_5 hf => ?_) (fun g_5 hf => ?_)
  · refine z_lconst (pc' := 17) C dX9_claim_16 zl_0 rfl ?_
    cases hf
    exact z_lret C rfl rfl dX9_claim_17
  · refine z_aload_n (pc' := 9) C 0 dX9_claim_8 rfl rfl rfl ?_
    refine z_iload_n (pc' := 10) C 1 dX9_claim_9 rfl rfl rfl ?_
    refine z_cV (pc' := 13) C hf (As := [.int p1]) (fun hq => c_X9_claimOf (a := a) (zc_i (o := 0) n_a0 rfl) (zc_o (o := 1) h_a1 rfl) hq) (fun _ => (zu h a [(0, .inr (9, [.int q_2.2, .ref (zo w + (a + 1)), .ref (zo w + (a + 2)), .ref (zo w + (a + 3)), .int m_now, .int m_undoable, .ref (zo w + (a + 4)), .int m_bytes, .int m_errorAt, .int m_size, .int m_next, .int m_error, .int m_place, .int m_began, .int m_nested, .int m_once, .ref (zo w + (a + 5))]))])) (fun q_10 => [.long q_10]) (fun _ => rfl) (fun _ => rfl) zy_X9_claimOf zw_1606 zw_1608 zv_73 (ci := 9) rfl (zc_i (o := 0) n_a0 rfl) ⟨rfl, rfl⟩ rfl rfl rfl rfl rfl dX9_claim_10 rfl (fun q_10 hf => ?_)
    refine z_goto C 17 dX9_claim_13 rfl ?_
    cases hf
    exact z_lret C rfl rfl dX9_claim_17
set_option maxRecDepth 20000 in
theorem c_X9_rankOf {w : zV} {N : Nat} {h : zH} {a : Nat} {m_thrown : Int32} {m_next : Int32} {m_error : Int32} {m_place : Int32} {m_began : Int32} {m_nested : Int32} {m_once : Int32} {m_now : Int32} {m_undoable : Int32} {m_bytes : Int32} {m_errorAt : Int32} {m_size : Int32} {m_rows : Nat → Int64} {p1 : Int32} (h_a0 : zc N h (a + 0) (.inr (9, [.int m_thrown, .ref (zo w + (a + 1)), .ref (zo w + (a + 2)), .ref (zo w + (a + 3)), .int m_now, .int m_undoable, .ref (zo w + (a + 4)), .int m_bytes, .int m_errorAt, .int m_size, .int m_next, .int m_error, .int m_place, .int m_began, .int m_nested, .int m_once, .ref (zo w + (a + 5))]))) (h_a1 : zc N h (a + 1) (.inl (w.2.2.1 1, 22500, .inr (.inl m_rows)))) {r : Int64} (hf : f_X9_rankOf m_now m_rows p1 = some r) : zM w yX9_rankOf cX9_rankOf 2 (some .long) (zr 2 58) false N N h [.ref (zo w + a), .int p1] (some (.long r)) h := by
  unfold f_X9_rankOf at hf
  refine zM_of (by decide) rfl (fun X C _ => ?_)
  refine z_pick (lv' := [(0, .ref (zo w + a)), (1, .int p1)]) [0, 1] rfl ?_
  refine z_aload_n (pc' := 1) C 0 dX9_rankOf_0 rfl rfl rfl ?_
  refine z_aload_n (pc' := 2) C 0 dX9_rankOf_1 rfl rfl rfl ?_
  refine z_aload_n (pc' := 3) C 0 dX9_rankOf_2 rfl rfl rfl ?_
  refine z_iload_n (pc' := 4) C 1 dX9_rankOf_3 rfl rfl rfl ?_
  refine z_cS (pc' := 7) C hf (As := [.int p1]) (fun hq => c_X9_lien  hq) (fun _ => h) (fun q_4 => [.int q_4, .ref (zo w + a), .ref (zo w + a), .ref (zo w + a)]) (fun _ => rfl) (fun _ => rfl) zy_X9_lien zw_1610 zw_1611 ⟨rfl, rfl⟩ rfl rfl rfl rfl rfl dX9_rankOf_4 rfl (fun q_4 hf => ?_)
  refine z_cV (pc' := 10) C hf (As := [.int q_4]) (fun hq => c_X9_small (a := a) h_a0 h_a1 hq) (fun _ => h) (fun q_7 => [.int q_7, .ref (zo w + a), .ref (zo w + a)]) (fun _ => rfl) (fun _ => rfl) zy_X9_small zw_1357 zw_1359 zv_45 (ci := 9) rfl h_a0 ⟨rfl, rfl⟩ rfl rfl rfl rfl rfl dX9_rankOf_7 rfl (fun q_7 hf => ?_)
  refine z_cV (pc' := 13) C hf (As := [.int q_7]) (fun hq => c_X9_at (a := a)  hq) (fun _ => h) (fun q_10 => [.int q_10, .ref (zo w + a)]) (fun _ => rfl) (fun _ => rfl) zy_X9_at zw_1381 zw_1383 zv_47 (ci := 9) rfl h_a0 ⟨rfl, rfl⟩ rfl rfl rfl rfl rfl dX9_rankOf_10 rfl (fun q_10 hf => ?_)
  refine z_iconst (pc' := 14) C dX9_rankOf_13 zk_iconst_4 rfl ?_
  refine z_iadd (pc' := 15) C dX9_rankOf_14 rfl ?_
  refine z_cV (pc' := 18) C hf (As := [.int (q_10 + (4 : Int32))]) (fun hq => c_X9_get (a := a) h_a0 h_a1 hq) (fun _ => h) (fun q_15 => [.long q_15]) (fun _ => rfl) (fun _ => rfl) zy_X9_get zw_1349 zw_1351 zv_43 (ci := 9) rfl h_a0 ⟨rfl, rfl⟩ rfl rfl rfl rfl rfl dX9_rankOf_15 rfl (fun q_15 hf => ?_)
  cases hf
  exact z_lret C rfl rfl dX9_rankOf_18
set_option maxRecDepth 20000 in
theorem c_X9_isAhead {w : zV} {N : Nat} {h : zH} {a : Nat} {m_thrown : Int32} {m_next : Int32} {m_error : Int32} {m_place : Int32} {m_began : Int32} {m_nested : Int32} {m_once : Int32} {m_now : Int32} {m_undoable : Int32} {m_bytes : Int32} {m_errorAt : Int32} {m_size : Int32} {m_rows : Nat → Int64} {p1 : Int32} {p2 : Int32} (h_a0 : zc N h (a + 0) (.inr (9, [.int m_thrown, .ref (zo w + (a + 1)), .ref (zo w + (a + 2)), .ref (zo w + (a + 3)), .int m_now, .int m_undoable, .ref (zo w + (a + 4)), .int m_bytes, .int m_errorAt, .int m_size, .int m_next, .int m_error, .int m_place, .int m_began, .int m_nested, .int m_once, .ref (zo w + (a + 5))]))) (h_a1 : zc N h (a + 1) (.inl (w.2.2.1 1, 22500, .inr (.inl m_rows)))) {r : Int32} (hf : f_X9_isAhead m_now m_rows p1 p2 = some r) : zM w yX9_isAhead cX9_isAhead 3 (some .boolean) (zr 3 87) false N N h [.ref (zo w + a), .int p1, .int p2] (some (.int r)) h := by
  unfold f_X9_isAhead at hf
  refine zM_of (by decide) rfl (fun X C _ => ?_)
  refine z_pick (lv' := [(0, .ref (zo w + a)), (1, .int p1), (2, .int p2)]) [0, 1, 2] rfl ?_
  refine z_aload_n (pc' := 1) C 0 dX9_isAhead_0 rfl rfl rfl ?_
  refine z_iload_n (pc' := 2) C 1 dX9_isAhead_1 rfl rfl rfl ?_
  refine z_cV (pc' := 5) C hf (As := [.int p1]) (fun hq => c_X9_rankOf (a := a) h_a0 h_a1 hq) (fun _ => h) (fun q_2 => [.long q_2]) (fun _ => rfl) (fun _ => rfl) zy_X9_rankOf zw_1625 zw_1627 zv_76 (ci := 9) rfl h_a0 ⟨rfl, rfl⟩ rfl rfl rfl rfl rfl dX9_isAhead_2 rfl (fun q_2 hf => ?_)
  refine z_aload_n (pc' := 6) C 0 dX9_isAhead_5 rfl rfl rfl ?_
  refine z_iload_n (pc' := 7) C 2 dX9_isAhead_6 rfl rfl rfl ?_
  refine z_cV (pc' := 10) C hf (As := [.int p2]) (fun hq => c_X9_rankOf (a := a) h_a0 h_a1 hq) (fun _ => h) (fun q_7 => [.long q_7, .long q_2]) (fun _ => rfl) (fun _ => rfl) zy_X9_rankOf zw_1625 zw_1627 zv_76 (ci := 9) rfl h_a0 ⟨rfl, rfl⟩ rfl rfl rfl rfl rfl dX9_isAhead_7 rfl (fun q_7 hf => ?_)
  refine z_lcmp_eq (pc' := 14) C 34 hf dX9_isAhead_10 rfl dX9_isAhead_11 rfl rfl (fun g_10 hf => ?_) (fun g_10 hf => ?_)
  · refine z_aload_n (pc' := 35) C 0 dX9_isAhead_34 rfl rfl rfl ?_
    refine z_iload_n (pc' := 36) C 1 dX9_isAhead_35 rfl rfl rfl ?_
    refine z_cS (pc' := 39) C hf (As := [.int p1]) (fun hq => c_X9_lien  hq) (fun _ => h) (fun q_36 => [.int q_36, .ref (zo w + a)]) (fun _ => rfl) (fun _ => rfl) zy_X9_lien zw_1610 zw_1611 ⟨rfl, rfl⟩ rfl rfl rfl rfl rfl dX9_isAhead_36 rfl (fun q_36 hf => ?_)
    refine z_iconst (pc' := 40) C dX9_isAhead_39 zk_iconst_2 rfl ?_
    refine z_iadd (pc' := 41) C dX9_isAhead_40 rfl ?_
    refine z_cV (pc' := 44) C hf (As := [.int (q_36 + (2 : Int32))]) (fun hq => c_X9_get (a := a) h_a0 h_a1 hq) (fun _ => h) (fun q_41 => [.long q_41]) (fun _ => rfl) (fun _ => rfl) zy_X9_get zw_1349 zw_1351 zv_43 (ci := 9) rfl h_a0 ⟨rfl, rfl⟩ rfl rfl rfl rfl rfl dX9_isAhead_41 rfl (fun q_41 hf => ?_)
    refine z_aload_n (pc' := 45) C 0 dX9_isAhead_44 rfl rfl rfl ?_
    refine z_iload_n (pc' := 46) C 2 dX9_isAhead_45 rfl rfl rfl ?_
    refine z_cS (pc' := 49) C hf (As := [.int p2]) (fun hq => c_X9_lien  hq) (fun _ => h) (fun q_46 => [.int q_46, .ref (zo w + a), .long q_41]) (fun _ => rfl) (fun _ => rfl) zy_X9_lien zw_1610 zw_1611 ⟨rfl, rfl⟩ rfl rfl rfl rfl rfl dX9_isAhead_46 rfl (fun q_46 hf => ?_)
    refine z_iconst (pc' := 50) C dX9_isAhead_49 zk_iconst_2 rfl ?_
    refine z_iadd (pc' := 51) C dX9_isAhead_50 rfl ?_
    refine z_cV (pc' := 54) C hf (As := [.int (q_46 + (2 : Int32))]) (fun hq => c_X9_get (a := a) h_a0 h_a1 hq) (fun _ => h) (fun q_51 => [.long q_51, .long q_41]) (fun _ => rfl) (fun _ => rfl) zy_X9_get zw_1349 zw_1351 zv_43 (ci := 9) rfl h_a0 ⟨rfl, rfl⟩ rfl rfl rfl rfl rfl dX9_isAhead_51 rfl (fun q_51 hf => ?_)
    refine z_lcmp_ne (pc' := 58) C 71 hf dX9_isAhead_54 rfl dX9_isAhead_55 rfl rfl (fun g_54 hf => ?_) (fun g_54 hf => ?_)
    · refine z_aload_n (pc' := 72) C 0 dX9_isAhead_71 rfl rfl rfl ?_
      refine z_iload_n (pc' := 73) C 1 dX9_isAhead_72 rfl rfl rfl ?_
      refine z_cS (pc' := 76) C hf (As := [.int p1]) (fun hq => c_X9_lien  hq) (fun _ => h) (fun q_73 => [.int q_73, .ref (zo w + a)]) (fun _ => rfl) (fun _ => rfl) zy_X9_lien zw_1610 zw_1611 ⟨rfl, rfl⟩ rfl rfl rfl rfl rfl dX9_isAhead_73 rfl (fun q_73 hf => ?_)
      refine z_iconst (pc' := 77) C dX9_isAhead_76 zk_iconst_2 rfl ?_
      refine z_iadd (pc' := 78) C dX9_isAhead_77 rfl ?_
      refine z_cV (pc' := 81) C hf (As := [.int (q_73 + (2 : Int32))]) (fun hq => c_X9_get (a := a) h_a0 h_a1 hq) (fun _ => h) (fun q_78 => [.long q_78]) (fun _ => rfl) (fun _ => rfl) zy_X9_get zw_1349 zw_1351 zv_43 (ci := 9) rfl h_a0 ⟨rfl, rfl⟩ rfl rfl rfl rfl rfl dX9_isAhead_78 rfl (fun q_78 hf => ?_)
      refine z_aload_n (pc' := 82) C 0 dX9_isAhead_81 rfl rfl rfl ?_
      refine z_iload_n (pc' := 83) C 2 dX9_isAhead_82 rfl rfl rfl ?_
      refine z_cS (pc' := 86) C hf (As := [.int p2]) (fun hq => c_X9_lien  hq) (fun _ => h) (fun q_83 => [.int q_83, .ref (zo w + a), .long q_78]) (fun _ => rfl) (fun _ => rfl) zy_X9_lien zw_1610 zw_1611 ⟨rfl, rfl⟩ rfl rfl rfl rfl rfl dX9_isAhead_83 rfl (fun q_83 hf => ?_)
      refine z_iconst (pc' := 87) C dX9_isAhead_86 zk_iconst_2 rfl ?_
      refine z_iadd (pc' := 88) C dX9_isAhead_87 rfl ?_
      refine z_cV (pc' := 91) C hf (As := [.int (q_83 + (2 : Int32))]) (fun hq => c_X9_get (a := a) h_a0 h_a1 hq) (fun _ => h) (fun q_88 => [.long q_88, .long q_78]) (fun _ => rfl) (fun _ => rfl) zy_X9_get zw_1349 zw_1351 zv_43 (ci := 9) rfl h_a0 ⟨rfl, rfl⟩ rfl rfl rfl rfl rfl dX9_isAhead_88 rfl (fun q_88 hf => ?_)
      refine z_lcmp_ge (pc' := 95) C 99 hf dX9_isAhead_91 rfl dX9_isAhead_92 rfl rfl (fun g_91 hf => ?_) (fun g_91 hf => ?_)
      · refine z_iconst (pc' := 100) C dX9_isAhead_99 zk_iconst_0 rfl ?_
        cases hf
        exact z_zret C zb_0 rfl rfl dX9_isAhead_100
      · refine z_iconst (pc' := 96) C dX9_isAhead_95 zk_iconst_1 rfl ?_
        refine z_goto C 100 dX9_isAhead_96 rfl ?_
        cases hf
        exact z_zret C zb_1 rfl rfl dX9_isAhead_100
    · refine z_iload_n (pc' := 59) C 1 dX9_isAhead_58 rfl rfl rfl ?_
      refine z_iload_n (pc' := 60) C 2 dX9_isAhead_59 rfl rfl rfl ?_
      refine z_icmp_ge (pc' := 63) C 67 hf dX9_isAhead_60 rfl rfl (fun g_60 hf => ?_) (fun g_60 hf => ?_)
      · refine z_iconst (pc' := 68) C dX9_isAhead_67 zk_iconst_0 rfl ?_
        refine z_goto C 100 dX9_isAhead_68 rfl ?_
        cases hf
        exact z_zret C zb_0 rfl rfl dX9_isAhead_100
      · refine z_iconst (pc' := 64) C dX9_isAhead_63 zk_iconst_1 rfl ?_
        refine z_goto C 100 dX9_isAhead_64 rfl ?_
        cases hf
        exact z_zret C zb_1 rfl rfl dX9_isAhead_100
  · refine z_aload_n (pc' := 15) C 0 dX9_isAhead_14 rfl rfl rfl ?_
    refine z_iload_n (pc' := 16) C 1 dX9_isAhead_15 rfl rfl rfl ?_
    refine z_cV (pc' := 19) C hf (As := [.int p1]) (fun hq => c_X9_rankOf (a := a) h_a0 h_a1 hq) (fun _ => h) (fun q_16 => [.long q_16]) (fun _ => rfl) (fun _ => rfl) zy_X9_rankOf zw_1625 zw_1627 zv_76 (ci := 9) rfl h_a0 ⟨rfl, rfl⟩ rfl rfl rfl rfl rfl dX9_isAhead_16 rfl (fun q_16 hf => ?_)
    refine z_aload_n (pc' := 20) C 0 dX9_isAhead_19 rfl rfl rfl ?_
    refine z_iload_n (pc' := 21) C 2 dX9_isAhead_20 rfl rfl rfl ?_
    refine z_cV (pc' := 24) C hf (As := [.int p2]) (fun hq => c_X9_rankOf (a := a) h_a0 h_a1 hq) (fun _ => h) (fun q_21 => [.long q_21, .long q_16]) (fun _ => rfl) (fun _ => rfl) zy_X9_rankOf zw_1625 zw_1627 zv_76 (ci := 9) rfl h_a0 ⟨rfl, rfl⟩ rfl rfl rfl rfl rfl dX9_isAhead_21 rfl (fun q_21 hf => ?_)
    refine z_lcmp_ge (pc' := 28) C 32 hf dX9_isAhead_24 rfl dX9_isAhead_25 rfl rfl (fun g_24 hf => ?_) (fun g_24 hf => ?_)
    · refine z_iconst (pc' := 33) C dX9_isAhead_32 zk_iconst_0 rfl ?_
      cases hf
      exact z_zret C zb_0 rfl rfl dX9_isAhead_33
    · refine z_iconst (pc' := 29) C dX9_isAhead_28 zk_iconst_1 rfl ?_
      refine z_goto C 33 dX9_isAhead_29 rfl ?_
      cases hf
      exact z_zret C zb_1 rfl rfl dX9_isAhead_33
set_option maxRecDepth 20000 in
theorem w_X9_placeOf_4 {X : zC} {w : zV} {N : Nat} {h : zH} {a : Nat} {m_thrown : Int32} {m_next : Int32} {m_error : Int32} {m_place : Int32} {m_began : Int32} {m_nested : Int32} {m_once : Int32} {m_now : Int32} {m_undoable : Int32} {m_bytes : Int32} {m_errorAt : Int32} {m_size : Int32} {m_rows : Nat → Int64} (C : zK X w RX9 cX9_placeOf 4 (some .int) (zr 4 117)) (h_a0 : zc N h (a + 0) (.inr (9, [.int m_thrown, .ref (zo w + (a + 1)), .ref (zo w + (a + 2)), .ref (zo w + (a + 3)), .int m_now, .int m_undoable, .ref (zo w + (a + 4)), .int m_bytes, .int m_errorAt, .int m_size, .int m_next, .int m_error, .int m_place, .int m_began, .int m_nested, .int m_once, .ref (zo w + (a + 5))]))) (h_a1 : zc N h (a + 1) (.inl (w.2.2.1 1, 22500, .inr (.inl m_rows)))) {r : Int32} (n : Nat) : ∀ {x1 : Int32} {x2 : Int32} {x3 : Int32}, f_X9_placeOf_4  n m_now m_rows x1 x2 x3 = some r → zZ X w (zQ X w (zr 4 117) (some (.int r)) false N h) 0 0 false N h 4 [(0, .ref (zo w + a)), (1, .int x1), (2, .int x2), (3, .int x3)] [] := by
  induction n with
  | zero =>
    intro x1 x2 x3 hf
    have hf : (none : Option (Int32)) = some r := hf
    cases hf
  | succ z ih =>
    intro x1 x2 x3 hf
    rw [f_X9_placeOf_4] at hf
    refine z_iload_n (pc' := 5) C 3 dX9_placeOf_4 rfl rfl rfl ?_
    refine z_i2l (pc' := 6) C dX9_placeOf_5 rfl ?_
    refine z_aload_n (pc' := 7) C 0 dX9_placeOf_6 rfl rfl rfl ?_
    refine z_bipush (pc' := 9) C dX9_placeOf_7 zk_bipush_6 rfl ?_
    refine z_cV (pc' := 12) C hf (As := [.int (6 : Int32)]) (fun hq => c_X9_get (a := a) h_a0 h_a1 hq) (fun _ => h) (fun q_9 => [.long q_9, .long (x3).toInt64]) (fun _ => rfl) (fun _ => rfl) zy_X9_get zw_1349 zw_1351 zv_43 (ci := 9) rfl h_a0 ⟨rfl, rfl⟩ rfl rfl rfl rfl rfl dX9_placeOf_9 rfl (fun q_9 hf => ?_)
    refine z_lcmp_ge (pc' := 16) C 44 hf dX9_placeOf_12 rfl dX9_placeOf_13 rfl rfl (fun g_12 hf => ?_) (fun g_12 hf => ?_)
    · refine z_iload_n (pc' := 45) C 2 dX9_placeOf_44 rfl rfl rfl ?_
      cases hf
      exact z_iret C rfl rfl dX9_placeOf_45
    · refine z_iload_n (pc' := 17) C 2 dX9_placeOf_16 rfl rfl rfl ?_
      refine z_iload_n (pc' := 18) C 3 dX9_placeOf_17 rfl rfl rfl ?_
      refine z_iload_n (pc' := 19) C 1 dX9_placeOf_18 rfl rfl rfl ?_
      refine z_icmp_eq (pc' := 22) C 35 hf dX9_placeOf_19 rfl rfl (fun g_19 hf => ?_) (fun g_19 hf => ?_)
      · refine z_iconst (pc' := 36) C dX9_placeOf_35 zk_iconst_0 rfl ?_
        refine z_iadd (pc' := 37) C dX9_placeOf_36 rfl ?_
        refine z_istore_n (pc' := 38) C [(2, .int (x2 + (0 : Int32))), (0, .ref (zo w + a)), (1, .int x1), (3, .int x3)] dX9_placeOf_37 rfl rfl rfl rfl ?_
        refine z_iinc (pc' := 41) C 3 [(3, .int (x3 + (1 : Int32))), (2, .int (x2 + (0 : Int32))), (0, .ref (zo w + a)), (1, .int x1)] dX9_placeOf_38 rfl zk_iconst_1 rfl rfl rfl ?_
        refine z_goto C 4 dX9_placeOf_41 rfl ?_
        refine z_pick (lv' := [(0, .ref (zo w + a)), (1, .int x1), (2, .int (x2 + (0 : Int32))), (3, .int (x3 + (1 : Int32)))]) [2, 3, 1, 0] rfl ?_
        exact ih hf
      · refine z_aload_n (pc' := 23) C 0 dX9_placeOf_22 rfl rfl rfl ?_
        refine z_iload_n (pc' := 24) C 3 dX9_placeOf_23 rfl rfl rfl ?_
        refine z_iload_n (pc' := 25) C 1 dX9_placeOf_24 rfl rfl rfl ?_
        refine z_cV (pc' := 28) C hf (As := [.int x3, .int x1]) (fun hq => c_X9_isAhead (a := a) h_a0 h_a1 hq) (fun _ => h) (fun q_25 => [.int q_25, .int x2]) (fun _ => rfl) (fun _ => rfl) zy_X9_isAhead zw_1621 zw_1623 zv_75 (ci := 9) rfl h_a0 ⟨rfl, rfl⟩ rfl rfl rfl rfl rfl dX9_placeOf_25 rfl (fun q_25 hf => ?_)
        refine z_if_eq (pc' := 31) C 35 hf dX9_placeOf_28 rfl rfl (fun g_28 hf => ?_) (fun g_28 hf => ?_)
        · refine z_iconst (pc' := 36) C dX9_placeOf_35 zk_iconst_0 rfl ?_
          refine z_iadd (pc' := 37) C dX9_placeOf_36 rfl ?_
          refine z_istore_n (pc' := 38) C [(2, .int (x2 + (0 : Int32))), (0, .ref (zo w + a)), (1, .int x1), (3, .int x3)] dX9_placeOf_37 rfl rfl rfl rfl ?_
          refine z_iinc (pc' := 41) C 3 [(3, .int (x3 + (1 : Int32))), (2, .int (x2 + (0 : Int32))), (0, .ref (zo w + a)), (1, .int x1)] dX9_placeOf_38 rfl zk_iconst_1 rfl rfl rfl ?_
          refine z_goto C 4 dX9_placeOf_41 rfl ?_
          refine z_pick (lv' := [(0, .ref (zo w + a)), (1, .int x1), (2, .int (x2 + (0 : Int32))), (3, .int (x3 + (1 : Int32)))]) [2, 3, 1, 0] rfl ?_
          exact ih hf
        · refine z_iconst (pc' := 32) C dX9_placeOf_31 zk_iconst_1 rfl ?_
          refine z_goto C 36 dX9_placeOf_32 rfl ?_
          refine z_iadd (pc' := 37) C dX9_placeOf_36 rfl ?_
          refine z_istore_n (pc' := 38) C [(2, .int (x2 + (1 : Int32))), (0, .ref (zo w + a)), (1, .int x1), (3, .int x3)] dX9_placeOf_37 rfl rfl rfl rfl ?_
          refine z_iinc (pc' := 41) C 3 [(3, .int (x3 + (1 : Int32))), (2, .int (x2 + (1 : Int32))), (0, .ref (zo w + a)), (1, .int x1)] dX9_placeOf_38 rfl zk_iconst_1 rfl rfl rfl ?_
          refine z_goto C 4 dX9_placeOf_41 rfl ?_
          refine z_pick (lv' := [(0, .ref (zo w + a)), (1, .int x1), (2, .int (x2 + (1 : Int32))), (3, .int (x3 + (1 : Int32)))]) [2, 3, 1, 0] rfl ?_
          exact ih hf
set_option maxRecDepth 20000 in
theorem c_X9_placeOf {w : zV} {N : Nat} {h : zH} {a : Nat} {m_thrown : Int32} {m_next : Int32} {m_error : Int32} {m_place : Int32} {m_began : Int32} {m_nested : Int32} {m_once : Int32} {m_now : Int32} {m_undoable : Int32} {m_bytes : Int32} {m_errorAt : Int32} {m_size : Int32} {m_rows : Nat → Int64} {p1 : Int32} (h_a0 : zc N h (a + 0) (.inr (9, [.int m_thrown, .ref (zo w + (a + 1)), .ref (zo w + (a + 2)), .ref (zo w + (a + 3)), .int m_now, .int m_undoable, .ref (zo w + (a + 4)), .int m_bytes, .int m_errorAt, .int m_size, .int m_next, .int m_error, .int m_place, .int m_began, .int m_nested, .int m_once, .ref (zo w + (a + 5))]))) (h_a1 : zc N h (a + 1) (.inl (w.2.2.1 1, 22500, .inr (.inl m_rows)))) {r : Int32} (hf : f_X9_placeOf m_now m_rows p1 = some r) : zM w yX9_placeOf cX9_placeOf 4 (some .int) (zr 4 117) false N N h [.ref (zo w + a), .int p1] (some (.int r)) h := by
  unfold f_X9_placeOf at hf
  refine zM_of (by decide) rfl (fun X C _ => ?_)
  refine z_pick (lv' := [(0, .ref (zo w + a)), (1, .int p1)]) [0, 1] rfl ?_
  refine z_iconst (pc' := 1) C dX9_placeOf_0 zk_iconst_0 rfl ?_
  refine z_istore_n (pc' := 2) C [(2, .int (0 : Int32)), (0, .ref (zo w + a)), (1, .int p1)] dX9_placeOf_1 rfl rfl rfl rfl ?_
  refine z_iconst (pc' := 3) C dX9_placeOf_2 zk_iconst_0 rfl ?_
  refine z_istore_n (pc' := 4) C [(3, .int (0 : Int32)), (2, .int (0 : Int32)), (0, .ref (zo w + a)), (1, .int p1)] dX9_placeOf_3 rfl rfl rfl rfl ?_
  refine z_pick (lv' := [(0, .ref (zo w + a)), (1, .int p1), (2, .int (0 : Int32)), (3, .int (0 : Int32))]) [2, 3, 1, 0] rfl ?_
  exact w_X9_placeOf_4 C h_a0 h_a1  FU hf
set_option maxRecDepth 20000 in
theorem w_X9_priority_14 {X : zC} {w : zV} {N : Nat} {h : zH} {a : Nat} {m_next : Int32} {m_error : Int32} {m_place : Int32} {m_began : Int32} {m_nested : Int32} {m_once : Int32} {m_now : Int32} {m_undoable : Int32} {m_bytes : Int32} {m_errorAt : Int32} {m_size : Int32} {m_rows : Nat → Int64} (C : zK X w RX9 cX9_priority 4 (some .int) (zr 5 148)) (n_a0 : a + 0 < N) (h_a1 : zc N h (a + 1) (.inl (w.2.2.1 1, 22500, .inr (.inl m_rows)))) {r : Int32 × Int32} (n : Nat) : ∀ {m_thrown : Int32} {x1 : Int32} {x2 : Int32} {x3 : Int32}, f_X9_priority_14  n m_thrown m_now m_rows x1 x2 x3 = some r → zZ X w (zQ X w (zr 5 148) (some (.int r.1)) false N (zu h a [(0, .inr (9, [.int r.2, .ref (zo w + (a + 1)), .ref (zo w + (a + 2)), .ref (zo w + (a + 3)), .int m_now, .int m_undoable, .ref (zo w + (a + 4)), .int m_bytes, .int m_errorAt, .int m_size, .int m_next, .int m_error, .int m_place, .int m_began, .int m_nested, .int m_once, .ref (zo w + (a + 5))]))])) 0 0 false N (zu h a [(0, .inr (9, [.int m_thrown, .ref (zo w + (a + 1)), .ref (zo w + (a + 2)), .ref (zo w + (a + 3)), .int m_now, .int m_undoable, .ref (zo w + (a + 4)), .int m_bytes, .int m_errorAt, .int m_size, .int m_next, .int m_error, .int m_place, .int m_began, .int m_nested, .int m_once, .ref (zo w + (a + 5))]))]) 14 [(0, .ref (zo w + a)), (1, .int x1), (2, .int x2), (3, .int x3)] [] := by
  induction n with
  | zero =>
    intro m_thrown x1 x2 x3 hf
    have hf : (none : Option (Int32 × Int32)) = some r := hf
    cases hf
  | succ z ih =>
    intro m_thrown x1 x2 x3 hf
    rw [f_X9_priority_14] at hf
    refine z_iload_n (pc' := 15) C 3 dX9_priority_14 rfl rfl rfl ?_
    refine z_i2l (pc' := 16) C dX9_priority_15 rfl ?_
    refine z_aload_n (pc' := 17) C 0 dX9_priority_16 rfl rfl rfl ?_
    refine z_bipush (pc' := 19) C dX9_priority_17 zk_bipush_6 rfl ?_
    refine z_cV (pc' := 22) C hf (As := [.int (6 : Int32)]) (fun hq => c_X9_get (a := a) (zc_i (o := 0) n_a0 rfl) (zc_o (o := 1) h_a1 rfl) hq) (fun _ => (zu h a [(0, .inr (9, [.int m_thrown, .ref (zo w + (a + 1)), .ref (zo w + (a + 2)), .ref (zo w + (a + 3)), .int m_now, .int m_undoable, .ref (zo w + (a + 4)), .int m_bytes, .int m_errorAt, .int m_size, .int m_next, .int m_error, .int m_place, .int m_began, .int m_nested, .int m_once, .ref (zo w + (a + 5))]))])) (fun q_19 => [.long q_19, .long (x3).toInt64]) (fun _ => rfl) (fun _ => rfl) zy_X9_get zw_1349 zw_1351 zv_43 (ci := 9) rfl (zc_i (o := 0) n_a0 rfl) ⟨rfl, rfl⟩ rfl rfl rfl rfl rfl dX9_priority_19 rfl (fun q_19 hf => ?_)
    refine z_lcmp_ge (pc' := 26) C 47 hf dX9_priority_22 rfl dX9_priority_23 rfl rfl (fun g_22 hf => ?_) (fun g_22 hf => ?_)
    · refine z_iload_n (pc' := 48) C 2 dX9_priority_47 rfl rfl rfl ?_
      cases hf
      exact z_iret C rfl rfl dX9_priority_48
    · refine z_aload_n (pc' := 27) C 0 dX9_priority_26 rfl rfl rfl ?_
      refine z_iload_n (pc' := 28) C 3 dX9_priority_27 rfl rfl rfl ?_
      refine z_cV (pc' := 31) C hf (As := [.int x3]) (fun hq => c_X9_placeOf (a := a) (zc_i (o := 0) n_a0 rfl) (zc_o (o := 1) h_a1 rfl) hq) (fun _ => (zu h a [(0, .inr (9, [.int m_thrown, .ref (zo w + (a + 1)), .ref (zo w + (a + 2)), .ref (zo w + (a + 3)), .int m_now, .int m_undoable, .ref (zo w + (a + 4)), .int m_bytes, .int m_errorAt, .int m_size, .int m_next, .int m_error, .int m_place, .int m_began, .int m_nested, .int m_once, .ref (zo w + (a + 5))]))])) (fun q_28 => [.int q_28]) (fun _ => rfl) (fun _ => rfl) zy_X9_placeOf zw_1617 zw_1619 zv_74 (ci := 9) rfl (zc_i (o := 0) n_a0 rfl) ⟨rfl, rfl⟩ rfl rfl rfl rfl rfl dX9_priority_28 rfl (fun q_28 hf => ?_)
      refine z_iload_n (pc' := 32) C 1 dX9_priority_31 rfl rfl rfl ?_
      refine z_icmp_ne (pc' := 35) C 39 hf dX9_priority_32 rfl rfl (fun g_32 hf => ?_) (fun g_32 hf => ?_)
      · refine z_iload_n (pc' := 40) C 2 dX9_priority_39 rfl rfl rfl ?_
        refine z_istore_n (pc' := 41) C [(2, .int x2), (0, .ref (zo w + a)), (1, .int x1), (3, .int x3)] dX9_priority_40 rfl rfl rfl rfl ?_
        refine z_iinc (pc' := 44) C 3 [(3, .int (x3 + (1 : Int32))), (2, .int x2), (0, .ref (zo w + a)), (1, .int x1)] dX9_priority_41 rfl zk_iconst_1 rfl rfl rfl ?_
        refine z_goto C 14 dX9_priority_44 rfl ?_
        refine z_pick (lv' := [(0, .ref (zo w + a)), (1, .int x1), (2, .int x2), (3, .int (x3 + (1 : Int32)))]) [2, 3, 1, 0] rfl ?_
        exact ih hf
      · refine z_iload_n (pc' := 36) C 3 dX9_priority_35 rfl rfl rfl ?_
        refine z_goto C 40 dX9_priority_36 rfl ?_
        refine z_istore_n (pc' := 41) C [(2, .int x3), (0, .ref (zo w + a)), (1, .int x1), (3, .int x3)] dX9_priority_40 rfl rfl rfl rfl ?_
        refine z_iinc (pc' := 44) C 3 [(3, .int (x3 + (1 : Int32))), (2, .int x3), (0, .ref (zo w + a)), (1, .int x1)] dX9_priority_41 rfl zk_iconst_1 rfl rfl rfl ?_
        refine z_goto C 14 dX9_priority_44 rfl ?_
        refine z_pick (lv' := [(0, .ref (zo w + a)), (1, .int x1), (2, .int x3), (3, .int (x3 + (1 : Int32)))]) [2, 3, 1, 0] rfl ?_
        exact ih hf
set_option maxRecDepth 20000 in
theorem c_X9_priority {w : zV} {N : Nat} {h : zH} {a : Nat} {m_thrown : Int32} {m_next : Int32} {m_error : Int32} {m_place : Int32} {m_began : Int32} {m_nested : Int32} {m_once : Int32} {m_now : Int32} {m_undoable : Int32} {m_bytes : Int32} {m_errorAt : Int32} {m_size : Int32} {m_rows : Nat → Int64} {p1 : Int32} (h_a0 : zc N h (a + 0) (.inr (9, [.int m_thrown, .ref (zo w + (a + 1)), .ref (zo w + (a + 2)), .ref (zo w + (a + 3)), .int m_now, .int m_undoable, .ref (zo w + (a + 4)), .int m_bytes, .int m_errorAt, .int m_size, .int m_next, .int m_error, .int m_place, .int m_began, .int m_nested, .int m_once, .ref (zo w + (a + 5))]))) (h_a1 : zc N h (a + 1) (.inl (w.2.2.1 1, 22500, .inr (.inl m_rows)))) {r : Int32 × Int32} (hf : f_X9_priority m_thrown m_now m_rows p1 = some r) : zM w yX9_priority cX9_priority 4 (some .int) (zr 5 148) false N N h [.ref (zo w + a), .int p1] (some (.int r.1)) (zu h a [(0, .inr (9, [.int r.2, .ref (zo w + (a + 1)), .ref (zo w + (a + 2)), .ref (zo w + (a + 3)), .int m_now, .int m_undoable, .ref (zo w + (a + 4)), .int m_bytes, .int m_errorAt, .int m_size, .int m_next, .int m_error, .int m_place, .int m_began, .int m_nested, .int m_once, .ref (zo w + (a + 5))]))]) := by
  unfold f_X9_priority at hf
  refine zM_of (by decide) rfl (fun X C _ => ?_)
  refine z_eq (h' := (zu h a [(0, .inr (9, [.int m_thrown, .ref (zo w + (a + 1)), .ref (zo w + (a + 2)), .ref (zo w + (a + 3)), .int m_now, .int m_undoable, .ref (zo w + (a + 4)), .int m_bytes, .int m_errorAt, .int m_size, .int m_next, .int m_error, .int m_place, .int m_began, .int m_nested, .int m_once, .ref (zo w + (a + 5))]))])) (zu_s h_a0 zu_0).symm ?_
  have n_a0 := h_a0.1
  refine z_pick (lv' := [(0, .ref (zo w + a)), (1, .int p1)]) [0, 1] rfl ?_
  refine z_aload_n (pc' := 1) C 0 dX9_priority_0 rfl rfl rfl ?_
  refine z_iload_n (pc' := 2) C 1 dX9_priority_1 rfl rfl rfl ?_
  refine z_cV (pc' := 5) C hf (As := [.int p1]) (fun hq => c_X9_isLien (a := a) (zc_i (o := 0) n_a0 rfl) (zc_o (o := 1) h_a1 rfl) hq) (fun q_2 => (zu h a [(0, .inr (9, [.int q_2.2, .ref (zo w + (a + 1)), .ref (zo w + (a + 2)), .ref (zo w + (a + 3)), .int m_now, .int m_undoable, .ref (zo w + (a + 4)), .int m_bytes, .int m_errorAt, .int m_size, .int m_next, .int m_error, .int m_place, .int m_began, .int m_nested, .int m_once, .ref (zo w + (a + 5))]))])) (fun q_2 => [.int q_2.1]) (fun _ => zu_sh (d := 0) rfl rfl) (fun _ => rfl) zy_X9_isLien zw_1602 zw_1604 zv_72 (ci := 9) rfl (zc_i (o := 0) n_a0 rfl) ⟨rfl, rfl⟩ rfl rfl rfl rfl rfl dX9_priority_2 rfl (fun q_2 hf => ?_)
  refine z_if_ne (pc' := 8) C 10 hf dX9_priority_5 rfl rfl (fun g_5 hf => ?_) (fun g_5 hf => ?_)
  · refine z_iconst (pc' := 11) C dX9_priority_10 zk_iconst_m1 rfl ?_
    refine z_istore_n (pc' := 12) C [(2, .int (-1 : Int32)), (0, .ref (zo w + a)), (1, .int p1)] dX9_priority_11 rfl rfl rfl rfl ?_
    refine z_iconst (pc' := 13) C dX9_priority_12 zk_iconst_0 rfl ?_
    refine z_istore_n (pc' := 14) C [(3, .int (0 : Int32)), (2, .int (-1 : Int32)), (0, .ref (zo w + a)), (1, .int p1)] dX9_priority_13 rfl rfl rfl rfl ?_
    refine z_pick (lv' := [(0, .ref (zo w + a)), (1, .int p1), (2, .int (-1 : Int32)), (3, .int (0 : Int32))]) [2, 3, 1, 0] rfl ?_
    exact w_X9_priority_14 C n_a0 h_a1  FU hf
  · refine z_iconst (pc' := 9) C dX9_priority_8 zk_iconst_0 rfl ?_
    cases hf
    exact z_iret C rfl rfl dX9_priority_9
set_option maxRecDepth 20000 in
theorem w_X9_claimsOf_5 {X : zC} {w : zV} {N : Nat} {h : zH} {a : Nat} {m_thrown : Int32} {m_next : Int32} {m_error : Int32} {m_place : Int32} {m_began : Int32} {m_nested : Int32} {m_once : Int32} {m_now : Int32} {m_undoable : Int32} {m_bytes : Int32} {m_errorAt : Int32} {m_size : Int32} {m_rows : Nat → Int64} (C : zK X w RX9 cX9_claimsOf 6 (some .long) (zr 5 150)) (h_a0 : zc N h (a + 0) (.inr (9, [.int m_thrown, .ref (zo w + (a + 1)), .ref (zo w + (a + 2)), .ref (zo w + (a + 3)), .int m_now, .int m_undoable, .ref (zo w + (a + 4)), .int m_bytes, .int m_errorAt, .int m_size, .int m_next, .int m_error, .int m_place, .int m_began, .int m_nested, .int m_once, .ref (zo w + (a + 5))]))) (h_a1 : zc N h (a + 1) (.inl (w.2.2.1 1, 22500, .inr (.inl m_rows)))) {r : Int64} (n : Nat) : ∀ {x1 : Int64} {x3 : Int64} {x5 : Int32}, f_X9_claimsOf_5  n m_now m_rows x1 x3 x5 = some r → zZ X w (zQ X w (zr 5 150) (some (.long r)) false N h) 0 0 false N h 5 [(0, .ref (zo w + a)), (1, .long x1), (3, .long x3), (5, .int x5)] [] := by
  induction n with
  | zero =>
    intro x1 x3 x5 hf
    have hf : (none : Option (Int64)) = some r := hf
    cases hf
  | succ z ih =>
    intro x1 x3 x5 hf
    rw [f_X9_claimsOf_5] at hf
    refine z_iload (pc' := 7) C 3 dX9_claimsOf_5 rfl rfl ?_
    refine z_i2l (pc' := 8) C dX9_claimsOf_7 rfl ?_
    refine z_aload_n (pc' := 9) C 0 dX9_claimsOf_8 rfl rfl rfl ?_
    refine z_bipush (pc' := 11) C dX9_claimsOf_9 zk_bipush_6 rfl ?_
    refine z_cV (pc' := 14) C hf (As := [.int (6 : Int32)]) (fun hq => c_X9_get (a := a) h_a0 h_a1 hq) (fun _ => h) (fun q_11 => [.long q_11, .long (x5).toInt64]) (fun _ => rfl) (fun _ => rfl) zy_X9_get zw_1349 zw_1351 zv_43 (ci := 9) rfl h_a0 ⟨rfl, rfl⟩ rfl rfl rfl rfl rfl dX9_claimsOf_11 rfl (fun q_11 hf => ?_)
    refine z_lcmp_ge (pc' := 18) C 48 hf dX9_claimsOf_14 rfl dX9_claimsOf_15 rfl rfl (fun g_14 hf => ?_) (fun g_14 hf => ?_)
    · refine z_lload_n (pc' := 49) C 2 dX9_claimsOf_48 rfl rfl rfl ?_
      cases hf
      exact z_lret C rfl rfl dX9_claimsOf_49
    · refine z_lload_n (pc' := 19) C 2 dX9_claimsOf_18 rfl rfl rfl ?_
      refine z_aload_n (pc' := 20) C 0 dX9_claimsOf_19 rfl rfl rfl ?_
      refine z_iload (pc' := 22) C 3 dX9_claimsOf_20 rfl rfl ?_
      refine z_cV (pc' := 25) C hf (As := [.int x5]) (fun hq => c_X9_rankOf (a := a) h_a0 h_a1 hq) (fun _ => h) (fun q_22 => [.long q_22, .long x3]) (fun _ => rfl) (fun _ => rfl) zy_X9_rankOf zw_1625 zw_1627 zv_76 (ci := 9) rfl h_a0 ⟨rfl, rfl⟩ rfl rfl rfl rfl rfl dX9_claimsOf_22 rfl (fun q_22 hf => ?_)
      refine z_lload_n (pc' := 26) C 1 dX9_claimsOf_25 rfl rfl rfl ?_
      refine z_lcmp_ne (pc' := 30) C 39 hf dX9_claimsOf_26 rfl dX9_claimsOf_27 rfl rfl (fun g_26 hf => ?_) (fun g_26 hf => ?_)
      · refine z_lconst (pc' := 40) C dX9_claimsOf_39 zl_0 rfl ?_
        refine z_ladd (pc' := 41) C dX9_claimsOf_40 rfl ?_
        refine z_lstore_n (pc' := 42) C [(3, .long (x3 + (0 : Int64))), (0, .ref (zo w + a)), (1, .long x1), (5, .int x5)] dX9_claimsOf_41 rfl rfl rfl rfl ?_
        refine z_iinc (pc' := 45) C 3 [(5, .int (x5 + (1 : Int32))), (3, .long (x3 + (0 : Int64))), (0, .ref (zo w + a)), (1, .long x1)] dX9_claimsOf_42 rfl zk_iconst_1 rfl rfl rfl ?_
        refine z_goto C 5 dX9_claimsOf_45 rfl ?_
        refine z_pick (lv' := [(0, .ref (zo w + a)), (1, .long x1), (3, .long (x3 + (0 : Int64))), (5, .int (x5 + (1 : Int32)))]) [2, 3, 1, 0] rfl ?_
        exact ih hf
      · refine z_aload_n (pc' := 31) C 0 dX9_claimsOf_30 rfl rfl rfl ?_
        refine z_iload (pc' := 33) C 3 dX9_claimsOf_31 rfl rfl ?_
        refine z_cV (pc' := 36) C hf (As := [.int x5]) (fun hq => c_X9_claimOf (a := a) h_a0 h_a1 hq) (fun _ => h) (fun q_33 => [.long q_33, .long x3]) (fun _ => rfl) (fun _ => rfl) zy_X9_claimOf zw_1606 zw_1608 zv_73 (ci := 9) rfl h_a0 ⟨rfl, rfl⟩ rfl rfl rfl rfl rfl dX9_claimsOf_33 rfl (fun q_33 hf => ?_)
        refine z_goto C 40 dX9_claimsOf_36 rfl ?_
        refine z_ladd (pc' := 41) C dX9_claimsOf_40 rfl ?_
        refine z_lstore_n (pc' := 42) C [(3, .long (x3 + q_33)), (0, .ref (zo w + a)), (1, .long x1), (5, .int x5)] dX9_claimsOf_41 rfl rfl rfl rfl ?_
        refine z_iinc (pc' := 45) C 3 [(5, .int (x5 + (1 : Int32))), (3, .long (x3 + q_33)), (0, .ref (zo w + a)), (1, .long x1)] dX9_claimsOf_42 rfl zk_iconst_1 rfl rfl rfl ?_
        refine z_goto C 5 dX9_claimsOf_45 rfl ?_
        refine z_pick (lv' := [(0, .ref (zo w + a)), (1, .long x1), (3, .long (x3 + q_33)), (5, .int (x5 + (1 : Int32)))]) [2, 3, 1, 0] rfl ?_
        exact ih hf
set_option maxRecDepth 20000 in
theorem c_X9_claimsOf {w : zV} {N : Nat} {h : zH} {a : Nat} {m_thrown : Int32} {m_next : Int32} {m_error : Int32} {m_place : Int32} {m_began : Int32} {m_nested : Int32} {m_once : Int32} {m_now : Int32} {m_undoable : Int32} {m_bytes : Int32} {m_errorAt : Int32} {m_size : Int32} {m_rows : Nat → Int64} {p1 : Int64} (h_a0 : zc N h (a + 0) (.inr (9, [.int m_thrown, .ref (zo w + (a + 1)), .ref (zo w + (a + 2)), .ref (zo w + (a + 3)), .int m_now, .int m_undoable, .ref (zo w + (a + 4)), .int m_bytes, .int m_errorAt, .int m_size, .int m_next, .int m_error, .int m_place, .int m_began, .int m_nested, .int m_once, .ref (zo w + (a + 5))]))) (h_a1 : zc N h (a + 1) (.inl (w.2.2.1 1, 22500, .inr (.inl m_rows)))) {r : Int64} (hf : f_X9_claimsOf m_now m_rows p1 = some r) : zM w yX9_claimsOf cX9_claimsOf 6 (some .long) (zr 5 150) false N N h [.ref (zo w + a), .long p1] (some (.long r)) h := by
  unfold f_X9_claimsOf at hf
  refine zM_of (by decide) rfl (fun X C _ => ?_)
  refine z_pick (lv' := [(0, .ref (zo w + a)), (1, .long p1)]) [0, 1] rfl ?_
  refine z_lconst (pc' := 1) C dX9_claimsOf_0 zl_0 rfl ?_
  refine z_lstore_n (pc' := 2) C [(3, .long (0 : Int64)), (0, .ref (zo w + a)), (1, .long p1)] dX9_claimsOf_1 rfl rfl rfl rfl ?_
  refine z_iconst (pc' := 3) C dX9_claimsOf_2 zk_iconst_0 rfl ?_
  refine z_istore (pc' := 5) C [(5, .int (0 : Int32)), (3, .long (0 : Int64)), (0, .ref (zo w + a)), (1, .long p1)] dX9_claimsOf_3 rfl rfl rfl ?_
  refine z_pick (lv' := [(0, .ref (zo w + a)), (1, .long p1), (3, .long (0 : Int64)), (5, .int (0 : Int32))]) [2, 3, 1, 0] rfl ?_
  exact w_X9_claimsOf_5 C h_a0 h_a1  FU hf
set_option maxRecDepth 20000 in
theorem w_X9_aheadWith_6 {X : zC} {w : zV} {N : Nat} {h : zH} {a : Nat} {m_thrown : Int32} {m_next : Int32} {m_error : Int32} {m_place : Int32} {m_began : Int32} {m_nested : Int32} {m_once : Int32} {m_now : Int32} {m_undoable : Int32} {m_bytes : Int32} {m_errorAt : Int32} {m_size : Int32} {m_rows : Nat → Int64} (C : zK X w RX9 cX9_aheadWith 9 (some .long) (zr 5 150)) (h_a0 : zc N h (a + 0) (.inr (9, [.int m_thrown, .ref (zo w + (a + 1)), .ref (zo w + (a + 2)), .ref (zo w + (a + 3)), .int m_now, .int m_undoable, .ref (zo w + (a + 4)), .int m_bytes, .int m_errorAt, .int m_size, .int m_next, .int m_error, .int m_place, .int m_began, .int m_nested, .int m_once, .ref (zo w + (a + 5))]))) (h_a1 : zc N h (a + 1) (.inl (w.2.2.1 1, 22500, .inr (.inl m_rows)))) {r : Int64} (n : Nat) : ∀ {x1 : Int32} {x2 : Int64} {x4 : Int64} {x6 : Int64} {x8 : Int32}, f_X9_aheadWith_6  n m_now m_rows x1 x2 x4 x6 x8 = some r → zZ X w (zQ X w (zr 5 150) (some (.long r)) false N h) 0 0 false N h 6 [(0, .ref (zo w + a)), (1, .int x1), (2, .long x2), (4, .long x4), (6, .long x6), (8, .int x8)] [] := by
  induction n with
  | zero =>
    intro x1 x2 x4 x6 x8 hf
    have hf : (none : Option (Int64)) = some r := hf
    cases hf
  | succ z ih =>
    intro x1 x2 x4 x6 x8 hf
    rw [f_X9_aheadWith_6] at hf
    refine z_iload (pc' := 8) C 5 dX9_aheadWith_6 rfl rfl ?_
    refine z_i2l (pc' := 9) C dX9_aheadWith_8 rfl ?_
    refine z_aload_n (pc' := 10) C 0 dX9_aheadWith_9 rfl rfl rfl ?_
    refine z_bipush (pc' := 12) C dX9_aheadWith_10 zk_bipush_6 rfl ?_
    refine z_cV (pc' := 15) C hf (As := [.int (6 : Int32)]) (fun hq => c_X9_get (a := a) h_a0 h_a1 hq) (fun _ => h) (fun q_12 => [.long q_12, .long (x8).toInt64]) (fun _ => rfl) (fun _ => rfl) zy_X9_get zw_1349 zw_1351 zv_43 (ci := 9) rfl h_a0 ⟨rfl, rfl⟩ rfl rfl rfl rfl rfl dX9_aheadWith_12 rfl (fun q_12 hf => ?_)
    refine z_lcmp_ge (pc' := 19) C 83 hf dX9_aheadWith_15 rfl dX9_aheadWith_16 rfl rfl (fun g_15 hf => ?_) (fun g_15 hf => ?_)
    · refine z_lload (pc' := 85) C 4 dX9_aheadWith_83 rfl rfl ?_
      cases hf
      exact z_lret C rfl rfl dX9_aheadWith_85
    · refine z_iload (pc' := 21) C 5 dX9_aheadWith_19 rfl rfl ?_
      refine z_iload_n (pc' := 22) C 1 dX9_aheadWith_21 rfl rfl rfl ?_
      refine z_icmp_eq (pc' := 25) C 77 hf dX9_aheadWith_22 rfl rfl (fun g_22 hf => ?_) (fun g_22 hf => ?_)
      · refine z_iinc (pc' := 80) C 5 [(8, .int (x8 + (1 : Int32))), (0, .ref (zo w + a)), (1, .int x1), (2, .long x2), (4, .long x4), (6, .long x6)] dX9_aheadWith_77 rfl zk_iconst_1 rfl rfl rfl ?_
        refine z_goto C 6 dX9_aheadWith_80 rfl ?_
        refine z_pick (lv' := [(0, .ref (zo w + a)), (1, .int x1), (2, .long x2), (4, .long x4), (6, .long x6), (8, .int (x8 + (1 : Int32)))]) [1, 2, 3, 4, 5, 0] rfl ?_
        exact ih hf
      · refine z_aload_n (pc' := 26) C 0 dX9_aheadWith_25 rfl rfl rfl ?_
        refine z_iload (pc' := 28) C 5 dX9_aheadWith_26 rfl rfl ?_
        refine z_cV (pc' := 31) C hf (As := [.int x8]) (fun hq => c_X9_rankOf (a := a) h_a0 h_a1 hq) (fun _ => h) (fun q_28 => [.long q_28]) (fun _ => rfl) (fun _ => rfl) zy_X9_rankOf zw_1625 zw_1627 zv_76 (ci := 9) rfl h_a0 ⟨rfl, rfl⟩ rfl rfl rfl rfl rfl dX9_aheadWith_28 rfl (fun q_28 hf => ?_)
        refine z_aload_n (pc' := 32) C 0 dX9_aheadWith_31 rfl rfl rfl ?_
        refine z_iload_n (pc' := 33) C 1 dX9_aheadWith_32 rfl rfl rfl ?_
        refine z_cV (pc' := 36) C hf (As := [.int x1]) (fun hq => c_X9_rankOf (a := a) h_a0 h_a1 hq) (fun _ => h) (fun q_33 => [.long q_33, .long q_28]) (fun _ => rfl) (fun _ => rfl) zy_X9_rankOf zw_1625 zw_1627 zv_76 (ci := 9) rfl h_a0 ⟨rfl, rfl⟩ rfl rfl rfl rfl rfl dX9_aheadWith_33 rfl (fun q_33 hf => ?_)
        refine z_lcmp_ne (pc' := 40) C 77 hf dX9_aheadWith_36 rfl dX9_aheadWith_37 rfl rfl (fun g_36 hf => ?_) (fun g_36 hf => ?_)
        · refine z_iinc (pc' := 80) C 5 [(8, .int (x8 + (1 : Int32))), (0, .ref (zo w + a)), (1, .int x1), (2, .long x2), (4, .long x4), (6, .long x6)] dX9_aheadWith_77 rfl zk_iconst_1 rfl rfl rfl ?_
          refine z_goto C 6 dX9_aheadWith_80 rfl ?_
          refine z_pick (lv' := [(0, .ref (zo w + a)), (1, .int x1), (2, .long x2), (4, .long x4), (6, .long x6), (8, .int (x8 + (1 : Int32)))]) [1, 2, 3, 4, 5, 0] rfl ?_
          exact ih hf
        · refine z_aload_n (pc' := 41) C 0 dX9_aheadWith_40 rfl rfl rfl ?_
          refine z_iload (pc' := 43) C 5 dX9_aheadWith_41 rfl rfl ?_
          refine z_iload_n (pc' := 44) C 1 dX9_aheadWith_43 rfl rfl rfl ?_
          refine z_cV (pc' := 47) C hf (As := [.int x8, .int x1]) (fun hq => c_X9_isAhead (a := a) h_a0 h_a1 hq) (fun _ => h) (fun q_44 => [.int q_44]) (fun _ => rfl) (fun _ => rfl) zy_X9_isAhead zw_1621 zw_1623 zv_75 (ci := 9) rfl h_a0 ⟨rfl, rfl⟩ rfl rfl rfl rfl rfl dX9_aheadWith_44 rfl (fun q_44 hf => ?_)
          refine z_if_eq (pc' := 50) C 77 hf dX9_aheadWith_47 rfl rfl (fun g_47 hf => ?_) (fun g_47 hf => ?_)
          · refine z_iinc (pc' := 80) C 5 [(8, .int (x8 + (1 : Int32))), (0, .ref (zo w + a)), (1, .int x1), (2, .long x2), (4, .long x4), (6, .long x6)] dX9_aheadWith_77 rfl zk_iconst_1 rfl rfl rfl ?_
            refine z_goto C 6 dX9_aheadWith_80 rfl ?_
            refine z_pick (lv' := [(0, .ref (zo w + a)), (1, .int x1), (2, .long x2), (4, .long x4), (6, .long x6), (8, .int (x8 + (1 : Int32)))]) [1, 2, 3, 4, 5, 0] rfl ?_
            exact ih hf
          · refine z_aload_n (pc' := 51) C 0 dX9_aheadWith_50 rfl rfl rfl ?_
            refine z_iload (pc' := 53) C 5 dX9_aheadWith_51 rfl rfl ?_
            refine z_cV (pc' := 56) C hf (As := [.int x8]) (fun hq => c_X9_claimOf (a := a) h_a0 h_a1 hq) (fun _ => h) (fun q_53 => [.long q_53]) (fun _ => rfl) (fun _ => rfl) zy_X9_claimOf zw_1606 zw_1608 zv_73 (ci := 9) rfl h_a0 ⟨rfl, rfl⟩ rfl rfl rfl rfl rfl dX9_aheadWith_53 rfl (fun q_53 hf => ?_)
            refine z_aload_n (pc' := 57) C 0 dX9_aheadWith_56 rfl rfl rfl ?_
            refine z_iload (pc' := 59) C 5 dX9_aheadWith_57 rfl rfl ?_
            refine z_cV (pc' := 62) C hf (As := [.int x8]) (fun hq => c_X9_claimOf (a := a) h_a0 h_a1 hq) (fun _ => h) (fun q_59 => [.long q_59, .long q_53]) (fun _ => rfl) (fun _ => rfl) zy_X9_claimOf zw_1606 zw_1608 zv_73 (ci := 9) rfl h_a0 ⟨rfl, rfl⟩ rfl rfl rfl rfl rfl dX9_aheadWith_59 rfl (fun q_59 hf => ?_)
            refine z_lload_n (pc' := 63) C 2 dX9_aheadWith_62 rfl rfl rfl ?_
            refine z_lmul (pc' := 64) C dX9_aheadWith_63 rfl ?_
            refine z_lload (pc' := 66) C 3 dX9_aheadWith_64 rfl rfl ?_
            obtain ⟨g_66, hf⟩ := zG1_s hf
            refine z_ldiv (pc' := 67) C dX9_aheadWith_66 g_66 rfl ?_
            refine z_lcmp_le (pc' := 71) C 77 hf dX9_aheadWith_67 rfl dX9_aheadWith_68 rfl rfl (fun g_67 hf => ?_) (fun g_67 hf => ?_)
            · refine z_iinc (pc' := 80) C 5 [(8, .int (x8 + (1 : Int32))), (0, .ref (zo w + a)), (1, .int x1), (2, .long x2), (4, .long x4), (6, .long x6)] dX9_aheadWith_77 rfl zk_iconst_1 rfl rfl rfl ?_
              refine z_goto C 6 dX9_aheadWith_80 rfl ?_
              refine z_pick (lv' := [(0, .ref (zo w + a)), (1, .int x1), (2, .long x2), (4, .long x4), (6, .long x6), (8, .int (x8 + (1 : Int32)))]) [1, 2, 3, 4, 5, 0] rfl ?_
              exact ih hf
            · refine z_lload (pc' := 73) C 4 dX9_aheadWith_71 rfl rfl ?_
              refine z_lconst (pc' := 74) C dX9_aheadWith_73 zl_1 rfl ?_
              refine z_ladd (pc' := 75) C dX9_aheadWith_74 rfl ?_
              refine z_lstore (pc' := 77) C [(6, .long (x6 + (1 : Int64))), (0, .ref (zo w + a)), (1, .int x1), (2, .long x2), (4, .long x4), (8, .int x8)] dX9_aheadWith_75 rfl rfl rfl ?_
              refine z_iinc (pc' := 80) C 5 [(8, .int (x8 + (1 : Int32))), (6, .long (x6 + (1 : Int64))), (0, .ref (zo w + a)), (1, .int x1), (2, .long x2), (4, .long x4)] dX9_aheadWith_77 rfl zk_iconst_1 rfl rfl rfl ?_
              refine z_goto C 6 dX9_aheadWith_80 rfl ?_
              refine z_pick (lv' := [(0, .ref (zo w + a)), (1, .int x1), (2, .long x2), (4, .long x4), (6, .long (x6 + (1 : Int64))), (8, .int (x8 + (1 : Int32)))]) [2, 3, 4, 5, 1, 0] rfl ?_
              exact ih hf
set_option maxRecDepth 20000 in
theorem c_X9_aheadWith {w : zV} {N : Nat} {h : zH} {a : Nat} {m_thrown : Int32} {m_next : Int32} {m_error : Int32} {m_place : Int32} {m_began : Int32} {m_nested : Int32} {m_once : Int32} {m_now : Int32} {m_undoable : Int32} {m_bytes : Int32} {m_errorAt : Int32} {m_size : Int32} {m_rows : Nat → Int64} {p1 : Int32} {p2 : Int64} {p4 : Int64} (h_a0 : zc N h (a + 0) (.inr (9, [.int m_thrown, .ref (zo w + (a + 1)), .ref (zo w + (a + 2)), .ref (zo w + (a + 3)), .int m_now, .int m_undoable, .ref (zo w + (a + 4)), .int m_bytes, .int m_errorAt, .int m_size, .int m_next, .int m_error, .int m_place, .int m_began, .int m_nested, .int m_once, .ref (zo w + (a + 5))]))) (h_a1 : zc N h (a + 1) (.inl (w.2.2.1 1, 22500, .inr (.inl m_rows)))) {r : Int64} (hf : f_X9_aheadWith m_now m_rows p1 p2 p4 = some r) : zM w yX9_aheadWith cX9_aheadWith 9 (some .long) (zr 5 150) false N N h [.ref (zo w + a), .int p1, .long p2, .long p4] (some (.long r)) h := by
  unfold f_X9_aheadWith at hf
  refine zM_of (by decide) rfl (fun X C _ => ?_)
  refine z_pick (lv' := [(0, .ref (zo w + a)), (1, .int p1), (2, .long p2), (4, .long p4)]) [0, 1, 2, 3] rfl ?_
  refine z_lconst (pc' := 1) C dX9_aheadWith_0 zl_0 rfl ?_
  refine z_lstore (pc' := 3) C [(6, .long (0 : Int64)), (0, .ref (zo w + a)), (1, .int p1), (2, .long p2), (4, .long p4)] dX9_aheadWith_1 rfl rfl rfl ?_
  refine z_iconst (pc' := 4) C dX9_aheadWith_3 zk_iconst_0 rfl ?_
  refine z_istore (pc' := 6) C [(8, .int (0 : Int32)), (6, .long (0 : Int64)), (0, .ref (zo w + a)), (1, .int p1), (2, .long p2), (4, .long p4)] dX9_aheadWith_4 rfl rfl rfl ?_
  refine z_pick (lv' := [(0, .ref (zo w + a)), (1, .int p1), (2, .long p2), (4, .long p4), (6, .long (0 : Int64)), (8, .int (0 : Int32))]) [2, 3, 4, 5, 1, 0] rfl ?_
  exact w_X9_aheadWith_6 C h_a0 h_a1  FU hf
set_option maxRecDepth 20000 in
theorem w_X9_partsOf_6 {X : zC} {w : zV} {N : Nat} {h : zH} {a : Nat} {m_thrown : Int32} {m_next : Int32} {m_error : Int32} {m_place : Int32} {m_began : Int32} {m_nested : Int32} {m_once : Int32} {m_now : Int32} {m_undoable : Int32} {m_bytes : Int32} {m_errorAt : Int32} {m_size : Int32} {m_rows : Nat → Int64} (C : zK X w RX9 cX9_partsOf 10 (some .long) (zr 5 150)) (h_a0 : zc N h (a + 0) (.inr (9, [.int m_thrown, .ref (zo w + (a + 1)), .ref (zo w + (a + 2)), .ref (zo w + (a + 3)), .int m_now, .int m_undoable, .ref (zo w + (a + 4)), .int m_bytes, .int m_errorAt, .int m_size, .int m_next, .int m_error, .int m_place, .int m_began, .int m_nested, .int m_once, .ref (zo w + (a + 5))]))) (h_a1 : zc N h (a + 1) (.inl (w.2.2.1 1, 22500, .inr (.inl m_rows)))) {r : Int64} (n : Nat) : ∀ {x1 : Int64} {x3 : Int64} {x5 : Int64} {x7 : Int64} {x9 : Int32}, f_X9_partsOf_6  n m_now m_rows x1 x3 x5 x7 x9 = some r → zZ X w (zQ X w (zr 5 150) (some (.long r)) false N h) 0 0 false N h 6 [(0, .ref (zo w + a)), (1, .long x1), (3, .long x3), (5, .long x5), (7, .long x7), (9, .int x9)] [] := by
  induction n with
  | zero =>
    intro x1 x3 x5 x7 x9 hf
    have hf : (none : Option (Int64)) = some r := hf
    cases hf
  | succ z ih =>
    intro x1 x3 x5 x7 x9 hf
    rw [f_X9_partsOf_6] at hf
    refine z_iload (pc' := 8) C 5 dX9_partsOf_6 rfl rfl ?_
    refine z_i2l (pc' := 9) C dX9_partsOf_8 rfl ?_
    refine z_aload_n (pc' := 10) C 0 dX9_partsOf_9 rfl rfl rfl ?_
    refine z_bipush (pc' := 12) C dX9_partsOf_10 zk_bipush_6 rfl ?_
    refine z_cV (pc' := 15) C hf (As := [.int (6 : Int32)]) (fun hq => c_X9_get (a := a) h_a0 h_a1 hq) (fun _ => h) (fun q_12 => [.long q_12, .long (x9).toInt64]) (fun _ => rfl) (fun _ => rfl) zy_X9_get zw_1349 zw_1351 zv_43 (ci := 9) rfl h_a0 ⟨rfl, rfl⟩ rfl rfl rfl rfl rfl dX9_partsOf_12 rfl (fun q_12 hf => ?_)
    refine z_lcmp_ge (pc' := 19) C 56 hf dX9_partsOf_15 rfl dX9_partsOf_16 rfl rfl (fun g_15 hf => ?_) (fun g_15 hf => ?_)
    · refine z_lload (pc' := 58) C 4 dX9_partsOf_56 rfl rfl ?_
      cases hf
      exact z_lret C rfl rfl dX9_partsOf_58
    · refine z_lload (pc' := 21) C 4 dX9_partsOf_19 rfl rfl ?_
      refine z_aload_n (pc' := 22) C 0 dX9_partsOf_21 rfl rfl rfl ?_
      refine z_iload (pc' := 24) C 5 dX9_partsOf_22 rfl rfl ?_
      refine z_cV (pc' := 27) C hf (As := [.int x9]) (fun hq => c_X9_rankOf (a := a) h_a0 h_a1 hq) (fun _ => h) (fun q_24 => [.long q_24, .long x7]) (fun _ => rfl) (fun _ => rfl) zy_X9_rankOf zw_1625 zw_1627 zv_76 (ci := 9) rfl h_a0 ⟨rfl, rfl⟩ rfl rfl rfl rfl rfl dX9_partsOf_24 rfl (fun q_24 hf => ?_)
      refine z_lload_n (pc' := 28) C 1 dX9_partsOf_27 rfl rfl rfl ?_
      refine z_lcmp_ne (pc' := 32) C 46 hf dX9_partsOf_28 rfl dX9_partsOf_29 rfl rfl (fun g_28 hf => ?_) (fun g_28 hf => ?_)
      · refine z_lconst (pc' := 47) C dX9_partsOf_46 zl_0 rfl ?_
        refine z_ladd (pc' := 48) C dX9_partsOf_47 rfl ?_
        refine z_lstore (pc' := 50) C [(7, .long (x7 + (0 : Int64))), (0, .ref (zo w + a)), (1, .long x1), (3, .long x3), (5, .long x5), (9, .int x9)] dX9_partsOf_48 rfl rfl rfl ?_
        refine z_iinc (pc' := 53) C 5 [(9, .int (x9 + (1 : Int32))), (7, .long (x7 + (0 : Int64))), (0, .ref (zo w + a)), (1, .long x1), (3, .long x3), (5, .long x5)] dX9_partsOf_50 rfl zk_iconst_1 rfl rfl rfl ?_
        refine z_goto C 6 dX9_partsOf_53 rfl ?_
        refine z_pick (lv' := [(0, .ref (zo w + a)), (1, .long x1), (3, .long x3), (5, .long x5), (7, .long (x7 + (0 : Int64))), (9, .int (x9 + (1 : Int32)))]) [2, 3, 4, 5, 1, 0] rfl ?_
        exact ih hf
      · refine z_aload_n (pc' := 33) C 0 dX9_partsOf_32 rfl rfl rfl ?_
        refine z_iload (pc' := 35) C 5 dX9_partsOf_33 rfl rfl ?_
        refine z_cV (pc' := 38) C hf (As := [.int x9]) (fun hq => c_X9_claimOf (a := a) h_a0 h_a1 hq) (fun _ => h) (fun q_35 => [.long q_35, .long x7]) (fun _ => rfl) (fun _ => rfl) zy_X9_claimOf zw_1606 zw_1608 zv_73 (ci := 9) rfl h_a0 ⟨rfl, rfl⟩ rfl rfl rfl rfl rfl dX9_partsOf_35 rfl (fun q_35 hf => ?_)
        refine z_lload_n (pc' := 39) C 2 dX9_partsOf_38 rfl rfl rfl ?_
        refine z_lmul (pc' := 40) C dX9_partsOf_39 rfl ?_
        refine z_lload (pc' := 42) C 3 dX9_partsOf_40 rfl rfl ?_
        obtain ⟨g_42, hf⟩ := zG1_s hf
        refine z_ldiv (pc' := 43) C dX9_partsOf_42 g_42 rfl ?_
        refine z_goto C 47 dX9_partsOf_43 rfl ?_
        refine z_ladd (pc' := 48) C dX9_partsOf_47 rfl ?_
        refine z_lstore (pc' := 50) C [(7, .long (x7 + ((q_35 * x3) / x5))), (0, .ref (zo w + a)), (1, .long x1), (3, .long x3), (5, .long x5), (9, .int x9)] dX9_partsOf_48 rfl rfl rfl ?_
        refine z_iinc (pc' := 53) C 5 [(9, .int (x9 + (1 : Int32))), (7, .long (x7 + ((q_35 * x3) / x5))), (0, .ref (zo w + a)), (1, .long x1), (3, .long x3), (5, .long x5)] dX9_partsOf_50 rfl zk_iconst_1 rfl rfl rfl ?_
        refine z_goto C 6 dX9_partsOf_53 rfl ?_
        refine z_pick (lv' := [(0, .ref (zo w + a)), (1, .long x1), (3, .long x3), (5, .long x5), (7, .long (x7 + ((q_35 * x3) / x5))), (9, .int (x9 + (1 : Int32)))]) [2, 3, 4, 5, 1, 0] rfl ?_
        exact ih hf
set_option maxRecDepth 20000 in
theorem c_X9_partsOf {w : zV} {N : Nat} {h : zH} {a : Nat} {m_thrown : Int32} {m_next : Int32} {m_error : Int32} {m_place : Int32} {m_began : Int32} {m_nested : Int32} {m_once : Int32} {m_now : Int32} {m_undoable : Int32} {m_bytes : Int32} {m_errorAt : Int32} {m_size : Int32} {m_rows : Nat → Int64} {p1 : Int64} {p3 : Int64} {p5 : Int64} (h_a0 : zc N h (a + 0) (.inr (9, [.int m_thrown, .ref (zo w + (a + 1)), .ref (zo w + (a + 2)), .ref (zo w + (a + 3)), .int m_now, .int m_undoable, .ref (zo w + (a + 4)), .int m_bytes, .int m_errorAt, .int m_size, .int m_next, .int m_error, .int m_place, .int m_began, .int m_nested, .int m_once, .ref (zo w + (a + 5))]))) (h_a1 : zc N h (a + 1) (.inl (w.2.2.1 1, 22500, .inr (.inl m_rows)))) {r : Int64} (hf : f_X9_partsOf m_now m_rows p1 p3 p5 = some r) : zM w yX9_partsOf cX9_partsOf 10 (some .long) (zr 5 150) false N N h [.ref (zo w + a), .long p1, .long p3, .long p5] (some (.long r)) h := by
  unfold f_X9_partsOf at hf
  refine zM_of (by decide) rfl (fun X C _ => ?_)
  refine z_pick (lv' := [(0, .ref (zo w + a)), (1, .long p1), (3, .long p3), (5, .long p5)]) [0, 1, 2, 3] rfl ?_
  refine z_lconst (pc' := 1) C dX9_partsOf_0 zl_0 rfl ?_
  refine z_lstore (pc' := 3) C [(7, .long (0 : Int64)), (0, .ref (zo w + a)), (1, .long p1), (3, .long p3), (5, .long p5)] dX9_partsOf_1 rfl rfl rfl ?_
  refine z_iconst (pc' := 4) C dX9_partsOf_3 zk_iconst_0 rfl ?_
  refine z_istore (pc' := 6) C [(9, .int (0 : Int32)), (7, .long (0 : Int64)), (0, .ref (zo w + a)), (1, .long p1), (3, .long p3), (5, .long p5)] dX9_partsOf_4 rfl rfl rfl ?_
  refine z_pick (lv' := [(0, .ref (zo w + a)), (1, .long p1), (3, .long p3), (5, .long p5), (7, .long (0 : Int64)), (9, .int (0 : Int32))]) [2, 3, 4, 5, 1, 0] rfl ?_
  exact w_X9_partsOf_6 C h_a0 h_a1  FU hf
set_option maxRecDepth 20000 in
theorem w_X9_share_33 {X : zC} {w : zV} {N : Nat} {h : zH} {a : Nat} {m_next : Int32} {m_error : Int32} {m_place : Int32} {m_began : Int32} {m_nested : Int32} {m_once : Int32} {m_now : Int32} {m_undoable : Int32} {m_bytes : Int32} {m_errorAt : Int32} {m_size : Int32} {m_rows : Nat → Int64} (C : zK X w RX9 cX9_share 11 (some .long) (zr 6 187)) (n_a0 : a + 0 < N) (h_a1 : zc N h (a + 1) (.inl (w.2.2.1 1, 22500, .inr (.inl m_rows)))) {r : Int64 × Int32} (n : Nat) : ∀ {m_thrown : Int32} {x1 : Int32} {x3 : Int64} {x5 : Int64}, f_X9_share_33  n m_thrown m_now m_rows x1 x3 x5 = some r → zZ X w (zQ X w (zr 6 187) (some (.long r.1)) false N (zu h a [(0, .inr (9, [.int r.2, .ref (zo w + (a + 1)), .ref (zo w + (a + 2)), .ref (zo w + (a + 3)), .int m_now, .int m_undoable, .ref (zo w + (a + 4)), .int m_bytes, .int m_errorAt, .int m_size, .int m_next, .int m_error, .int m_place, .int m_began, .int m_nested, .int m_once, .ref (zo w + (a + 5))]))])) 0 0 false N (zu h a [(0, .inr (9, [.int m_thrown, .ref (zo w + (a + 1)), .ref (zo w + (a + 2)), .ref (zo w + (a + 3)), .int m_now, .int m_undoable, .ref (zo w + (a + 4)), .int m_bytes, .int m_errorAt, .int m_size, .int m_next, .int m_error, .int m_place, .int m_began, .int m_nested, .int m_once, .ref (zo w + (a + 5))]))]) 33 [(0, .ref (zo w + a)), (1, .int x1), (3, .long x3), (5, .long x5)] [] := by
  induction n with
  | zero =>
    intro m_thrown x1 x3 x5 hf
    have hf : (none : Option (Int64 × Int32)) = some r := hf
    cases hf
  | succ z ih =>
    intro m_thrown x1 x3 x5 hf
    rw [f_X9_share_33] at hf
    refine z_lload (pc' := 35) C 3 dX9_share_33 rfl rfl ?_
    refine z_aload_n (pc' := 36) C 0 dX9_share_35 rfl rfl rfl ?_
    refine z_iload_n (pc' := 37) C 1 dX9_share_36 rfl rfl rfl ?_
    refine z_cV (pc' := 40) C hf (As := [.int x1]) (fun hq => c_X9_rankOf (a := a) (zc_i (o := 0) n_a0 rfl) (zc_o (o := 1) h_a1 rfl) hq) (fun _ => (zu h a [(0, .inr (9, [.int m_thrown, .ref (zo w + (a + 1)), .ref (zo w + (a + 2)), .ref (zo w + (a + 3)), .int m_now, .int m_undoable, .ref (zo w + (a + 4)), .int m_bytes, .int m_errorAt, .int m_size, .int m_next, .int m_error, .int m_place, .int m_began, .int m_nested, .int m_once, .ref (zo w + (a + 5))]))])) (fun q_37 => [.long q_37, .long x5]) (fun _ => rfl) (fun _ => rfl) zy_X9_rankOf zw_1625 zw_1627 zv_76 (ci := 9) rfl (zc_i (o := 0) n_a0 rfl) ⟨rfl, rfl⟩ rfl rfl rfl rfl rfl dX9_share_37 rfl (fun q_37 hf => ?_)
    refine z_lcmp_ge (pc' := 44) C 66 hf dX9_share_40 rfl dX9_share_41 rfl rfl (fun g_40 hf => ?_) (fun g_40 hf => ?_)
    · refine z_aload_n (pc' := 67) C 0 dX9_share_66 rfl rfl rfl ?_
      refine z_aload_n (pc' := 68) C 0 dX9_share_67 rfl rfl rfl ?_
      refine z_iload_n (pc' := 69) C 1 dX9_share_68 rfl rfl rfl ?_
      refine z_cV (pc' := 72) C hf (As := [.int x1]) (fun hq => c_X9_rankOf (a := a) (zc_i (o := 0) n_a0 rfl) (zc_o (o := 1) h_a1 rfl) hq) (fun _ => (zu h a [(0, .inr (9, [.int m_thrown, .ref (zo w + (a + 1)), .ref (zo w + (a + 2)), .ref (zo w + (a + 3)), .int m_now, .int m_undoable, .ref (zo w + (a + 4)), .int m_bytes, .int m_errorAt, .int m_size, .int m_next, .int m_error, .int m_place, .int m_began, .int m_nested, .int m_once, .ref (zo w + (a + 5))]))])) (fun q_69 => [.long q_69, .ref (zo w + a)]) (fun _ => rfl) (fun _ => rfl) zy_X9_rankOf zw_1625 zw_1627 zv_76 (ci := 9) rfl (zc_i (o := 0) n_a0 rfl) ⟨rfl, rfl⟩ rfl rfl rfl rfl rfl dX9_share_69 rfl (fun q_69 hf => ?_)
      refine z_cV (pc' := 75) C hf (As := [.long q_69]) (fun hq => c_X9_claimsOf (a := a) (zc_i (o := 0) n_a0 rfl) (zc_o (o := 1) h_a1 rfl) hq) (fun _ => (zu h a [(0, .inr (9, [.int m_thrown, .ref (zo w + (a + 1)), .ref (zo w + (a + 2)), .ref (zo w + (a + 3)), .int m_now, .int m_undoable, .ref (zo w + (a + 4)), .int m_bytes, .int m_errorAt, .int m_size, .int m_next, .int m_error, .int m_place, .int m_began, .int m_nested, .int m_once, .ref (zo w + (a + 5))]))])) (fun q_72 => [.long q_72]) (fun _ => rfl) (fun _ => rfl) zy_X9_claimsOf zw_1634 zw_1636 zv_77 (ci := 9) rfl (zc_i (o := 0) n_a0 rfl) ⟨rfl, rfl⟩ rfl rfl rfl rfl rfl dX9_share_72 rfl (fun q_72 hf => ?_)
      refine z_lstore (pc' := 77) C [(5, .long q_72), (0, .ref (zo w + a)), (1, .int x1), (3, .long x3)] dX9_share_75 rfl rfl rfl ?_
      refine z_lload_n (pc' := 78) C 3 dX9_share_77 rfl rfl rfl ?_
      refine z_lload (pc' := 80) C 0 dX9_share_78 rfl rfl ?_
      refine z_lcmp_lt (pc' := 84) C 90 hf dX9_share_80 rfl dX9_share_81 rfl rfl (fun g_80 hf => ?_) (fun g_80 hf => ?_)
      · refine z_aload_n (pc' := 91) C 1 dX9_share_90 rfl rfl rfl ?_
        refine z_iload_n (pc' := 92) C 2 dX9_share_91 rfl rfl rfl ?_
        refine z_cV (pc' := 95) C hf (As := [.int x1]) (fun hq => c_X9_claimOf (a := a) (zc_i (o := 0) n_a0 rfl) (zc_o (o := 1) h_a1 rfl) hq) (fun _ => (zu h a [(0, .inr (9, [.int m_thrown, .ref (zo w + (a + 1)), .ref (zo w + (a + 2)), .ref (zo w + (a + 3)), .int m_now, .int m_undoable, .ref (zo w + (a + 4)), .int m_bytes, .int m_errorAt, .int m_size, .int m_next, .int m_error, .int m_place, .int m_began, .int m_nested, .int m_once, .ref (zo w + (a + 5))]))])) (fun q_92 => [.long q_92]) (fun _ => rfl) (fun _ => rfl) zy_X9_claimOf zw_1606 zw_1608 zv_73 (ci := 9) rfl (zc_i (o := 0) n_a0 rfl) ⟨rfl, rfl⟩ rfl rfl rfl rfl rfl dX9_share_92 rfl (fun q_92 hf => ?_)
        refine z_lload_n (pc' := 96) C 3 dX9_share_95 rfl rfl rfl ?_
        refine z_lmul (pc' := 97) C dX9_share_96 rfl ?_
        refine z_lload (pc' := 99) C 0 dX9_share_97 rfl rfl ?_
        obtain ⟨g_99, hf⟩ := zG1_s hf
        refine z_ldiv (pc' := 100) C dX9_share_99 g_99 rfl ?_
        refine z_lstore (pc' := 102) C [(7, .long ((q_92 * x3) / q_72)), (5, .long q_72), (0, .ref (zo w + a)), (1, .int x1), (3, .long x3)] dX9_share_100 rfl rfl rfl ?_
        refine z_lload_n (pc' := 103) C 4 dX9_share_102 rfl rfl rfl ?_
        refine z_aload_n (pc' := 104) C 2 dX9_share_103 rfl rfl rfl ?_
        refine z_aload_n (pc' := 105) C 2 dX9_share_104 rfl rfl rfl ?_
        refine z_iload_n (pc' := 106) C 3 dX9_share_105 rfl rfl rfl ?_
        refine z_cV (pc' := 109) C hf (As := [.int x1]) (fun hq => c_X9_rankOf (a := a) (zc_i (o := 0) n_a0 rfl) (zc_o (o := 1) h_a1 rfl) hq) (fun _ => (zu h a [(0, .inr (9, [.int m_thrown, .ref (zo w + (a + 1)), .ref (zo w + (a + 2)), .ref (zo w + (a + 3)), .int m_now, .int m_undoable, .ref (zo w + (a + 4)), .int m_bytes, .int m_errorAt, .int m_size, .int m_next, .int m_error, .int m_place, .int m_began, .int m_nested, .int m_once, .ref (zo w + (a + 5))]))])) (fun q_106 => [.long q_106, .ref (zo w + a), .long x3]) (fun _ => rfl) (fun _ => rfl) zy_X9_rankOf zw_1625 zw_1627 zv_76 (ci := 9) rfl (zc_i (o := 0) n_a0 rfl) ⟨rfl, rfl⟩ rfl rfl rfl rfl rfl dX9_share_106 rfl (fun q_106 hf => ?_)
        refine z_lload_n (pc' := 110) C 4 dX9_share_109 rfl rfl rfl ?_
        refine z_lload (pc' := 112) C 1 dX9_share_110 rfl rfl ?_
        refine z_cV (pc' := 115) C hf (As := [.long q_106, .long x3, .long q_72]) (fun hq => c_X9_partsOf (a := a) (zc_i (o := 0) n_a0 rfl) (zc_o (o := 1) h_a1 rfl) hq) (fun _ => (zu h a [(0, .inr (9, [.int m_thrown, .ref (zo w + (a + 1)), .ref (zo w + (a + 2)), .ref (zo w + (a + 3)), .int m_now, .int m_undoable, .ref (zo w + (a + 4)), .int m_bytes, .int m_errorAt, .int m_size, .int m_next, .int m_error, .int m_place, .int m_began, .int m_nested, .int m_once, .ref (zo w + (a + 5))]))])) (fun q_112 => [.long q_112, .long x3]) (fun _ => rfl) (fun _ => rfl) zy_X9_partsOf zw_1638 zw_1640 zv_78 (ci := 9) rfl (zc_i (o := 0) n_a0 rfl) ⟨rfl, rfl⟩ rfl rfl rfl rfl rfl dX9_share_112 rfl (fun q_112 hf => ?_)
        refine z_lsub (pc' := 116) C dX9_share_115 rfl ?_
        refine z_lstore (pc' := 118) C [(9, .long (x3 - q_112)), (7, .long ((q_92 * x3) / q_72)), (5, .long q_72), (0, .ref (zo w + a)), (1, .int x1), (3, .long x3)] dX9_share_116 rfl rfl rfl ?_
        refine z_lload (pc' := 120) C 1 dX9_share_118 rfl rfl ?_
        refine z_aload_n (pc' := 121) C 3 dX9_share_120 rfl rfl rfl ?_
        refine z_iload_n (pc' := 122) C 4 dX9_share_121 rfl rfl rfl ?_
        refine z_cV (pc' := 125) C hf (As := [.int x1]) (fun hq => c_X9_claimOf (a := a) (zc_i (o := 0) n_a0 rfl) (zc_o (o := 1) h_a1 rfl) hq) (fun _ => (zu h a [(0, .inr (9, [.int m_thrown, .ref (zo w + (a + 1)), .ref (zo w + (a + 2)), .ref (zo w + (a + 3)), .int m_now, .int m_undoable, .ref (zo w + (a + 4)), .int m_bytes, .int m_errorAt, .int m_size, .int m_next, .int m_error, .int m_place, .int m_began, .int m_nested, .int m_once, .ref (zo w + (a + 5))]))])) (fun q_122 => [.long q_122, .long ((q_92 * x3) / q_72)]) (fun _ => rfl) (fun _ => rfl) zy_X9_claimOf zw_1606 zw_1608 zv_73 (ci := 9) rfl (zc_i (o := 0) n_a0 rfl) ⟨rfl, rfl⟩ rfl rfl rfl rfl rfl dX9_share_122 rfl (fun q_122 hf => ?_)
        refine z_lload (pc' := 127) C 1 dX9_share_125 rfl rfl ?_
        refine z_lcmp_le (pc' := 131) C 149 hf dX9_share_127 rfl dX9_share_128 rfl rfl (fun g_127 hf => ?_) (fun g_127 hf => ?_)
        · refine z_lconst (pc' := 150) C dX9_share_149 zl_0 rfl ?_
          refine z_ladd (pc' := 151) C dX9_share_150 rfl ?_
          cases hf
          exact z_lret C rfl rfl dX9_share_151
        · refine z_aload_n (pc' := 132) C 3 dX9_share_131 rfl rfl rfl ?_
          refine z_iload_n (pc' := 133) C 4 dX9_share_132 rfl rfl rfl ?_
          refine z_lload_n (pc' := 134) C 5 dX9_share_133 rfl rfl rfl ?_
          refine z_lload (pc' := 136) C 2 dX9_share_134 rfl rfl ?_
          refine z_cV (pc' := 139) C hf (As := [.int x1, .long x3, .long q_72]) (fun hq => c_X9_aheadWith (a := a) (zc_i (o := 0) n_a0 rfl) (zc_o (o := 1) h_a1 rfl) hq) (fun _ => (zu h a [(0, .inr (9, [.int m_thrown, .ref (zo w + (a + 1)), .ref (zo w + (a + 2)), .ref (zo w + (a + 3)), .int m_now, .int m_undoable, .ref (zo w + (a + 4)), .int m_bytes, .int m_errorAt, .int m_size, .int m_next, .int m_error, .int m_place, .int m_began, .int m_nested, .int m_once, .ref (zo w + (a + 5))]))])) (fun q_136 => [.long q_136, .long ((q_92 * x3) / q_72)]) (fun _ => rfl) (fun _ => rfl) zy_X9_aheadWith zw_1642 zw_1644 zv_79 (ci := 9) rfl (zc_i (o := 0) n_a0 rfl) ⟨rfl, rfl⟩ rfl rfl rfl rfl rfl dX9_share_136 rfl (fun q_136 hf => ?_)
          refine z_lload (pc' := 141) C 0 dX9_share_139 rfl rfl ?_
          refine z_lcmp_ge (pc' := 145) C 149 hf dX9_share_141 rfl dX9_share_142 rfl rfl (fun g_141 hf => ?_) (fun g_141 hf => ?_)
          · refine z_lconst (pc' := 150) C dX9_share_149 zl_0 rfl ?_
            refine z_ladd (pc' := 151) C dX9_share_150 rfl ?_
            cases hf
            exact z_lret C rfl rfl dX9_share_151
          · refine z_lconst (pc' := 146) C dX9_share_145 zl_1 rfl ?_
            refine z_goto C 150 dX9_share_146 rfl ?_
            refine z_ladd (pc' := 151) C dX9_share_150 rfl ?_
            cases hf
            exact z_lret C rfl rfl dX9_share_151
      · refine z_aload_n (pc' := 85) C 1 dX9_share_84 rfl rfl rfl ?_
        refine z_iload_n (pc' := 86) C 2 dX9_share_85 rfl rfl rfl ?_
        refine z_cV (pc' := 89) C hf (As := [.int x1]) (fun hq => c_X9_claimOf (a := a) (zc_i (o := 0) n_a0 rfl) (zc_o (o := 1) h_a1 rfl) hq) (fun _ => (zu h a [(0, .inr (9, [.int m_thrown, .ref (zo w + (a + 1)), .ref (zo w + (a + 2)), .ref (zo w + (a + 3)), .int m_now, .int m_undoable, .ref (zo w + (a + 4)), .int m_bytes, .int m_errorAt, .int m_size, .int m_next, .int m_error, .int m_place, .int m_began, .int m_nested, .int m_once, .ref (zo w + (a + 5))]))])) (fun q_86 => [.long q_86]) (fun _ => rfl) (fun _ => rfl) zy_X9_claimOf zw_1606 zw_1608 zv_73 (ci := 9) rfl (zc_i (o := 0) n_a0 rfl) ⟨rfl, rfl⟩ rfl rfl rfl rfl rfl dX9_share_86 rfl (fun q_86 hf => ?_)
        cases hf
        exact z_lret C rfl rfl dX9_share_89
    · refine z_lconst (pc' := 45) C dX9_share_44 zl_0 rfl ?_
      refine z_lload_n (pc' := 46) C 2 dX9_share_45 rfl rfl rfl ?_
      refine z_aload_n (pc' := 47) C 0 dX9_share_46 rfl rfl rfl ?_
      refine z_lload (pc' := 49) C 3 dX9_share_47 rfl rfl ?_
      refine z_cV (pc' := 52) C hf (As := [.long x5]) (fun hq => c_X9_claimsOf (a := a) (zc_i (o := 0) n_a0 rfl) (zc_o (o := 1) h_a1 rfl) hq) (fun _ => (zu h a [(0, .inr (9, [.int m_thrown, .ref (zo w + (a + 1)), .ref (zo w + (a + 2)), .ref (zo w + (a + 3)), .int m_now, .int m_undoable, .ref (zo w + (a + 4)), .int m_bytes, .int m_errorAt, .int m_size, .int m_next, .int m_error, .int m_place, .int m_began, .int m_nested, .int m_once, .ref (zo w + (a + 5))]))])) (fun q_49 => [.long q_49, .long x3, .long (0 : Int64)]) (fun _ => rfl) (fun _ => rfl) zy_X9_claimsOf zw_1634 zw_1636 zv_77 (ci := 9) rfl (zc_i (o := 0) n_a0 rfl) ⟨rfl, rfl⟩ rfl rfl rfl rfl rfl dX9_share_49 rfl (fun q_49 hf => ?_)
      refine z_lsub (pc' := 53) C dX9_share_52 rfl ?_
      refine z_lmax (pc' := 56) C zw_1418 rfl rfl dX9_share_53 rfl ?_
      refine z_lstore_n (pc' := 57) C [(3, .long (if (x3 - q_49) < (0 : Int64) then (0 : Int64) else (x3 - q_49))), (0, .ref (zo w + a)), (1, .int x1), (5, .long x5)] dX9_share_56 rfl rfl rfl rfl ?_
      refine z_lload (pc' := 59) C 3 dX9_share_57 rfl rfl ?_
      refine z_lconst (pc' := 60) C dX9_share_59 zl_1 rfl ?_
      refine z_ladd (pc' := 61) C dX9_share_60 rfl ?_
      refine z_lstore (pc' := 63) C [(5, .long (x5 + (1 : Int64))), (3, .long (if (x3 - q_49) < (0 : Int64) then (0 : Int64) else (x3 - q_49))), (0, .ref (zo w + a)), (1, .int x1)] dX9_share_61 rfl rfl rfl ?_
      refine z_goto C 33 dX9_share_63 rfl ?_
      refine z_pick (lv' := [(0, .ref (zo w + a)), (1, .int x1), (3, .long (if (x3 - q_49) < (0 : Int64) then (0 : Int64) else (x3 - q_49))), (5, .long (x5 + (1 : Int64)))]) [2, 3, 1, 0] rfl ?_
      exact ih hf
set_option maxRecDepth 20000 in
theorem c_X9_share {w : zV} {N : Nat} {h : zH} {a : Nat} {m_thrown : Int32} {m_next : Int32} {m_error : Int32} {m_place : Int32} {m_began : Int32} {m_nested : Int32} {m_once : Int32} {m_now : Int32} {m_undoable : Int32} {m_bytes : Int32} {m_errorAt : Int32} {m_size : Int32} {m_rows : Nat → Int64} {p1 : Int32} {p2 : Int32} (h_a0 : zc N h (a + 0) (.inr (9, [.int m_thrown, .ref (zo w + (a + 1)), .ref (zo w + (a + 2)), .ref (zo w + (a + 3)), .int m_now, .int m_undoable, .ref (zo w + (a + 4)), .int m_bytes, .int m_errorAt, .int m_size, .int m_next, .int m_error, .int m_place, .int m_began, .int m_nested, .int m_once, .ref (zo w + (a + 5))]))) (h_a1 : zc N h (a + 1) (.inl (w.2.2.1 1, 22500, .inr (.inl m_rows)))) {r : Int64 × Int32} (hf : f_X9_share m_thrown m_now m_rows p1 p2 = some r) : zM w yX9_share cX9_share 11 (some .long) (zr 6 187) false N N h [.ref (zo w + a), .int p1, .int p2] (some (.long r.1)) (zu h a [(0, .inr (9, [.int r.2, .ref (zo w + (a + 1)), .ref (zo w + (a + 2)), .ref (zo w + (a + 3)), .int m_now, .int m_undoable, .ref (zo w + (a + 4)), .int m_bytes, .int m_errorAt, .int m_size, .int m_next, .int m_error, .int m_place, .int m_began, .int m_nested, .int m_once, .ref (zo w + (a + 5))]))]) := by
  unfold f_X9_share at hf
  refine zM_of (by decide) rfl (fun X C _ => ?_)
  refine z_eq (h' := (zu h a [(0, .inr (9, [.int m_thrown, .ref (zo w + (a + 1)), .ref (zo w + (a + 2)), .ref (zo w + (a + 3)), .int m_now, .int m_undoable, .ref (zo w + (a + 4)), .int m_bytes, .int m_errorAt, .int m_size, .int m_next, .int m_error, .int m_place, .int m_began, .int m_nested, .int m_once, .ref (zo w + (a + 5))]))])) (zu_s h_a0 zu_0).symm ?_
  have n_a0 := h_a0.1
  refine z_pick (lv' := [(0, .ref (zo w + a)), (1, .int p1), (2, .int p2)]) [0, 1, 2] rfl ?_
  refine z_aload_n (pc' := 1) C 0 dX9_share_0 rfl rfl rfl ?_
  refine z_iload_n (pc' := 2) C 1 dX9_share_1 rfl rfl rfl ?_
  refine z_cV (pc' := 5) C hf (As := [.int p1]) (fun hq => c_X9_isLien (a := a) (zc_i (o := 0) n_a0 rfl) (zc_o (o := 1) h_a1 rfl) hq) (fun q_2 => (zu h a [(0, .inr (9, [.int q_2.2, .ref (zo w + (a + 1)), .ref (zo w + (a + 2)), .ref (zo w + (a + 3)), .int m_now, .int m_undoable, .ref (zo w + (a + 4)), .int m_bytes, .int m_errorAt, .int m_size, .int m_next, .int m_error, .int m_place, .int m_began, .int m_nested, .int m_once, .ref (zo w + (a + 5))]))])) (fun q_2 => [.int q_2.1]) (fun _ => zu_sh (d := 0) rfl rfl) (fun _ => rfl) zy_X9_isLien zw_1602 zw_1604 zv_72 (ci := 9) rfl (zc_i (o := 0) n_a0 rfl) ⟨rfl, rfl⟩ rfl rfl rfl rfl rfl dX9_share_2 rfl (fun q_2 hf => ?_)
  refine z_if_eq (pc' := 8) C 25 hf dX9_share_5 rfl rfl (fun g_5 hf => ?_) (fun g_5 hf => ?_)
  · refine z_lconst (pc' := 26) C dX9_share_25 zl_0 rfl ?_
    cases hf
    exact z_lret C rfl rfl dX9_share_26
  · refine z_aload_n (pc' := 9) C 0 dX9_share_8 rfl rfl rfl ?_
    refine z_iload_n (pc' := 10) C 2 dX9_share_9 rfl rfl rfl ?_
    refine z_i2l (pc' := 11) C dX9_share_10 rfl ?_
    refine z_lconst (pc' := 12) C dX9_share_11 zl_0 rfl ?_
    refine z_ldc2 (pc' := 15) C zw_1633 dX9_share_12 rfl ?_
    refine z_cS (pc' := 18) C hf (As := [.long (p2).toInt64, .long (0 : Int64), .long (99999999 : Int64)]) (fun hq => c_X9_isIn  hq) (fun _ => (zu h a [(0, .inr (9, [.int q_2.2, .ref (zo w + (a + 1)), .ref (zo w + (a + 2)), .ref (zo w + (a + 3)), .int m_now, .int m_undoable, .ref (zo w + (a + 4)), .int m_bytes, .int m_errorAt, .int m_size, .int m_next, .int m_error, .int m_place, .int m_began, .int m_nested, .int m_once, .ref (zo w + (a + 5))]))])) (fun q_15 => [.int q_15, .ref (zo w + a)]) (fun _ => rfl) (fun _ => rfl) zy_X9_isIn zw_1248 zw_1249 ⟨rfl, rfl⟩ rfl rfl rfl rfl rfl dX9_share_15 rfl (fun q_15 hf => ?_)
    refine z_iconst (pc' := 19) C dX9_share_18 zk_iconst_2 rfl ?_
    refine z_cV (pc' := 22) C hf (As := [.int q_15, .int (2 : Int32)]) (fun hq => c_X9_right (a := a) (zc_i (o := 0) n_a0 rfl) hq) (fun q_19 => (zu h a [(0, .inr (9, [.int q_19.2, .ref (zo w + (a + 1)), .ref (zo w + (a + 2)), .ref (zo w + (a + 3)), .int m_now, .int m_undoable, .ref (zo w + (a + 4)), .int m_bytes, .int m_errorAt, .int m_size, .int m_next, .int m_error, .int m_place, .int m_began, .int m_nested, .int m_once, .ref (zo w + (a + 5))]))])) (fun q_19 => [.int q_19.1]) (fun _ => zu_sh (d := 0) rfl rfl) (fun _ => rfl) zy_X9_right zw_1251 zw_1253 zv_23 (ci := 9) rfl (zc_i (o := 0) n_a0 rfl) ⟨rfl, rfl⟩ rfl rfl rfl rfl rfl dX9_share_19 rfl (fun q_19 hf => ?_)
    refine z_if_ne (pc' := 25) C 27 hf dX9_share_22 rfl rfl (fun g_22 hf => ?_) (fun g_22 hf => ?_)
    · refine z_iload_n (pc' := 28) C 2 dX9_share_27 rfl rfl rfl ?_
      refine z_i2l (pc' := 29) C dX9_share_28 rfl ?_
      refine z_lstore_n (pc' := 30) C [(3, .long (p2).toInt64), (0, .ref (zo w + a)), (1, .int p1), (2, .int p2)] dX9_share_29 rfl rfl rfl rfl ?_
      refine z_lconst (pc' := 31) C dX9_share_30 zl_0 rfl ?_
      refine z_lstore (pc' := 33) C [(5, .long (0 : Int64)), (3, .long (p2).toInt64), (0, .ref (zo w + a)), (1, .int p1), (2, .int p2)] dX9_share_31 rfl rfl rfl ?_
      refine z_pick (lv' := [(0, .ref (zo w + a)), (1, .int p1), (3, .long (p2).toInt64), (5, .long (0 : Int64))]) [2, 3, 1, 0] rfl ?_
      exact w_X9_share_33 C n_a0 h_a1  FU hf
    · refine z_lconst (pc' := 26) C dX9_share_25 zl_0 rfl ?_
      cases hf
      exact z_lret C rfl rfl dX9_share_26
set_option maxRecDepth 20000 in
theorem c_X9_measure {w : zV} {N : Nat} {h : zH} {a : Nat} {m_thrown : Int32} {m_next : Int32} {m_error : Int32} {m_place : Int32} {m_began : Int32} {m_nested : Int32} {m_once : Int32} {m_now : Int32} {m_undoable : Int32} {m_bytes : Int32} {m_errorAt : Int32} {m_size : Int32} {m_rows : Nat → Int64} {p1 : Int32} {p2 : Int32} {p3 : Int32} (h_a0 : zc N h (a + 0) (.inr (9, [.int m_thrown, .ref (zo w + (a + 1)), .ref (zo w + (a + 2)), .ref (zo w + (a + 3)), .int m_now, .int m_undoable, .ref (zo w + (a + 4)), .int m_bytes, .int m_errorAt, .int m_size, .int m_next, .int m_error, .int m_place, .int m_began, .int m_nested, .int m_once, .ref (zo w + (a + 5))]))) (h_a1 : zc N h (a + 1) (.inl (w.2.2.1 1, 22500, .inr (.inl m_rows)))) {r : Int32 × Int32 × Int32 × Int32 × (Nat → Int64)} (hf : f_X9_measure m_thrown m_now m_undoable m_rows p1 p2 p3 = some r) : zM w yX9_measure cX9_measure 5 (some .int) (zr 3 92) false N N h [.ref (zo w + a), .int p1, .int p2, .int p3] (some (.int r.1)) (zu h a [(0, .inr (9, [.int r.2.1, .ref (zo w + (a + 1)), .ref (zo w + (a + 2)), .ref (zo w + (a + 3)), .int r.2.2.1, .int r.2.2.2.1, .ref (zo w + (a + 4)), .int m_bytes, .int m_errorAt, .int m_size, .int m_next, .int m_error, .int m_place, .int m_began, .int m_nested, .int m_once, .ref (zo w + (a + 5))])), (1, .inl (w.2.2.1 1, 22500, .inr (.inl r.2.2.2.2)))]) := by
  unfold f_X9_measure at hf
  refine zM_of (by decide) rfl (fun X C _ => ?_)
  refine z_eq (h' := (zu h a [(0, .inr (9, [.int m_thrown, .ref (zo w + (a + 1)), .ref (zo w + (a + 2)), .ref (zo w + (a + 3)), .int m_now, .int m_undoable, .ref (zo w + (a + 4)), .int m_bytes, .int m_errorAt, .int m_size, .int m_next, .int m_error, .int m_place, .int m_began, .int m_nested, .int m_once, .ref (zo w + (a + 5))])), (1, .inl (w.2.2.1 1, 22500, .inr (.inl m_rows)))])) (zu_s h_a0 (zu_s h_a1 zu_0)).symm ?_
  have n_a0 := h_a0.1
  have n_a1 := h_a1.1
  refine z_pick (lv' := [(0, .ref (zo w + a)), (1, .int p1), (2, .int p2), (3, .int p3)]) [0, 1, 2, 3] rfl ?_
  refine z_aload_n (pc' := 1) C 0 dX9_measure_0 rfl rfl rfl ?_
  refine z_iload_n (pc' := 2) C 1 dX9_measure_1 rfl rfl rfl ?_
  refine z_iload_n (pc' := 3) C 2 dX9_measure_2 rfl rfl rfl ?_
  refine z_cV (pc' := 6) C hf (As := [.int p1, .int p2]) (fun hq => c_X9_isItem (a := a) (zc_i (o := 0) n_a0 rfl) (zc_i (o := 1) n_a1 rfl) hq) (fun q_3 => (zu h a [(0, .inr (9, [.int q_3.2, .ref (zo w + (a + 1)), .ref (zo w + (a + 2)), .ref (zo w + (a + 3)), .int m_now, .int m_undoable, .ref (zo w + (a + 4)), .int m_bytes, .int m_errorAt, .int m_size, .int m_next, .int m_error, .int m_place, .int m_began, .int m_nested, .int m_once, .ref (zo w + (a + 5))])), (1, .inl (w.2.2.1 1, 22500, .inr (.inl m_rows)))])) (fun q_3 => [.int q_3.1]) (fun _ => zu_sh (d := 0) rfl rfl) (fun _ => rfl) zy_X9_isItem zw_1393 zw_1395 zv_48 (ci := 9) rfl (zc_i (o := 0) n_a0 rfl) ⟨rfl, rfl⟩ rfl rfl rfl rfl rfl dX9_measure_3 rfl (fun q_3 hf => ?_)
  refine z_if_eq (pc' := 9) C 26 hf dX9_measure_6 rfl rfl (fun g_6 hf => ?_) (fun g_6 hf => ?_)
  · refine z_iconst (pc' := 27) C dX9_measure_26 zk_iconst_0 rfl ?_
    cases hf
    exact z_iret C rfl rfl dX9_measure_27
  · refine z_aload_n (pc' := 10) C 0 dX9_measure_9 rfl rfl rfl ?_
    refine z_iload_n (pc' := 11) C 3 dX9_measure_10 rfl rfl rfl ?_
    refine z_i2l (pc' := 12) C dX9_measure_11 rfl ?_
    refine z_lconst (pc' := 13) C dX9_measure_12 zl_0 rfl ?_
    refine z_ldc2 (pc' := 16) C zw_1417 dX9_measure_13 rfl ?_
    refine z_cS (pc' := 19) C hf (As := [.long (p3).toInt64, .long (0 : Int64), .long (100 : Int64)]) (fun hq => c_X9_isIn  hq) (fun _ => (zu h a [(0, .inr (9, [.int q_3.2, .ref (zo w + (a + 1)), .ref (zo w + (a + 2)), .ref (zo w + (a + 3)), .int m_now, .int m_undoable, .ref (zo w + (a + 4)), .int m_bytes, .int m_errorAt, .int m_size, .int m_next, .int m_error, .int m_place, .int m_began, .int m_nested, .int m_once, .ref (zo w + (a + 5))])), (1, .inl (w.2.2.1 1, 22500, .inr (.inl m_rows)))])) (fun q_16 => [.int q_16, .ref (zo w + a)]) (fun _ => rfl) (fun _ => rfl) zy_X9_isIn zw_1248 zw_1249 ⟨rfl, rfl⟩ rfl rfl rfl rfl rfl dX9_measure_16 rfl (fun q_16 hf => ?_)
    refine z_iconst (pc' := 20) C dX9_measure_19 zk_iconst_2 rfl ?_
    refine z_cV (pc' := 23) C hf (As := [.int q_16, .int (2 : Int32)]) (fun hq => c_X9_right (a := a) (zc_i (o := 0) n_a0 rfl) hq) (fun q_20 => (zu h a [(0, .inr (9, [.int q_20.2, .ref (zo w + (a + 1)), .ref (zo w + (a + 2)), .ref (zo w + (a + 3)), .int m_now, .int m_undoable, .ref (zo w + (a + 4)), .int m_bytes, .int m_errorAt, .int m_size, .int m_next, .int m_error, .int m_place, .int m_began, .int m_nested, .int m_once, .ref (zo w + (a + 5))])), (1, .inl (w.2.2.1 1, 22500, .inr (.inl m_rows)))])) (fun q_20 => [.int q_20.1]) (fun _ => zu_sh (d := 0) rfl rfl) (fun _ => rfl) zy_X9_right zw_1251 zw_1253 zv_23 (ci := 9) rfl (zc_i (o := 0) n_a0 rfl) ⟨rfl, rfl⟩ rfl rfl rfl rfl rfl dX9_measure_20 rfl (fun q_20 hf => ?_)
    refine z_if_ne (pc' := 26) C 28 hf dX9_measure_23 rfl rfl (fun g_23 hf => ?_) (fun g_23 hf => ?_)
    · refine z_aload_n (pc' := 29) C 0 dX9_measure_28 rfl rfl rfl ?_
      refine z_aload_n (pc' := 30) C 0 dX9_measure_29 rfl rfl rfl ?_
      refine z_iload_n (pc' := 31) C 1 dX9_measure_30 rfl rfl rfl ?_
      refine z_iload_n (pc' := 32) C 2 dX9_measure_31 rfl rfl rfl ?_
      refine z_cV (pc' := 35) C hf (As := [.int p1, .int p2]) (fun hq => c_X9_itemAt (a := a) (zc_i (o := 0) n_a0 rfl) hq) (fun _ => (zu h a [(0, .inr (9, [.int q_20.2, .ref (zo w + (a + 1)), .ref (zo w + (a + 2)), .ref (zo w + (a + 3)), .int m_now, .int m_undoable, .ref (zo w + (a + 4)), .int m_bytes, .int m_errorAt, .int m_size, .int m_next, .int m_error, .int m_place, .int m_began, .int m_nested, .int m_once, .ref (zo w + (a + 5))])), (1, .inl (w.2.2.1 1, 22500, .inr (.inl m_rows)))])) (fun q_32 => [.int q_32, .ref (zo w + a)]) (fun _ => rfl) (fun _ => rfl) zy_X9_itemAt zw_1401 zw_1403 zv_50 (ci := 9) rfl (zc_i (o := 0) n_a0 rfl) ⟨rfl, rfl⟩ rfl rfl rfl rfl rfl dX9_measure_32 rfl (fun q_32 hf => ?_)
      refine z_iconst (pc' := 36) C dX9_measure_35 zk_iconst_2 rfl ?_
      refine z_iadd (pc' := 37) C dX9_measure_36 rfl ?_
      refine z_cV (pc' := 40) C hf (As := [.int (q_32 + (2 : Int32))]) (fun hq => c_X9_small (a := a) (zc_i (o := 0) n_a0 rfl) (zc_i (o := 1) n_a1 rfl) hq) (fun _ => (zu h a [(0, .inr (9, [.int q_20.2, .ref (zo w + (a + 1)), .ref (zo w + (a + 2)), .ref (zo w + (a + 3)), .int m_now, .int m_undoable, .ref (zo w + (a + 4)), .int m_bytes, .int m_errorAt, .int m_size, .int m_next, .int m_error, .int m_place, .int m_began, .int m_nested, .int m_once, .ref (zo w + (a + 5))])), (1, .inl (w.2.2.1 1, 22500, .inr (.inl m_rows)))])) (fun q_37 => [.int q_37]) (fun _ => rfl) (fun _ => rfl) zy_X9_small zw_1357 zw_1359 zv_45 (ci := 9) rfl (zc_i (o := 0) n_a0 rfl) ⟨rfl, rfl⟩ rfl rfl rfl rfl rfl dX9_measure_37 rfl (fun q_37 hf => ?_)
      refine z_istore (pc' := 42) C [(4, .int q_37), (0, .ref (zo w + a)), (1, .int p1), (2, .int p2), (3, .int p3)] dX9_measure_40 rfl rfl rfl ?_
      refine z_aload_n (pc' := 43) C 1 dX9_measure_42 rfl rfl rfl ?_
      refine z_cV (pc' := 46) C hf (As := []) (fun hq => c_X9_change (a := a) (zc_i (o := 0) n_a0 rfl) (zc_i (o := 1) n_a1 rfl) hq) (fun q_43 => (zu h a [(0, .inr (9, [.int q_20.2, .ref (zo w + (a + 1)), .ref (zo w + (a + 2)), .ref (zo w + (a + 3)), .int q_43.1, .int q_43.2.1, .ref (zo w + (a + 4)), .int m_bytes, .int m_errorAt, .int m_size, .int m_next, .int m_error, .int m_place, .int m_began, .int m_nested, .int m_once, .ref (zo w + (a + 5))])), (1, .inl (w.2.2.1 1, 22500, .inr (.inl q_43.2.2)))])) (fun q_43 => []) (fun _ => zu_sh (d := 0) rfl rfl) (fun _ => rfl) zy_X9_change zw_1345 zw_1347 zv_42 (ci := 9) rfl (zc_i (o := 0) n_a0 rfl) ⟨rfl, rfl⟩ rfl rfl rfl rfl rfl dX9_measure_43 rfl (fun q_43 hf => ?_)
      refine z_aload_n (pc' := 47) C 1 dX9_measure_46 rfl rfl rfl ?_
      refine z_aload_n (pc' := 48) C 1 dX9_measure_47 rfl rfl rfl ?_
      refine z_iload_n (pc' := 49) C 2 dX9_measure_48 rfl rfl rfl ?_
      refine z_iload_n (pc' := 50) C 3 dX9_measure_49 rfl rfl rfl ?_
      refine z_cV (pc' := 53) C hf (As := [.int p1, .int p2]) (fun hq => c_X9_itemAt (a := a) (zc_i (o := 0) n_a0 rfl) hq) (fun _ => (zu h a [(0, .inr (9, [.int q_20.2, .ref (zo w + (a + 1)), .ref (zo w + (a + 2)), .ref (zo w + (a + 3)), .int q_43.1, .int q_43.2.1, .ref (zo w + (a + 4)), .int m_bytes, .int m_errorAt, .int m_size, .int m_next, .int m_error, .int m_place, .int m_began, .int m_nested, .int m_once, .ref (zo w + (a + 5))])), (1, .inl (w.2.2.1 1, 22500, .inr (.inl q_43.2.2)))])) (fun q_50 => [.int q_50, .ref (zo w + a)]) (fun _ => rfl) (fun _ => rfl) zy_X9_itemAt zw_1401 zw_1403 zv_50 (ci := 9) rfl (zc_i (o := 0) n_a0 rfl) ⟨rfl, rfl⟩ rfl rfl rfl rfl rfl dX9_measure_50 rfl (fun q_50 hf => ?_)
      refine z_iconst (pc' := 54) C dX9_measure_53 zk_iconst_2 rfl ?_
      refine z_iadd (pc' := 55) C dX9_measure_54 rfl ?_
      refine z_iload_n (pc' := 56) C 4 dX9_measure_55 rfl rfl rfl ?_
      refine z_i2l (pc' := 57) C dX9_measure_56 rfl ?_
      refine z_cV (pc' := 60) C hf (As := [.int (q_50 + (2 : Int32)), .long (p3).toInt64]) (fun hq => c_X9_put (a := a) (zc_i (o := 0) n_a0 rfl) (zc_i (o := 1) n_a1 rfl) hq) (fun q_57 => (zu h a [(0, .inr (9, [.int q_20.2, .ref (zo w + (a + 1)), .ref (zo w + (a + 2)), .ref (zo w + (a + 3)), .int q_43.1, .int q_43.2.1, .ref (zo w + (a + 4)), .int m_bytes, .int m_errorAt, .int m_size, .int m_next, .int m_error, .int m_place, .int m_began, .int m_nested, .int m_once, .ref (zo w + (a + 5))])), (1, .inl (w.2.2.1 1, 22500, .inr (.inl q_57)))])) (fun q_57 => []) (fun _ => zu_sh (d := 0) rfl rfl) (fun _ => rfl) zy_X9_put zw_1353 zw_1355 zv_44 (ci := 9) rfl (zc_i (o := 0) n_a0 rfl) ⟨rfl, rfl⟩ rfl rfl rfl rfl rfl dX9_measure_57 rfl (fun q_57 hf => ?_)
      refine z_iload (pc' := 62) C 0 dX9_measure_60 rfl rfl ?_
      cases hf
      exact z_iret C rfl rfl dX9_measure_62
    · refine z_iconst (pc' := 27) C dX9_measure_26 zk_iconst_0 rfl ?_
      cases hf
      exact z_iret C rfl rfl dX9_measure_27
set_option maxRecDepth 20000 in
theorem w_X9_propose_58 {X : zC} {w : zV} {N : Nat} {h : zH} {a : Nat} {m_next : Int32} {m_error : Int32} {m_place : Int32} {m_began : Int32} {m_nested : Int32} {m_once : Int32} {m_bytes : Int32} {m_errorAt : Int32} {m_size : Int32} (C : zK X w RX9 cX9_propose 5 (some .int) (zr 3 92)) (n_a0 : a + 0 < N) (n_a1 : a + 1 < N) {r : Int32 × Int32 × Int32 × Int32 × (Nat → Int64)} {m_thrown : Int32} {m_now : Int32} {m_undoable : Int32} {m_rows : Nat → Int64} {x1 : Int32} {x2 : Int32} {x3 : Int32} {s1 : Int32} (hf : f_X9_propose_58  m_thrown m_now m_undoable m_rows x1 x2 x3 s1 = some r) : zZ X w (zQ X w (zr 3 92) (some (.int r.1)) false N (zu h a [(0, .inr (9, [.int r.2.1, .ref (zo w + (a + 1)), .ref (zo w + (a + 2)), .ref (zo w + (a + 3)), .int r.2.2.1, .int r.2.2.2.1, .ref (zo w + (a + 4)), .int m_bytes, .int m_errorAt, .int m_size, .int m_next, .int m_error, .int m_place, .int m_began, .int m_nested, .int m_once, .ref (zo w + (a + 5))])), (1, .inl (w.2.2.1 1, 22500, .inr (.inl r.2.2.2.2)))])) 0 0 false N (zu h a [(0, .inr (9, [.int m_thrown, .ref (zo w + (a + 1)), .ref (zo w + (a + 2)), .ref (zo w + (a + 3)), .int m_now, .int m_undoable, .ref (zo w + (a + 4)), .int m_bytes, .int m_errorAt, .int m_size, .int m_next, .int m_error, .int m_place, .int m_began, .int m_nested, .int m_once, .ref (zo w + (a + 5))])), (1, .inl (w.2.2.1 1, 22500, .inr (.inl m_rows)))]) 58 [(0, .ref (zo w + a)), (1, .int x1), (2, .int x2), (3, .int x3)] [.int s1, .ref (zo w + a)] := by
  unfold f_X9_propose_58 at hf
  refine z_iconst (pc' := 59) C dX9_propose_58 zk_iconst_3 rfl ?_
  refine z_cV (pc' := 62) C hf (As := [.int s1, .int (3 : Int32)]) (fun hq => c_X9_right (a := a) (zc_i (o := 0) n_a0 rfl) hq) (fun q_59 => (zu h a [(0, .inr (9, [.int q_59.2, .ref (zo w + (a + 1)), .ref (zo w + (a + 2)), .ref (zo w + (a + 3)), .int m_now, .int m_undoable, .ref (zo w + (a + 4)), .int m_bytes, .int m_errorAt, .int m_size, .int m_next, .int m_error, .int m_place, .int m_began, .int m_nested, .int m_once, .ref (zo w + (a + 5))])), (1, .inl (w.2.2.1 1, 22500, .inr (.inl m_rows)))])) (fun q_59 => [.int q_59.1]) (fun _ => zu_sh (d := 0) rfl rfl) (fun _ => rfl) zy_X9_right zw_1251 zw_1253 zv_23 (ci := 9) rfl (zc_i (o := 0) n_a0 rfl) ⟨rfl, rfl⟩ rfl rfl rfl rfl rfl dX9_propose_59 rfl (fun q_59 hf => ?_)
  refine z_if_ne (pc' := 65) C 67 hf dX9_propose_62 rfl rfl (fun g_62 hf => ?_) (fun g_62 hf => ?_)
  · refine z_aload_n (pc' := 68) C 0 dX9_propose_67 rfl rfl rfl ?_
    refine z_cV (pc' := 71) C hf (As := []) (fun hq => c_X9_change (a := a) (zc_i (o := 0) n_a0 rfl) (zc_i (o := 1) n_a1 rfl) hq) (fun q_68 => (zu h a [(0, .inr (9, [.int q_59.2, .ref (zo w + (a + 1)), .ref (zo w + (a + 2)), .ref (zo w + (a + 3)), .int q_68.1, .int q_68.2.1, .ref (zo w + (a + 4)), .int m_bytes, .int m_errorAt, .int m_size, .int m_next, .int m_error, .int m_place, .int m_began, .int m_nested, .int m_once, .ref (zo w + (a + 5))])), (1, .inl (w.2.2.1 1, 22500, .inr (.inl q_68.2.2)))])) (fun q_68 => []) (fun _ => zu_sh (d := 0) rfl rfl) (fun _ => rfl) zy_X9_change zw_1345 zw_1347 zv_42 (ci := 9) rfl (zc_i (o := 0) n_a0 rfl) ⟨rfl, rfl⟩ rfl rfl rfl rfl rfl dX9_propose_68 rfl (fun q_68 hf => ?_)
    refine z_sipush (pc' := 74) C dX9_propose_71 zk_sipush_230 rfl ?_
    refine z_iconst (pc' := 75) C dX9_propose_74 zk_iconst_4 rfl ?_
    refine z_aload_n (pc' := 76) C 0 dX9_propose_75 rfl rfl rfl ?_
    refine z_iconst (pc' := 77) C dX9_propose_76 zk_iconst_4 rfl ?_
    refine z_cV (pc' := 80) C hf (As := [.int (4 : Int32)]) (fun hq => c_X9_small (a := a) (zc_i (o := 0) n_a0 rfl) (zc_i (o := 1) n_a1 rfl) hq) (fun _ => (zu h a [(0, .inr (9, [.int q_59.2, .ref (zo w + (a + 1)), .ref (zo w + (a + 2)), .ref (zo w + (a + 3)), .int q_68.1, .int q_68.2.1, .ref (zo w + (a + 4)), .int m_bytes, .int m_errorAt, .int m_size, .int m_next, .int m_error, .int m_place, .int m_began, .int m_nested, .int m_once, .ref (zo w + (a + 5))])), (1, .inl (w.2.2.1 1, 22500, .inr (.inl q_68.2.2)))])) (fun q_77 => [.int q_77, .int (4 : Int32), .int (230 : Int32)]) (fun _ => rfl) (fun _ => rfl) zy_X9_small zw_1357 zw_1359 zv_45 (ci := 9) rfl (zc_i (o := 0) n_a0 rfl) ⟨rfl, rfl⟩ rfl rfl rfl rfl rfl dX9_propose_77 rfl (fun q_77 hf => ?_)
    refine z_imul (pc' := 81) C dX9_propose_80 rfl ?_
    refine z_iadd (pc' := 82) C dX9_propose_81 rfl ?_
    refine z_istore (pc' := 84) C [(4, .int ((230 : Int32) + ((4 : Int32) * q_77))), (0, .ref (zo w + a)), (1, .int x1), (2, .int x2), (3, .int x3)] dX9_propose_82 rfl rfl rfl ?_
    refine z_aload_n (pc' := 85) C 1 dX9_propose_84 rfl rfl rfl ?_
    refine z_iload (pc' := 87) C 0 dX9_propose_85 rfl rfl ?_
    refine z_iload_n (pc' := 88) C 2 dX9_propose_87 rfl rfl rfl ?_
    refine z_i2l (pc' := 89) C dX9_propose_88 rfl ?_
    refine z_cV (pc' := 92) C hf (As := [.int ((230 : Int32) + ((4 : Int32) * q_77)), .long (x1).toInt64]) (fun hq => c_X9_put (a := a) (zc_i (o := 0) n_a0 rfl) (zc_i (o := 1) n_a1 rfl) hq) (fun q_89 => (zu h a [(0, .inr (9, [.int q_59.2, .ref (zo w + (a + 1)), .ref (zo w + (a + 2)), .ref (zo w + (a + 3)), .int q_68.1, .int q_68.2.1, .ref (zo w + (a + 4)), .int m_bytes, .int m_errorAt, .int m_size, .int m_next, .int m_error, .int m_place, .int m_began, .int m_nested, .int m_once, .ref (zo w + (a + 5))])), (1, .inl (w.2.2.1 1, 22500, .inr (.inl q_89)))])) (fun q_89 => []) (fun _ => zu_sh (d := 0) rfl rfl) (fun _ => rfl) zy_X9_put zw_1353 zw_1355 zv_44 (ci := 9) rfl (zc_i (o := 0) n_a0 rfl) ⟨rfl, rfl⟩ rfl rfl rfl rfl rfl dX9_propose_89 rfl (fun q_89 hf => ?_)
    refine z_aload_n (pc' := 93) C 1 dX9_propose_92 rfl rfl rfl ?_
    refine z_iload (pc' := 95) C 0 dX9_propose_93 rfl rfl ?_
    refine z_iconst (pc' := 96) C dX9_propose_95 zk_iconst_1 rfl ?_
    refine z_iadd (pc' := 97) C dX9_propose_96 rfl ?_
    refine z_iload_n (pc' := 98) C 3 dX9_propose_97 rfl rfl rfl ?_
    refine z_i2l (pc' := 99) C dX9_propose_98 rfl ?_
    refine z_cV (pc' := 102) C hf (As := [.int (((230 : Int32) + ((4 : Int32) * q_77)) + (1 : Int32)), .long (x2).toInt64]) (fun hq => c_X9_put (a := a) (zc_i (o := 0) n_a0 rfl) (zc_i (o := 1) n_a1 rfl) hq) (fun q_99 => (zu h a [(0, .inr (9, [.int q_59.2, .ref (zo w + (a + 1)), .ref (zo w + (a + 2)), .ref (zo w + (a + 3)), .int q_68.1, .int q_68.2.1, .ref (zo w + (a + 4)), .int m_bytes, .int m_errorAt, .int m_size, .int m_next, .int m_error, .int m_place, .int m_began, .int m_nested, .int m_once, .ref (zo w + (a + 5))])), (1, .inl (w.2.2.1 1, 22500, .inr (.inl q_99)))])) (fun q_99 => []) (fun _ => zu_sh (d := 0) rfl rfl) (fun _ => rfl) zy_X9_put zw_1353 zw_1355 zv_44 (ci := 9) rfl (zc_i (o := 0) n_a0 rfl) ⟨rfl, rfl⟩ rfl rfl rfl rfl rfl dX9_propose_99 rfl (fun q_99 hf => ?_)
    refine z_aload_n (pc' := 103) C 1 dX9_propose_102 rfl rfl rfl ?_
    refine z_iload (pc' := 105) C 0 dX9_propose_103 rfl rfl ?_
    refine z_iconst (pc' := 106) C dX9_propose_105 zk_iconst_2 rfl ?_
    refine z_iadd (pc' := 107) C dX9_propose_106 rfl ?_
    refine z_iload_n (pc' := 108) C 4 dX9_propose_107 rfl rfl rfl ?_
    refine z_i2l (pc' := 109) C dX9_propose_108 rfl ?_
    refine z_cV (pc' := 112) C hf (As := [.int (((230 : Int32) + ((4 : Int32) * q_77)) + (2 : Int32)), .long (x3).toInt64]) (fun hq => c_X9_put (a := a) (zc_i (o := 0) n_a0 rfl) (zc_i (o := 1) n_a1 rfl) hq) (fun q_109 => (zu h a [(0, .inr (9, [.int q_59.2, .ref (zo w + (a + 1)), .ref (zo w + (a + 2)), .ref (zo w + (a + 3)), .int q_68.1, .int q_68.2.1, .ref (zo w + (a + 4)), .int m_bytes, .int m_errorAt, .int m_size, .int m_next, .int m_error, .int m_place, .int m_began, .int m_nested, .int m_once, .ref (zo w + (a + 5))])), (1, .inl (w.2.2.1 1, 22500, .inr (.inl q_109)))])) (fun q_109 => []) (fun _ => zu_sh (d := 0) rfl rfl) (fun _ => rfl) zy_X9_put zw_1353 zw_1355 zv_44 (ci := 9) rfl (zc_i (o := 0) n_a0 rfl) ⟨rfl, rfl⟩ rfl rfl rfl rfl rfl dX9_propose_109 rfl (fun q_109 hf => ?_)
    refine z_aload_n (pc' := 113) C 1 dX9_propose_112 rfl rfl rfl ?_
    refine z_iload (pc' := 115) C 0 dX9_propose_113 rfl rfl ?_
    refine z_iconst (pc' := 116) C dX9_propose_115 zk_iconst_3 rfl ?_
    refine z_iadd (pc' := 117) C dX9_propose_116 rfl ?_
    refine z_lconst (pc' := 118) C dX9_propose_117 zl_0 rfl ?_
    refine z_cV (pc' := 121) C hf (As := [.int (((230 : Int32) + ((4 : Int32) * q_77)) + (3 : Int32)), .long (0 : Int64)]) (fun hq => c_X9_put (a := a) (zc_i (o := 0) n_a0 rfl) (zc_i (o := 1) n_a1 rfl) hq) (fun q_118 => (zu h a [(0, .inr (9, [.int q_59.2, .ref (zo w + (a + 1)), .ref (zo w + (a + 2)), .ref (zo w + (a + 3)), .int q_68.1, .int q_68.2.1, .ref (zo w + (a + 4)), .int m_bytes, .int m_errorAt, .int m_size, .int m_next, .int m_error, .int m_place, .int m_began, .int m_nested, .int m_once, .ref (zo w + (a + 5))])), (1, .inl (w.2.2.1 1, 22500, .inr (.inl q_118)))])) (fun q_118 => []) (fun _ => zu_sh (d := 0) rfl rfl) (fun _ => rfl) zy_X9_put zw_1353 zw_1355 zv_44 (ci := 9) rfl (zc_i (o := 0) n_a0 rfl) ⟨rfl, rfl⟩ rfl rfl rfl rfl rfl dX9_propose_118 rfl (fun q_118 hf => ?_)
    refine z_aload_n (pc' := 122) C 1 dX9_propose_121 rfl rfl rfl ?_
    refine z_iconst (pc' := 123) C dX9_propose_122 zk_iconst_4 rfl ?_
    refine z_aload_n (pc' := 124) C 1 dX9_propose_123 rfl rfl rfl ?_
    refine z_iconst (pc' := 125) C dX9_propose_124 zk_iconst_4 rfl ?_
    refine z_cV (pc' := 128) C hf (As := [.int (4 : Int32)]) (fun hq => c_X9_get (a := a) (zc_i (o := 0) n_a0 rfl) (zc_i (o := 1) n_a1 rfl) hq) (fun _ => (zu h a [(0, .inr (9, [.int q_59.2, .ref (zo w + (a + 1)), .ref (zo w + (a + 2)), .ref (zo w + (a + 3)), .int q_68.1, .int q_68.2.1, .ref (zo w + (a + 4)), .int m_bytes, .int m_errorAt, .int m_size, .int m_next, .int m_error, .int m_place, .int m_began, .int m_nested, .int m_once, .ref (zo w + (a + 5))])), (1, .inl (w.2.2.1 1, 22500, .inr (.inl q_118)))])) (fun q_125 => [.long q_125, .int (4 : Int32), .ref (zo w + a)]) (fun _ => rfl) (fun _ => rfl) zy_X9_get zw_1349 zw_1351 zv_43 (ci := 9) rfl (zc_i (o := 0) n_a0 rfl) ⟨rfl, rfl⟩ rfl rfl rfl rfl rfl dX9_propose_125 rfl (fun q_125 hf => ?_)
    refine z_lconst (pc' := 129) C dX9_propose_128 zl_1 rfl ?_
    refine z_ladd (pc' := 130) C dX9_propose_129 rfl ?_
    refine z_cV (pc' := 133) C hf (As := [.int (4 : Int32), .long (q_125 + (1 : Int64))]) (fun hq => c_X9_put (a := a) (zc_i (o := 0) n_a0 rfl) (zc_i (o := 1) n_a1 rfl) hq) (fun q_130 => (zu h a [(0, .inr (9, [.int q_59.2, .ref (zo w + (a + 1)), .ref (zo w + (a + 2)), .ref (zo w + (a + 3)), .int q_68.1, .int q_68.2.1, .ref (zo w + (a + 4)), .int m_bytes, .int m_errorAt, .int m_size, .int m_next, .int m_error, .int m_place, .int m_began, .int m_nested, .int m_once, .ref (zo w + (a + 5))])), (1, .inl (w.2.2.1 1, 22500, .inr (.inl q_130)))])) (fun q_130 => []) (fun _ => zu_sh (d := 0) rfl rfl) (fun _ => rfl) zy_X9_put zw_1353 zw_1355 zv_44 (ci := 9) rfl (zc_i (o := 0) n_a0 rfl) ⟨rfl, rfl⟩ rfl rfl rfl rfl rfl dX9_propose_130 rfl (fun q_130 hf => ?_)
    refine z_aload_n (pc' := 134) C 1 dX9_propose_133 rfl rfl rfl ?_
    refine z_iconst (pc' := 135) C dX9_propose_134 zk_iconst_4 rfl ?_
    refine z_cV (pc' := 138) C hf (As := [.int (4 : Int32)]) (fun hq => c_X9_small (a := a) (zc_i (o := 0) n_a0 rfl) (zc_i (o := 1) n_a1 rfl) hq) (fun _ => (zu h a [(0, .inr (9, [.int q_59.2, .ref (zo w + (a + 1)), .ref (zo w + (a + 2)), .ref (zo w + (a + 3)), .int q_68.1, .int q_68.2.1, .ref (zo w + (a + 4)), .int m_bytes, .int m_errorAt, .int m_size, .int m_next, .int m_error, .int m_place, .int m_began, .int m_nested, .int m_once, .ref (zo w + (a + 5))])), (1, .inl (w.2.2.1 1, 22500, .inr (.inl q_130)))])) (fun q_135 => [.int q_135]) (fun _ => rfl) (fun _ => rfl) zy_X9_small zw_1357 zw_1359 zv_45 (ci := 9) rfl (zc_i (o := 0) n_a0 rfl) ⟨rfl, rfl⟩ rfl rfl rfl rfl rfl dX9_propose_135 rfl (fun q_135 hf => ?_)
    refine z_iconst (pc' := 139) C dX9_propose_138 zk_iconst_1 rfl ?_
    refine z_isub (pc' := 140) C dX9_propose_139 rfl ?_
    cases hf
    exact z_iret C rfl rfl dX9_propose_140
  · refine z_iconst (pc' := 66) C dX9_propose_65 zk_iconst_0 rfl ?_
    cases hf
    exact z_iret C rfl rfl dX9_propose_66
set_option maxRecDepth 20000 in
theorem w_X9_propose_33 {X : zC} {w : zV} {N : Nat} {h : zH} {a : Nat} {m_next : Int32} {m_error : Int32} {m_place : Int32} {m_began : Int32} {m_nested : Int32} {m_once : Int32} {m_bytes : Int32} {m_errorAt : Int32} {m_size : Int32} (C : zK X w RX9 cX9_propose 5 (some .int) (zr 3 92)) (n_a0 : a + 0 < N) (n_a1 : a + 1 < N) {r : Int32 × Int32 × Int32 × Int32 × (Nat → Int64)} {m_thrown : Int32} {m_now : Int32} {m_undoable : Int32} {m_rows : Nat → Int64} {x1 : Int32} {x2 : Int32} {x3 : Int32} {s1 : Int32} (hf : f_X9_propose_33  m_thrown m_now m_undoable m_rows x1 x2 x3 s1 = some r) : zZ X w (zQ X w (zr 3 92) (some (.int r.1)) false N (zu h a [(0, .inr (9, [.int r.2.1, .ref (zo w + (a + 1)), .ref (zo w + (a + 2)), .ref (zo w + (a + 3)), .int r.2.2.1, .int r.2.2.2.1, .ref (zo w + (a + 4)), .int m_bytes, .int m_errorAt, .int m_size, .int m_next, .int m_error, .int m_place, .int m_began, .int m_nested, .int m_once, .ref (zo w + (a + 5))])), (1, .inl (w.2.2.1 1, 22500, .inr (.inl r.2.2.2.2)))])) 0 0 false N (zu h a [(0, .inr (9, [.int m_thrown, .ref (zo w + (a + 1)), .ref (zo w + (a + 2)), .ref (zo w + (a + 3)), .int m_now, .int m_undoable, .ref (zo w + (a + 4)), .int m_bytes, .int m_errorAt, .int m_size, .int m_next, .int m_error, .int m_place, .int m_began, .int m_nested, .int m_once, .ref (zo w + (a + 5))])), (1, .inl (w.2.2.1 1, 22500, .inr (.inl m_rows)))]) 33 [(0, .ref (zo w + a)), (1, .int x1), (2, .int x2), (3, .int x3)] [.int s1, .ref (zo w + a)] := by
  unfold f_X9_propose_33 at hf
  refine z_iconst (pc' := 34) C dX9_propose_33 zk_iconst_2 rfl ?_
  refine z_cV (pc' := 37) C hf (As := [.int s1, .int (2 : Int32)]) (fun hq => c_X9_right (a := a) (zc_i (o := 0) n_a0 rfl) hq) (fun q_34 => (zu h a [(0, .inr (9, [.int q_34.2, .ref (zo w + (a + 1)), .ref (zo w + (a + 2)), .ref (zo w + (a + 3)), .int m_now, .int m_undoable, .ref (zo w + (a + 4)), .int m_bytes, .int m_errorAt, .int m_size, .int m_next, .int m_error, .int m_place, .int m_began, .int m_nested, .int m_once, .ref (zo w + (a + 5))])), (1, .inl (w.2.2.1 1, 22500, .inr (.inl m_rows)))])) (fun q_34 => [.int q_34.1]) (fun _ => zu_sh (d := 0) rfl rfl) (fun _ => rfl) zy_X9_right zw_1251 zw_1253 zv_23 (ci := 9) rfl (zc_i (o := 0) n_a0 rfl) ⟨rfl, rfl⟩ rfl rfl rfl rfl rfl dX9_propose_34 rfl (fun q_34 hf => ?_)
  refine z_if_eq (pc' := 40) C 65 hf dX9_propose_37 rfl rfl (fun g_37 hf => ?_) (fun g_37 hf => ?_)
  · refine z_iconst (pc' := 66) C dX9_propose_65 zk_iconst_0 rfl ?_
    cases hf
    exact z_iret C rfl rfl dX9_propose_66
  · refine z_aload_n (pc' := 41) C 0 dX9_propose_40 rfl rfl rfl ?_
    refine z_aload_n (pc' := 42) C 0 dX9_propose_41 rfl rfl rfl ?_
    refine z_iconst (pc' := 43) C dX9_propose_42 zk_iconst_4 rfl ?_
    refine z_cV (pc' := 46) C hf (As := [.int (4 : Int32)]) (fun hq => c_X9_get (a := a) (zc_i (o := 0) n_a0 rfl) (zc_i (o := 1) n_a1 rfl) hq) (fun _ => (zu h a [(0, .inr (9, [.int q_34.2, .ref (zo w + (a + 1)), .ref (zo w + (a + 2)), .ref (zo w + (a + 3)), .int m_now, .int m_undoable, .ref (zo w + (a + 4)), .int m_bytes, .int m_errorAt, .int m_size, .int m_next, .int m_error, .int m_place, .int m_began, .int m_nested, .int m_once, .ref (zo w + (a + 5))])), (1, .inl (w.2.2.1 1, 22500, .inr (.inl m_rows)))])) (fun q_43 => [.long q_43, .ref (zo w + a)]) (fun _ => rfl) (fun _ => rfl) zy_X9_get zw_1349 zw_1351 zv_43 (ci := 9) rfl (zc_i (o := 0) n_a0 rfl) ⟨rfl, rfl⟩ rfl rfl rfl rfl rfl dX9_propose_43 rfl (fun q_43 hf => ?_)
    refine z_ldc2 (pc' := 49) C zw_1656 dX9_propose_46 rfl ?_
    refine z_lcmp_ge (pc' := 53) C 57 hf dX9_propose_49 rfl dX9_propose_50 rfl rfl (fun g_49 hf => ?_) (fun g_49 hf => ?_)
    · refine z_iconst (pc' := 58) C dX9_propose_57 zk_iconst_0 rfl ?_
      exact w_X9_propose_58 C n_a0 n_a1  hf
    · refine z_iconst (pc' := 54) C dX9_propose_53 zk_iconst_1 rfl ?_
      refine z_goto C 58 dX9_propose_54 rfl ?_
      exact w_X9_propose_58 C n_a0 n_a1  hf
set_option maxRecDepth 20000 in
theorem w_X9_propose_32 {X : zC} {w : zV} {N : Nat} {h : zH} {a : Nat} {m_next : Int32} {m_error : Int32} {m_place : Int32} {m_began : Int32} {m_nested : Int32} {m_once : Int32} {m_bytes : Int32} {m_errorAt : Int32} {m_size : Int32} (C : zK X w RX9 cX9_propose 5 (some .int) (zr 3 92)) (n_a0 : a + 0 < N) (n_a1 : a + 1 < N) {r : Int32 × Int32 × Int32 × Int32 × (Nat → Int64)} {m_thrown : Int32} {m_now : Int32} {m_undoable : Int32} {m_rows : Nat → Int64} {x1 : Int32} {x2 : Int32} {x3 : Int32} (hf : f_X9_propose_32  m_thrown m_now m_undoable m_rows x1 x2 x3 = some r) : zZ X w (zQ X w (zr 3 92) (some (.int r.1)) false N (zu h a [(0, .inr (9, [.int r.2.1, .ref (zo w + (a + 1)), .ref (zo w + (a + 2)), .ref (zo w + (a + 3)), .int r.2.2.1, .int r.2.2.2.1, .ref (zo w + (a + 4)), .int m_bytes, .int m_errorAt, .int m_size, .int m_next, .int m_error, .int m_place, .int m_began, .int m_nested, .int m_once, .ref (zo w + (a + 5))])), (1, .inl (w.2.2.1 1, 22500, .inr (.inl r.2.2.2.2)))])) 0 0 false N (zu h a [(0, .inr (9, [.int m_thrown, .ref (zo w + (a + 1)), .ref (zo w + (a + 2)), .ref (zo w + (a + 3)), .int m_now, .int m_undoable, .ref (zo w + (a + 4)), .int m_bytes, .int m_errorAt, .int m_size, .int m_next, .int m_error, .int m_place, .int m_began, .int m_nested, .int m_once, .ref (zo w + (a + 5))])), (1, .inl (w.2.2.1 1, 22500, .inr (.inl m_rows)))]) 32 [(0, .ref (zo w + a)), (1, .int x1), (2, .int x2), (3, .int x3)] [.ref (zo w + a)] := by
  unfold f_X9_propose_32 at hf
  refine z_iconst (pc' := 33) C dX9_propose_32 zk_iconst_0 rfl ?_
  exact w_X9_propose_33 C n_a0 n_a1  hf
set_option maxRecDepth 20000 in
theorem c_X9_propose {w : zV} {N : Nat} {h : zH} {a : Nat} {m_thrown : Int32} {m_next : Int32} {m_error : Int32} {m_place : Int32} {m_began : Int32} {m_nested : Int32} {m_once : Int32} {m_now : Int32} {m_undoable : Int32} {m_bytes : Int32} {m_errorAt : Int32} {m_size : Int32} {m_rows : Nat → Int64} {p1 : Int32} {p2 : Int32} {p3 : Int32} (h_a0 : zc N h (a + 0) (.inr (9, [.int m_thrown, .ref (zo w + (a + 1)), .ref (zo w + (a + 2)), .ref (zo w + (a + 3)), .int m_now, .int m_undoable, .ref (zo w + (a + 4)), .int m_bytes, .int m_errorAt, .int m_size, .int m_next, .int m_error, .int m_place, .int m_began, .int m_nested, .int m_once, .ref (zo w + (a + 5))]))) (h_a1 : zc N h (a + 1) (.inl (w.2.2.1 1, 22500, .inr (.inl m_rows)))) {r : Int32 × Int32 × Int32 × Int32 × (Nat → Int64)} (hf : f_X9_propose m_thrown m_now m_undoable m_rows p1 p2 p3 = some r) : zM w yX9_propose cX9_propose 5 (some .int) (zr 3 92) false N N h [.ref (zo w + a), .int p1, .int p2, .int p3] (some (.int r.1)) (zu h a [(0, .inr (9, [.int r.2.1, .ref (zo w + (a + 1)), .ref (zo w + (a + 2)), .ref (zo w + (a + 3)), .int r.2.2.1, .int r.2.2.2.1, .ref (zo w + (a + 4)), .int m_bytes, .int m_errorAt, .int m_size, .int m_next, .int m_error, .int m_place, .int m_began, .int m_nested, .int m_once, .ref (zo w + (a + 5))])), (1, .inl (w.2.2.1 1, 22500, .inr (.inl r.2.2.2.2)))]) := by
  unfold f_X9_propose at hf
  refine zM_of (by decide) rfl (fun X C _ => ?_)
  refine z_eq (h' := (zu h a [(0, .inr (9, [.int m_thrown, .ref (zo w + (a + 1)), .ref (zo w + (a + 2)), .ref (zo w + (a + 3)), .int m_now, .int m_undoable, .ref (zo w + (a + 4)), .int m_bytes, .int m_errorAt, .int m_size, .int m_next, .int m_error, .int m_place, .int m_began, .int m_nested, .int m_once, .ref (zo w + (a + 5))])), (1, .inl (w.2.2.1 1, 22500, .inr (.inl m_rows)))])) (zu_s h_a0 (zu_s h_a1 zu_0)).symm ?_
  have n_a0 := h_a0.1
  have n_a1 := h_a1.1
  refine z_pick (lv' := [(0, .ref (zo w + a)), (1, .int p1), (2, .int p2), (3, .int p3)]) [0, 1, 2, 3] rfl ?_
  refine z_aload_n (pc' := 1) C 0 dX9_propose_0 rfl rfl rfl ?_
  refine z_iload_n (pc' := 2) C 1 dX9_propose_1 rfl rfl rfl ?_
  refine z_iload_n (pc' := 3) C 2 dX9_propose_2 rfl rfl rfl ?_
  refine z_cV (pc' := 6) C hf (As := [.int p1, .int p2]) (fun hq => c_X9_isItem (a := a) (zc_i (o := 0) n_a0 rfl) (zc_i (o := 1) n_a1 rfl) hq) (fun q_3 => (zu h a [(0, .inr (9, [.int q_3.2, .ref (zo w + (a + 1)), .ref (zo w + (a + 2)), .ref (zo w + (a + 3)), .int m_now, .int m_undoable, .ref (zo w + (a + 4)), .int m_bytes, .int m_errorAt, .int m_size, .int m_next, .int m_error, .int m_place, .int m_began, .int m_nested, .int m_once, .ref (zo w + (a + 5))])), (1, .inl (w.2.2.1 1, 22500, .inr (.inl m_rows)))])) (fun q_3 => [.int q_3.1]) (fun _ => zu_sh (d := 0) rfl rfl) (fun _ => rfl) zy_X9_isItem zw_1393 zw_1395 zv_48 (ci := 9) rfl (zc_i (o := 0) n_a0 rfl) ⟨rfl, rfl⟩ rfl rfl rfl rfl rfl dX9_propose_3 rfl (fun q_3 hf => ?_)
  refine z_if_eq (pc' := 9) C 65 hf dX9_propose_6 rfl rfl (fun g_6 hf => ?_) (fun g_6 hf => ?_)
  · refine z_iconst (pc' := 66) C dX9_propose_65 zk_iconst_0 rfl ?_
    cases hf
    exact z_iret C rfl rfl dX9_propose_66
  · refine z_aload_n (pc' := 10) C 0 dX9_propose_9 rfl rfl rfl ?_
    refine z_iload_n (pc' := 11) C 3 dX9_propose_10 rfl rfl rfl ?_
    refine z_i2l (pc' := 12) C dX9_propose_11 rfl ?_
    refine z_ldc2 (pc' := 15) C zw_1654 dX9_propose_12 rfl ?_
    refine z_ldc2 (pc' := 18) C zw_1655 dX9_propose_15 rfl ?_
    refine z_cS (pc' := 21) C hf (As := [.long (p3).toInt64, .long (-999 : Int64), .long (999 : Int64)]) (fun hq => c_X9_isIn  hq) (fun _ => (zu h a [(0, .inr (9, [.int q_3.2, .ref (zo w + (a + 1)), .ref (zo w + (a + 2)), .ref (zo w + (a + 3)), .int m_now, .int m_undoable, .ref (zo w + (a + 4)), .int m_bytes, .int m_errorAt, .int m_size, .int m_next, .int m_error, .int m_place, .int m_began, .int m_nested, .int m_once, .ref (zo w + (a + 5))])), (1, .inl (w.2.2.1 1, 22500, .inr (.inl m_rows)))])) (fun q_18 => [.int q_18, .ref (zo w + a)]) (fun _ => rfl) (fun _ => rfl) zy_X9_isIn zw_1248 zw_1249 ⟨rfl, rfl⟩ rfl rfl rfl rfl rfl dX9_propose_18 rfl (fun q_18 hf => ?_)
    refine z_if_eq (pc' := 24) C 32 hf dX9_propose_21 rfl rfl (fun g_21 hf => ?_) (fun g_21 hf => ?_)
    · exact w_X9_propose_32 C n_a0 n_a1  hf
    · refine z_iload_n (pc' := 25) C 3 dX9_propose_24 rfl rfl rfl ?_
      refine z_if_eq (pc' := 28) C 32 hf dX9_propose_25 rfl rfl (fun g_25 hf => ?_) (fun g_25 hf => ?_)
      · exact w_X9_propose_32 C n_a0 n_a1  hf
      · refine z_iconst (pc' := 29) C dX9_propose_28 zk_iconst_1 rfl ?_
        refine z_goto C 33 dX9_propose_29 rfl ?_
        exact w_X9_propose_33 C n_a0 n_a1  hf
set_option maxRecDepth 20000 in
theorem w_X9_approve_42 {X : zC} {w : zV} {N : Nat} {h : zH} {a : Nat} {m_next : Int32} {m_error : Int32} {m_place : Int32} {m_began : Int32} {m_nested : Int32} {m_once : Int32} {m_bytes : Int32} {m_errorAt : Int32} {m_size : Int32} (C : zK X w RX9 cX9_approve 3 (some .int) (zr 4 123)) (n_a0 : a + 0 < N) (n_a1 : a + 1 < N) {r : Int32 × Int32 × Int32 × Int32 × (Nat → Int64)} {m_thrown : Int32} {m_now : Int32} {m_undoable : Int32} {m_rows : Nat → Int64} {x1 : Int32} {s1 : Int32} (hf : f_X9_approve_42  m_thrown m_now m_undoable m_rows x1 s1 = some r) : zZ X w (zQ X w (zr 4 123) (some (.int r.1)) false N (zu h a [(0, .inr (9, [.int r.2.1, .ref (zo w + (a + 1)), .ref (zo w + (a + 2)), .ref (zo w + (a + 3)), .int r.2.2.1, .int r.2.2.2.1, .ref (zo w + (a + 4)), .int m_bytes, .int m_errorAt, .int m_size, .int m_next, .int m_error, .int m_place, .int m_began, .int m_nested, .int m_once, .ref (zo w + (a + 5))])), (1, .inl (w.2.2.1 1, 22500, .inr (.inl r.2.2.2.2)))])) 0 0 false N (zu h a [(0, .inr (9, [.int m_thrown, .ref (zo w + (a + 1)), .ref (zo w + (a + 2)), .ref (zo w + (a + 3)), .int m_now, .int m_undoable, .ref (zo w + (a + 4)), .int m_bytes, .int m_errorAt, .int m_size, .int m_next, .int m_error, .int m_place, .int m_began, .int m_nested, .int m_once, .ref (zo w + (a + 5))])), (1, .inl (w.2.2.1 1, 22500, .inr (.inl m_rows)))]) 42 [(0, .ref (zo w + a)), (1, .int x1)] [.int s1, .ref (zo w + a)] := by
  unfold f_X9_approve_42 at hf
  refine z_iconst (pc' := 43) C dX9_approve_42 zk_iconst_2 rfl ?_
  refine z_cV (pc' := 46) C hf (As := [.int s1, .int (2 : Int32)]) (fun hq => c_X9_right (a := a) (zc_i (o := 0) n_a0 rfl) hq) (fun q_43 => (zu h a [(0, .inr (9, [.int q_43.2, .ref (zo w + (a + 1)), .ref (zo w + (a + 2)), .ref (zo w + (a + 3)), .int m_now, .int m_undoable, .ref (zo w + (a + 4)), .int m_bytes, .int m_errorAt, .int m_size, .int m_next, .int m_error, .int m_place, .int m_began, .int m_nested, .int m_once, .ref (zo w + (a + 5))])), (1, .inl (w.2.2.1 1, 22500, .inr (.inl m_rows)))])) (fun q_43 => [.int q_43.1]) (fun _ => zu_sh (d := 0) rfl rfl) (fun _ => rfl) zy_X9_right zw_1251 zw_1253 zv_23 (ci := 9) rfl (zc_i (o := 0) n_a0 rfl) ⟨rfl, rfl⟩ rfl rfl rfl rfl rfl dX9_approve_43 rfl (fun q_43 hf => ?_)
  refine z_if_ne (pc' := 49) C 51 hf dX9_approve_46 rfl rfl (fun g_46 hf => ?_) (fun g_46 hf => ?_)
  · refine z_aload_n (pc' := 52) C 0 dX9_approve_51 rfl rfl rfl ?_
    refine z_iload_n (pc' := 53) C 1 dX9_approve_52 rfl rfl rfl ?_
    refine z_cV (pc' := 56) C hf (As := [.int x1]) (fun hq => c_X9_quantityBy (a := a) (zc_i (o := 0) n_a0 rfl) (zc_i (o := 1) n_a1 rfl) hq) (fun _ => (zu h a [(0, .inr (9, [.int q_43.2, .ref (zo w + (a + 1)), .ref (zo w + (a + 2)), .ref (zo w + (a + 3)), .int m_now, .int m_undoable, .ref (zo w + (a + 4)), .int m_bytes, .int m_errorAt, .int m_size, .int m_next, .int m_error, .int m_place, .int m_began, .int m_nested, .int m_once, .ref (zo w + (a + 5))])), (1, .inl (w.2.2.1 1, 22500, .inr (.inl m_rows)))])) (fun q_53 => [.long q_53]) (fun _ => rfl) (fun _ => rfl) zy_X9_quantityBy zw_1590 zw_1592 zv_71 (ci := 9) rfl (zc_i (o := 0) n_a0 rfl) ⟨rfl, rfl⟩ rfl rfl rfl rfl rfl dX9_approve_53 rfl (fun q_53 hf => ?_)
    refine z_l2i (pc' := 57) C dX9_approve_56 rfl ?_
    refine z_istore_n (pc' := 58) C [(2, .int (q_53).toInt32), (0, .ref (zo w + a)), (1, .int x1)] dX9_approve_57 rfl rfl rfl rfl ?_
    refine z_aload_n (pc' := 59) C 1 dX9_approve_58 rfl rfl rfl ?_
    refine z_cV (pc' := 62) C hf (As := []) (fun hq => c_X9_change (a := a) (zc_i (o := 0) n_a0 rfl) (zc_i (o := 1) n_a1 rfl) hq) (fun q_59 => (zu h a [(0, .inr (9, [.int q_43.2, .ref (zo w + (a + 1)), .ref (zo w + (a + 2)), .ref (zo w + (a + 3)), .int q_59.1, .int q_59.2.1, .ref (zo w + (a + 4)), .int m_bytes, .int m_errorAt, .int m_size, .int m_next, .int m_error, .int m_place, .int m_began, .int m_nested, .int m_once, .ref (zo w + (a + 5))])), (1, .inl (w.2.2.1 1, 22500, .inr (.inl q_59.2.2)))])) (fun q_59 => []) (fun _ => zu_sh (d := 0) rfl rfl) (fun _ => rfl) zy_X9_change zw_1345 zw_1347 zv_42 (ci := 9) rfl (zc_i (o := 0) n_a0 rfl) ⟨rfl, rfl⟩ rfl rfl rfl rfl rfl dX9_approve_59 rfl (fun q_59 hf => ?_)
    refine z_aload_n (pc' := 63) C 1 dX9_approve_62 rfl rfl rfl ?_
    refine z_sipush (pc' := 66) C dX9_approve_63 zk_sipush_230 rfl ?_
    refine z_iconst (pc' := 67) C dX9_approve_66 zk_iconst_4 rfl ?_
    refine z_iload_n (pc' := 68) C 2 dX9_approve_67 rfl rfl rfl ?_
    refine z_imul (pc' := 69) C dX9_approve_68 rfl ?_
    refine z_iadd (pc' := 70) C dX9_approve_69 rfl ?_
    refine z_iconst (pc' := 71) C dX9_approve_70 zk_iconst_3 rfl ?_
    refine z_iadd (pc' := 72) C dX9_approve_71 rfl ?_
    refine z_lconst (pc' := 73) C dX9_approve_72 zl_1 rfl ?_
    refine z_cV (pc' := 76) C hf (As := [.int (((230 : Int32) + ((4 : Int32) * x1)) + (3 : Int32)), .long (1 : Int64)]) (fun hq => c_X9_put (a := a) (zc_i (o := 0) n_a0 rfl) (zc_i (o := 1) n_a1 rfl) hq) (fun q_73 => (zu h a [(0, .inr (9, [.int q_43.2, .ref (zo w + (a + 1)), .ref (zo w + (a + 2)), .ref (zo w + (a + 3)), .int q_59.1, .int q_59.2.1, .ref (zo w + (a + 4)), .int m_bytes, .int m_errorAt, .int m_size, .int m_next, .int m_error, .int m_place, .int m_began, .int m_nested, .int m_once, .ref (zo w + (a + 5))])), (1, .inl (w.2.2.1 1, 22500, .inr (.inl q_73)))])) (fun q_73 => []) (fun _ => zu_sh (d := 0) rfl rfl) (fun _ => rfl) zy_X9_put zw_1353 zw_1355 zv_44 (ci := 9) rfl (zc_i (o := 0) n_a0 rfl) ⟨rfl, rfl⟩ rfl rfl rfl rfl rfl dX9_approve_73 rfl (fun q_73 hf => ?_)
    refine z_iload_n (pc' := 77) C 0 dX9_approve_76 rfl rfl rfl ?_
    cases hf
    exact z_iret C rfl rfl dX9_approve_77
  · refine z_iconst (pc' := 50) C dX9_approve_49 zk_iconst_0 rfl ?_
    cases hf
    exact z_iret C rfl rfl dX9_approve_50
set_option maxRecDepth 20000 in
theorem w_X9_approve_41 {X : zC} {w : zV} {N : Nat} {h : zH} {a : Nat} {m_next : Int32} {m_error : Int32} {m_place : Int32} {m_began : Int32} {m_nested : Int32} {m_once : Int32} {m_bytes : Int32} {m_errorAt : Int32} {m_size : Int32} (C : zK X w RX9 cX9_approve 3 (some .int) (zr 4 123)) (n_a0 : a + 0 < N) (n_a1 : a + 1 < N) {r : Int32 × Int32 × Int32 × Int32 × (Nat → Int64)} {m_thrown : Int32} {m_now : Int32} {m_undoable : Int32} {m_rows : Nat → Int64} {x1 : Int32} (hf : f_X9_approve_41  m_thrown m_now m_undoable m_rows x1 = some r) : zZ X w (zQ X w (zr 4 123) (some (.int r.1)) false N (zu h a [(0, .inr (9, [.int r.2.1, .ref (zo w + (a + 1)), .ref (zo w + (a + 2)), .ref (zo w + (a + 3)), .int r.2.2.1, .int r.2.2.2.1, .ref (zo w + (a + 4)), .int m_bytes, .int m_errorAt, .int m_size, .int m_next, .int m_error, .int m_place, .int m_began, .int m_nested, .int m_once, .ref (zo w + (a + 5))])), (1, .inl (w.2.2.1 1, 22500, .inr (.inl r.2.2.2.2)))])) 0 0 false N (zu h a [(0, .inr (9, [.int m_thrown, .ref (zo w + (a + 1)), .ref (zo w + (a + 2)), .ref (zo w + (a + 3)), .int m_now, .int m_undoable, .ref (zo w + (a + 4)), .int m_bytes, .int m_errorAt, .int m_size, .int m_next, .int m_error, .int m_place, .int m_began, .int m_nested, .int m_once, .ref (zo w + (a + 5))])), (1, .inl (w.2.2.1 1, 22500, .inr (.inl m_rows)))]) 41 [(0, .ref (zo w + a)), (1, .int x1)] [.ref (zo w + a)] := by
  unfold f_X9_approve_41 at hf
  refine z_iconst (pc' := 42) C dX9_approve_41 zk_iconst_0 rfl ?_
  exact w_X9_approve_42 C n_a0 n_a1  hf
set_option maxRecDepth 20000 in
theorem c_X9_approve {w : zV} {N : Nat} {h : zH} {a : Nat} {m_thrown : Int32} {m_next : Int32} {m_error : Int32} {m_place : Int32} {m_began : Int32} {m_nested : Int32} {m_once : Int32} {m_now : Int32} {m_undoable : Int32} {m_bytes : Int32} {m_errorAt : Int32} {m_size : Int32} {m_rows : Nat → Int64} {p1 : Int32} (h_a0 : zc N h (a + 0) (.inr (9, [.int m_thrown, .ref (zo w + (a + 1)), .ref (zo w + (a + 2)), .ref (zo w + (a + 3)), .int m_now, .int m_undoable, .ref (zo w + (a + 4)), .int m_bytes, .int m_errorAt, .int m_size, .int m_next, .int m_error, .int m_place, .int m_began, .int m_nested, .int m_once, .ref (zo w + (a + 5))]))) (h_a1 : zc N h (a + 1) (.inl (w.2.2.1 1, 22500, .inr (.inl m_rows)))) {r : Int32 × Int32 × Int32 × Int32 × (Nat → Int64)} (hf : f_X9_approve m_thrown m_now m_undoable m_rows p1 = some r) : zM w yX9_approve cX9_approve 3 (some .int) (zr 4 123) false N N h [.ref (zo w + a), .int p1] (some (.int r.1)) (zu h a [(0, .inr (9, [.int r.2.1, .ref (zo w + (a + 1)), .ref (zo w + (a + 2)), .ref (zo w + (a + 3)), .int r.2.2.1, .int r.2.2.2.1, .ref (zo w + (a + 4)), .int m_bytes, .int m_errorAt, .int m_size, .int m_next, .int m_error, .int m_place, .int m_began, .int m_nested, .int m_once, .ref (zo w + (a + 5))])), (1, .inl (w.2.2.1 1, 22500, .inr (.inl r.2.2.2.2)))]) := by
  unfold f_X9_approve at hf
  refine zM_of (by decide) rfl (fun X C _ => ?_)
  refine z_eq (h' := (zu h a [(0, .inr (9, [.int m_thrown, .ref (zo w + (a + 1)), .ref (zo w + (a + 2)), .ref (zo w + (a + 3)), .int m_now, .int m_undoable, .ref (zo w + (a + 4)), .int m_bytes, .int m_errorAt, .int m_size, .int m_next, .int m_error, .int m_place, .int m_began, .int m_nested, .int m_once, .ref (zo w + (a + 5))])), (1, .inl (w.2.2.1 1, 22500, .inr (.inl m_rows)))])) (zu_s h_a0 (zu_s h_a1 zu_0)).symm ?_
  have n_a0 := h_a0.1
  have n_a1 := h_a1.1
  refine z_pick (lv' := [(0, .ref (zo w + a)), (1, .int p1)]) [0, 1] rfl ?_
  refine z_aload_n (pc' := 1) C 0 dX9_approve_0 rfl rfl rfl ?_
  refine z_iload_n (pc' := 2) C 1 dX9_approve_1 rfl rfl rfl ?_
  refine z_cV (pc' := 5) C hf (As := [.int p1]) (fun hq => c_X9_isVariation (a := a) (zc_i (o := 0) n_a0 rfl) (zc_i (o := 1) n_a1 rfl) hq) (fun q_2 => (zu h a [(0, .inr (9, [.int q_2.2, .ref (zo w + (a + 1)), .ref (zo w + (a + 2)), .ref (zo w + (a + 3)), .int m_now, .int m_undoable, .ref (zo w + (a + 4)), .int m_bytes, .int m_errorAt, .int m_size, .int m_next, .int m_error, .int m_place, .int m_began, .int m_nested, .int m_once, .ref (zo w + (a + 5))])), (1, .inl (w.2.2.1 1, 22500, .inr (.inl m_rows)))])) (fun q_2 => [.int q_2.1]) (fun _ => zu_sh (d := 0) rfl rfl) (fun _ => rfl) zy_X9_isVariation zw_1582 zw_1584 zv_70 (ci := 9) rfl (zc_i (o := 0) n_a0 rfl) ⟨rfl, rfl⟩ rfl rfl rfl rfl rfl dX9_approve_2 rfl (fun q_2 hf => ?_)
  refine z_if_eq (pc' := 8) C 49 hf dX9_approve_5 rfl rfl (fun g_5 hf => ?_) (fun g_5 hf => ?_)
  · refine z_iconst (pc' := 50) C dX9_approve_49 zk_iconst_0 rfl ?_
    cases hf
    exact z_iret C rfl rfl dX9_approve_50
  · refine z_aload_n (pc' := 9) C 0 dX9_approve_8 rfl rfl rfl ?_
    refine z_aload_n (pc' := 10) C 0 dX9_approve_9 rfl rfl rfl ?_
    refine z_sipush (pc' := 13) C dX9_approve_10 zk_sipush_230 rfl ?_
    refine z_iconst (pc' := 14) C dX9_approve_13 zk_iconst_4 rfl ?_
    refine z_iload_n (pc' := 15) C 1 dX9_approve_14 rfl rfl rfl ?_
    refine z_imul (pc' := 16) C dX9_approve_15 rfl ?_
    refine z_iadd (pc' := 17) C dX9_approve_16 rfl ?_
    refine z_iconst (pc' := 18) C dX9_approve_17 zk_iconst_3 rfl ?_
    refine z_iadd (pc' := 19) C dX9_approve_18 rfl ?_
    refine z_cV (pc' := 22) C hf (As := [.int (((230 : Int32) + ((4 : Int32) * p1)) + (3 : Int32))]) (fun hq => c_X9_get (a := a) (zc_i (o := 0) n_a0 rfl) (zc_i (o := 1) n_a1 rfl) hq) (fun _ => (zu h a [(0, .inr (9, [.int q_2.2, .ref (zo w + (a + 1)), .ref (zo w + (a + 2)), .ref (zo w + (a + 3)), .int m_now, .int m_undoable, .ref (zo w + (a + 4)), .int m_bytes, .int m_errorAt, .int m_size, .int m_next, .int m_error, .int m_place, .int m_began, .int m_nested, .int m_once, .ref (zo w + (a + 5))])), (1, .inl (w.2.2.1 1, 22500, .inr (.inl m_rows)))])) (fun q_19 => [.long q_19, .ref (zo w + a)]) (fun _ => rfl) (fun _ => rfl) zy_X9_get zw_1349 zw_1351 zv_43 (ci := 9) rfl (zc_i (o := 0) n_a0 rfl) ⟨rfl, rfl⟩ rfl rfl rfl rfl rfl dX9_approve_19 rfl (fun q_19 hf => ?_)
    refine z_lconst (pc' := 23) C dX9_approve_22 zl_0 rfl ?_
    refine z_lcmp_ne (pc' := 27) C 41 hf dX9_approve_23 rfl dX9_approve_24 rfl rfl (fun g_23 hf => ?_) (fun g_23 hf => ?_)
    · exact w_X9_approve_41 C n_a0 n_a1  hf
    · refine z_aload_n (pc' := 28) C 0 dX9_approve_27 rfl rfl rfl ?_
      refine z_iload_n (pc' := 29) C 1 dX9_approve_28 rfl rfl rfl ?_
      refine z_cV (pc' := 32) C hf (As := [.int p1]) (fun hq => c_X9_quantityBy (a := a) (zc_i (o := 0) n_a0 rfl) (zc_i (o := 1) n_a1 rfl) hq) (fun _ => (zu h a [(0, .inr (9, [.int q_2.2, .ref (zo w + (a + 1)), .ref (zo w + (a + 2)), .ref (zo w + (a + 3)), .int m_now, .int m_undoable, .ref (zo w + (a + 4)), .int m_bytes, .int m_errorAt, .int m_size, .int m_next, .int m_error, .int m_place, .int m_began, .int m_nested, .int m_once, .ref (zo w + (a + 5))])), (1, .inl (w.2.2.1 1, 22500, .inr (.inl m_rows)))])) (fun q_29 => [.long q_29, .ref (zo w + a)]) (fun _ => rfl) (fun _ => rfl) zy_X9_quantityBy zw_1590 zw_1592 zv_71 (ci := 9) rfl (zc_i (o := 0) n_a0 rfl) ⟨rfl, rfl⟩ rfl rfl rfl rfl rfl dX9_approve_29 rfl (fun q_29 hf => ?_)
      refine z_lconst (pc' := 33) C dX9_approve_32 zl_0 rfl ?_
      refine z_lcmp_lt (pc' := 37) C 41 hf dX9_approve_33 rfl dX9_approve_34 rfl rfl (fun g_33 hf => ?_) (fun g_33 hf => ?_)
      · exact w_X9_approve_41 C n_a0 n_a1  hf
      · refine z_iconst (pc' := 38) C dX9_approve_37 zk_iconst_1 rfl ?_
        refine z_goto C 42 dX9_approve_38 rfl ?_
        exact w_X9_approve_42 C n_a0 n_a1  hf
set_option maxRecDepth 20000 in
theorem w_X9_certify_52 {X : zC} {w : zV} {N : Nat} {h : zH} {a : Nat} {m_next : Int32} {m_error : Int32} {m_place : Int32} {m_began : Int32} {m_nested : Int32} {m_once : Int32} {m_bytes : Int32} {m_errorAt : Int32} {m_size : Int32} (C : zK X w RX9 cX9_certify 5 (some .int) (zr 8 260)) (n_a0 : a + 0 < N) (n_a1 : a + 1 < N) (n_a5 : a + 5 < N) {r : Int32 × Int32 × Int32 × Int32 × (Nat → Int64) × (Nat → Int64)} {m_thrown : Int32} {m_now : Int32} {m_undoable : Int32} {m_rows : Nat → Int64} {m_pile : Nat → Int64} {x1 : Int32} {x2 : Int64} {s1 : Int32} (hf : f_X9_certify_52  m_thrown m_now m_undoable m_rows m_pile x1 x2 s1 = some r) : zZ X w (zQ X w (zr 8 260) (some (.int r.1)) false N (zu h a [(0, .inr (9, [.int r.2.1, .ref (zo w + (a + 1)), .ref (zo w + (a + 2)), .ref (zo w + (a + 3)), .int r.2.2.1, .int r.2.2.2.1, .ref (zo w + (a + 4)), .int m_bytes, .int m_errorAt, .int m_size, .int m_next, .int m_error, .int m_place, .int m_began, .int m_nested, .int m_once, .ref (zo w + (a + 5))])), (1, .inl (w.2.2.1 1, 22500, .inr (.inl r.2.2.2.2.1))), (5, .inl (w.2.2.1 1, 128, .inr (.inl r.2.2.2.2.2)))])) 0 0 false N (zu h a [(0, .inr (9, [.int m_thrown, .ref (zo w + (a + 1)), .ref (zo w + (a + 2)), .ref (zo w + (a + 3)), .int m_now, .int m_undoable, .ref (zo w + (a + 4)), .int m_bytes, .int m_errorAt, .int m_size, .int m_next, .int m_error, .int m_place, .int m_began, .int m_nested, .int m_once, .ref (zo w + (a + 5))])), (1, .inl (w.2.2.1 1, 22500, .inr (.inl m_rows))), (5, .inl (w.2.2.1 1, 128, .inr (.inl m_pile)))]) 52 [(0, .ref (zo w + a)), (1, .int x1), (2, .long x2)] [.int s1, .ref (zo w + a)] := by
  unfold f_X9_certify_52 at hf
  refine z_iconst (pc' := 53) C dX9_certify_52 zk_iconst_2 rfl ?_
  refine z_cV (pc' := 56) C hf (As := [.int s1, .int (2 : Int32)]) (fun hq => c_X9_right (a := a) (zc_i (o := 0) n_a0 rfl) hq) (fun q_53 => (zu h a [(0, .inr (9, [.int q_53.2, .ref (zo w + (a + 1)), .ref (zo w + (a + 2)), .ref (zo w + (a + 3)), .int m_now, .int m_undoable, .ref (zo w + (a + 4)), .int m_bytes, .int m_errorAt, .int m_size, .int m_next, .int m_error, .int m_place, .int m_began, .int m_nested, .int m_once, .ref (zo w + (a + 5))])), (1, .inl (w.2.2.1 1, 22500, .inr (.inl m_rows))), (5, .inl (w.2.2.1 1, 128, .inr (.inl m_pile)))])) (fun q_53 => [.int q_53.1]) (fun _ => zu_sh (d := 0) rfl rfl) (fun _ => rfl) zy_X9_right zw_1251 zw_1253 zv_23 (ci := 9) rfl (zc_i (o := 0) n_a0 rfl) ⟨rfl, rfl⟩ rfl rfl rfl rfl rfl dX9_certify_53 rfl (fun q_53 hf => ?_)
  refine z_if_ne (pc' := 59) C 61 hf dX9_certify_56 rfl rfl (fun g_56 hf => ?_) (fun g_56 hf => ?_)
  · refine z_aload_n (pc' := 62) C 0 dX9_certify_61 rfl rfl rfl ?_
    refine z_cV (pc' := 65) C hf (As := []) (fun hq => c_X9_change (a := a) (zc_i (o := 0) n_a0 rfl) (zc_i (o := 1) n_a1 rfl) hq) (fun q_62 => (zu h a [(0, .inr (9, [.int q_53.2, .ref (zo w + (a + 1)), .ref (zo w + (a + 2)), .ref (zo w + (a + 3)), .int q_62.1, .int q_62.2.1, .ref (zo w + (a + 4)), .int m_bytes, .int m_errorAt, .int m_size, .int m_next, .int m_error, .int m_place, .int m_began, .int m_nested, .int m_once, .ref (zo w + (a + 5))])), (1, .inl (w.2.2.1 1, 22500, .inr (.inl q_62.2.2))), (5, .inl (w.2.2.1 1, 128, .inr (.inl m_pile)))])) (fun q_62 => []) (fun _ => zu_sh (d := 0) rfl rfl) (fun _ => rfl) zy_X9_change zw_1345 zw_1347 zv_42 (ci := 9) rfl (zc_i (o := 0) n_a0 rfl) ⟨rfl, rfl⟩ rfl rfl rfl rfl rfl dX9_certify_62 rfl (fun q_62 hf => ?_)
    refine z_aload_n (pc' := 66) C 0 dX9_certify_65 rfl rfl rfl ?_
    refine z_iconst (pc' := 67) C dX9_certify_66 zk_iconst_5 rfl ?_
    refine z_cV (pc' := 70) C hf (As := [.int (5 : Int32)]) (fun hq => c_X9_small (a := a) (zc_i (o := 0) n_a0 rfl) (zc_i (o := 1) n_a1 rfl) hq) (fun _ => (zu h a [(0, .inr (9, [.int q_53.2, .ref (zo w + (a + 1)), .ref (zo w + (a + 2)), .ref (zo w + (a + 3)), .int q_62.1, .int q_62.2.1, .ref (zo w + (a + 4)), .int m_bytes, .int m_errorAt, .int m_size, .int m_next, .int m_error, .int m_place, .int m_began, .int m_nested, .int m_once, .ref (zo w + (a + 5))])), (1, .inl (w.2.2.1 1, 22500, .inr (.inl q_62.2.2))), (5, .inl (w.2.2.1 1, 128, .inr (.inl m_pile)))])) (fun q_67 => [.int q_67]) (fun _ => rfl) (fun _ => rfl) zy_X9_small zw_1357 zw_1359 zv_45 (ci := 9) rfl (zc_i (o := 0) n_a0 rfl) ⟨rfl, rfl⟩ rfl rfl rfl rfl rfl dX9_certify_67 rfl (fun q_67 hf => ?_)
    refine z_cS (pc' := 73) C hf (As := [.int q_67]) (fun hq => c_X9_bill  hq) (fun _ => (zu h a [(0, .inr (9, [.int q_53.2, .ref (zo w + (a + 1)), .ref (zo w + (a + 2)), .ref (zo w + (a + 3)), .int q_62.1, .int q_62.2.1, .ref (zo w + (a + 4)), .int m_bytes, .int m_errorAt, .int m_size, .int m_next, .int m_error, .int m_place, .int m_began, .int m_nested, .int m_once, .ref (zo w + (a + 5))])), (1, .inl (w.2.2.1 1, 22500, .inr (.inl q_62.2.2))), (5, .inl (w.2.2.1 1, 128, .inr (.inl m_pile)))])) (fun q_70 => [.int q_70]) (fun _ => rfl) (fun _ => rfl) zy_X9_bill zw_1494 zw_1495 ⟨rfl, rfl⟩ rfl rfl rfl rfl rfl dX9_certify_70 rfl (fun q_70 hf => ?_)
    refine z_istore (pc' := 75) C [(4, .int q_70), (0, .ref (zo w + a)), (1, .int x1), (2, .long x2)] dX9_certify_73 rfl rfl rfl ?_
    refine z_aload_n (pc' := 76) C 1 dX9_certify_75 rfl rfl rfl ?_
    refine z_iload (pc' := 78) C 0 dX9_certify_76 rfl rfl ?_
    refine z_iload_n (pc' := 79) C 2 dX9_certify_78 rfl rfl rfl ?_
    refine z_i2l (pc' := 80) C dX9_certify_79 rfl ?_
    refine z_cV (pc' := 83) C hf (As := [.int q_70, .long (x1).toInt64]) (fun hq => c_X9_put (a := a) (zc_i (o := 0) n_a0 rfl) (zc_i (o := 1) n_a1 rfl) hq) (fun q_80 => (zu h a [(0, .inr (9, [.int q_53.2, .ref (zo w + (a + 1)), .ref (zo w + (a + 2)), .ref (zo w + (a + 3)), .int q_62.1, .int q_62.2.1, .ref (zo w + (a + 4)), .int m_bytes, .int m_errorAt, .int m_size, .int m_next, .int m_error, .int m_place, .int m_began, .int m_nested, .int m_once, .ref (zo w + (a + 5))])), (1, .inl (w.2.2.1 1, 22500, .inr (.inl q_80))), (5, .inl (w.2.2.1 1, 128, .inr (.inl m_pile)))])) (fun q_80 => []) (fun _ => zu_sh (d := 0) rfl rfl) (fun _ => rfl) zy_X9_put zw_1353 zw_1355 zv_44 (ci := 9) rfl (zc_i (o := 0) n_a0 rfl) ⟨rfl, rfl⟩ rfl rfl rfl rfl rfl dX9_certify_80 rfl (fun q_80 hf => ?_)
    refine z_aload_n (pc' := 84) C 1 dX9_certify_83 rfl rfl rfl ?_
    refine z_iload (pc' := 86) C 0 dX9_certify_84 rfl rfl ?_
    refine z_iconst (pc' := 87) C dX9_certify_86 zk_iconst_1 rfl ?_
    refine z_iadd (pc' := 88) C dX9_certify_87 rfl ?_
    refine z_lload_n (pc' := 89) C 3 dX9_certify_88 rfl rfl rfl ?_
    refine z_cV (pc' := 92) C hf (As := [.int (q_70 + (1 : Int32)), .long x2]) (fun hq => c_X9_put (a := a) (zc_i (o := 0) n_a0 rfl) (zc_i (o := 1) n_a1 rfl) hq) (fun q_89 => (zu h a [(0, .inr (9, [.int q_53.2, .ref (zo w + (a + 1)), .ref (zo w + (a + 2)), .ref (zo w + (a + 3)), .int q_62.1, .int q_62.2.1, .ref (zo w + (a + 4)), .int m_bytes, .int m_errorAt, .int m_size, .int m_next, .int m_error, .int m_place, .int m_began, .int m_nested, .int m_once, .ref (zo w + (a + 5))])), (1, .inl (w.2.2.1 1, 22500, .inr (.inl q_89))), (5, .inl (w.2.2.1 1, 128, .inr (.inl m_pile)))])) (fun q_89 => []) (fun _ => zu_sh (d := 0) rfl rfl) (fun _ => rfl) zy_X9_put zw_1353 zw_1355 zv_44 (ci := 9) rfl (zc_i (o := 0) n_a0 rfl) ⟨rfl, rfl⟩ rfl rfl rfl rfl rfl dX9_certify_89 rfl (fun q_89 hf => ?_)
    refine z_aload_n (pc' := 93) C 1 dX9_certify_92 rfl rfl rfl ?_
    refine z_iload (pc' := 95) C 0 dX9_certify_93 rfl rfl ?_
    refine z_iconst (pc' := 96) C dX9_certify_95 zk_iconst_2 rfl ?_
    refine z_iadd (pc' := 97) C dX9_certify_96 rfl ?_
    refine z_lconst (pc' := 98) C dX9_certify_97 zl_0 rfl ?_
    refine z_cV (pc' := 101) C hf (As := [.int (q_70 + (2 : Int32)), .long (0 : Int64)]) (fun hq => c_X9_put (a := a) (zc_i (o := 0) n_a0 rfl) (zc_i (o := 1) n_a1 rfl) hq) (fun q_98 => (zu h a [(0, .inr (9, [.int q_53.2, .ref (zo w + (a + 1)), .ref (zo w + (a + 2)), .ref (zo w + (a + 3)), .int q_62.1, .int q_62.2.1, .ref (zo w + (a + 4)), .int m_bytes, .int m_errorAt, .int m_size, .int m_next, .int m_error, .int m_place, .int m_began, .int m_nested, .int m_once, .ref (zo w + (a + 5))])), (1, .inl (w.2.2.1 1, 22500, .inr (.inl q_98))), (5, .inl (w.2.2.1 1, 128, .inr (.inl m_pile)))])) (fun q_98 => []) (fun _ => zu_sh (d := 0) rfl rfl) (fun _ => rfl) zy_X9_put zw_1353 zw_1355 zv_44 (ci := 9) rfl (zc_i (o := 0) n_a0 rfl) ⟨rfl, rfl⟩ rfl rfl rfl rfl rfl dX9_certify_98 rfl (fun q_98 hf => ?_)
    refine z_aload_n (pc' := 102) C 1 dX9_certify_101 rfl rfl rfl ?_
    refine z_iload (pc' := 104) C 0 dX9_certify_102 rfl rfl ?_
    refine z_iconst (pc' := 105) C dX9_certify_104 zk_iconst_3 rfl ?_
    refine z_iadd (pc' := 106) C dX9_certify_105 rfl ?_
    refine z_aload_n (pc' := 107) C 1 dX9_certify_106 rfl rfl rfl ?_
    refine z_iconst (pc' := 108) C dX9_certify_107 zk_iconst_1 rfl ?_
    refine z_cV (pc' := 111) C hf (As := [.int (1 : Int32)]) (fun hq => c_X9_get (a := a) (zc_i (o := 0) n_a0 rfl) (zc_i (o := 1) n_a1 rfl) hq) (fun _ => (zu h a [(0, .inr (9, [.int q_53.2, .ref (zo w + (a + 1)), .ref (zo w + (a + 2)), .ref (zo w + (a + 3)), .int q_62.1, .int q_62.2.1, .ref (zo w + (a + 4)), .int m_bytes, .int m_errorAt, .int m_size, .int m_next, .int m_error, .int m_place, .int m_began, .int m_nested, .int m_once, .ref (zo w + (a + 5))])), (1, .inl (w.2.2.1 1, 22500, .inr (.inl q_98))), (5, .inl (w.2.2.1 1, 128, .inr (.inl m_pile)))])) (fun q_108 => [.long q_108, .int (q_70 + (3 : Int32)), .ref (zo w + a)]) (fun _ => rfl) (fun _ => rfl) zy_X9_get zw_1349 zw_1351 zv_43 (ci := 9) rfl (zc_i (o := 0) n_a0 rfl) ⟨rfl, rfl⟩ rfl rfl rfl rfl rfl dX9_certify_108 rfl (fun q_108 hf => ?_)
    refine z_cV (pc' := 114) C hf (As := [.int (q_70 + (3 : Int32)), .long q_108]) (fun hq => c_X9_put (a := a) (zc_i (o := 0) n_a0 rfl) (zc_i (o := 1) n_a1 rfl) hq) (fun q_111 => (zu h a [(0, .inr (9, [.int q_53.2, .ref (zo w + (a + 1)), .ref (zo w + (a + 2)), .ref (zo w + (a + 3)), .int q_62.1, .int q_62.2.1, .ref (zo w + (a + 4)), .int m_bytes, .int m_errorAt, .int m_size, .int m_next, .int m_error, .int m_place, .int m_began, .int m_nested, .int m_once, .ref (zo w + (a + 5))])), (1, .inl (w.2.2.1 1, 22500, .inr (.inl q_111))), (5, .inl (w.2.2.1 1, 128, .inr (.inl m_pile)))])) (fun q_111 => []) (fun _ => zu_sh (d := 0) rfl rfl) (fun _ => rfl) zy_X9_put zw_1353 zw_1355 zv_44 (ci := 9) rfl (zc_i (o := 0) n_a0 rfl) ⟨rfl, rfl⟩ rfl rfl rfl rfl rfl dX9_certify_111 rfl (fun q_111 hf => ?_)
    refine z_aload_n (pc' := 115) C 1 dX9_certify_114 rfl rfl rfl ?_
    refine z_iload (pc' := 117) C 0 dX9_certify_115 rfl rfl ?_
    refine z_iconst (pc' := 118) C dX9_certify_117 zk_iconst_4 rfl ?_
    refine z_iadd (pc' := 119) C dX9_certify_118 rfl ?_
    refine z_aload_n (pc' := 120) C 1 dX9_certify_119 rfl rfl rfl ?_
    refine z_iconst (pc' := 121) C dX9_certify_120 zk_iconst_1 rfl ?_
    refine z_cV (pc' := 124) C hf (As := [.int (1 : Int32)]) (fun hq => c_X9_get (a := a) (zc_i (o := 0) n_a0 rfl) (zc_i (o := 1) n_a1 rfl) hq) (fun _ => (zu h a [(0, .inr (9, [.int q_53.2, .ref (zo w + (a + 1)), .ref (zo w + (a + 2)), .ref (zo w + (a + 3)), .int q_62.1, .int q_62.2.1, .ref (zo w + (a + 4)), .int m_bytes, .int m_errorAt, .int m_size, .int m_next, .int m_error, .int m_place, .int m_began, .int m_nested, .int m_once, .ref (zo w + (a + 5))])), (1, .inl (w.2.2.1 1, 22500, .inr (.inl q_111))), (5, .inl (w.2.2.1 1, 128, .inr (.inl m_pile)))])) (fun q_121 => [.long q_121, .int (q_70 + (4 : Int32)), .ref (zo w + a)]) (fun _ => rfl) (fun _ => rfl) zy_X9_get zw_1349 zw_1351 zv_43 (ci := 9) rfl (zc_i (o := 0) n_a0 rfl) ⟨rfl, rfl⟩ rfl rfl rfl rfl rfl dX9_certify_121 rfl (fun q_121 hf => ?_)
    refine z_aload_n (pc' := 125) C 1 dX9_certify_124 rfl rfl rfl ?_
    refine z_aload_n (pc' := 126) C 1 dX9_certify_125 rfl rfl rfl ?_
    refine z_iload_n (pc' := 127) C 2 dX9_certify_126 rfl rfl rfl ?_
    refine z_cV (pc' := 130) C hf (As := [.int x1]) (fun hq => c_X9_at (a := a)  hq) (fun _ => (zu h a [(0, .inr (9, [.int q_53.2, .ref (zo w + (a + 1)), .ref (zo w + (a + 2)), .ref (zo w + (a + 3)), .int q_62.1, .int q_62.2.1, .ref (zo w + (a + 4)), .int m_bytes, .int m_errorAt, .int m_size, .int m_next, .int m_error, .int m_place, .int m_began, .int m_nested, .int m_once, .ref (zo w + (a + 5))])), (1, .inl (w.2.2.1 1, 22500, .inr (.inl q_111))), (5, .inl (w.2.2.1 1, 128, .inr (.inl m_pile)))])) (fun q_127 => [.int q_127, .ref (zo w + a), .long q_121, .int (q_70 + (4 : Int32)), .ref (zo w + a)]) (fun _ => rfl) (fun _ => rfl) zy_X9_at zw_1381 zw_1383 zv_47 (ci := 9) rfl (zc_i (o := 0) n_a0 rfl) ⟨rfl, rfl⟩ rfl rfl rfl rfl rfl dX9_certify_127 rfl (fun q_127 hf => ?_)
    refine z_iconst (pc' := 131) C dX9_certify_130 zk_iconst_3 rfl ?_
    refine z_iadd (pc' := 132) C dX9_certify_131 rfl ?_
    refine z_cV (pc' := 135) C hf (As := [.int (q_127 + (3 : Int32))]) (fun hq => c_X9_get (a := a) (zc_i (o := 0) n_a0 rfl) (zc_i (o := 1) n_a1 rfl) hq) (fun _ => (zu h a [(0, .inr (9, [.int q_53.2, .ref (zo w + (a + 1)), .ref (zo w + (a + 2)), .ref (zo w + (a + 3)), .int q_62.1, .int q_62.2.1, .ref (zo w + (a + 4)), .int m_bytes, .int m_errorAt, .int m_size, .int m_next, .int m_error, .int m_place, .int m_began, .int m_nested, .int m_once, .ref (zo w + (a + 5))])), (1, .inl (w.2.2.1 1, 22500, .inr (.inl q_111))), (5, .inl (w.2.2.1 1, 128, .inr (.inl m_pile)))])) (fun q_132 => [.long q_132, .long q_121, .int (q_70 + (4 : Int32)), .ref (zo w + a)]) (fun _ => rfl) (fun _ => rfl) zy_X9_get zw_1349 zw_1351 zv_43 (ci := 9) rfl (zc_i (o := 0) n_a0 rfl) ⟨rfl, rfl⟩ rfl rfl rfl rfl rfl dX9_certify_132 rfl (fun q_132 hf => ?_)
    refine z_ladd (pc' := 136) C dX9_certify_135 rfl ?_
    refine z_cV (pc' := 139) C hf (As := [.int (q_70 + (4 : Int32)), .long (q_121 + q_132)]) (fun hq => c_X9_put (a := a) (zc_i (o := 0) n_a0 rfl) (zc_i (o := 1) n_a1 rfl) hq) (fun q_136 => (zu h a [(0, .inr (9, [.int q_53.2, .ref (zo w + (a + 1)), .ref (zo w + (a + 2)), .ref (zo w + (a + 3)), .int q_62.1, .int q_62.2.1, .ref (zo w + (a + 4)), .int m_bytes, .int m_errorAt, .int m_size, .int m_next, .int m_error, .int m_place, .int m_began, .int m_nested, .int m_once, .ref (zo w + (a + 5))])), (1, .inl (w.2.2.1 1, 22500, .inr (.inl q_136))), (5, .inl (w.2.2.1 1, 128, .inr (.inl m_pile)))])) (fun q_136 => []) (fun _ => zu_sh (d := 0) rfl rfl) (fun _ => rfl) zy_X9_put zw_1353 zw_1355 zv_44 (ci := 9) rfl (zc_i (o := 0) n_a0 rfl) ⟨rfl, rfl⟩ rfl rfl rfl rfl rfl dX9_certify_136 rfl (fun q_136 hf => ?_)
    refine z_aload_n (pc' := 140) C 1 dX9_certify_139 rfl rfl rfl ?_
    refine z_iconst (pc' := 141) C dX9_certify_140 zk_iconst_5 rfl ?_
    refine z_aload_n (pc' := 142) C 1 dX9_certify_141 rfl rfl rfl ?_
    refine z_iconst (pc' := 143) C dX9_certify_142 zk_iconst_5 rfl ?_
    refine z_cV (pc' := 146) C hf (As := [.int (5 : Int32)]) (fun hq => c_X9_get (a := a) (zc_i (o := 0) n_a0 rfl) (zc_i (o := 1) n_a1 rfl) hq) (fun _ => (zu h a [(0, .inr (9, [.int q_53.2, .ref (zo w + (a + 1)), .ref (zo w + (a + 2)), .ref (zo w + (a + 3)), .int q_62.1, .int q_62.2.1, .ref (zo w + (a + 4)), .int m_bytes, .int m_errorAt, .int m_size, .int m_next, .int m_error, .int m_place, .int m_began, .int m_nested, .int m_once, .ref (zo w + (a + 5))])), (1, .inl (w.2.2.1 1, 22500, .inr (.inl q_136))), (5, .inl (w.2.2.1 1, 128, .inr (.inl m_pile)))])) (fun q_143 => [.long q_143, .int (5 : Int32), .ref (zo w + a)]) (fun _ => rfl) (fun _ => rfl) zy_X9_get zw_1349 zw_1351 zv_43 (ci := 9) rfl (zc_i (o := 0) n_a0 rfl) ⟨rfl, rfl⟩ rfl rfl rfl rfl rfl dX9_certify_143 rfl (fun q_143 hf => ?_)
    refine z_lconst (pc' := 147) C dX9_certify_146 zl_1 rfl ?_
    refine z_ladd (pc' := 148) C dX9_certify_147 rfl ?_
    refine z_cV (pc' := 151) C hf (As := [.int (5 : Int32), .long (q_143 + (1 : Int64))]) (fun hq => c_X9_put (a := a) (zc_i (o := 0) n_a0 rfl) (zc_i (o := 1) n_a1 rfl) hq) (fun q_148 => (zu h a [(0, .inr (9, [.int q_53.2, .ref (zo w + (a + 1)), .ref (zo w + (a + 2)), .ref (zo w + (a + 3)), .int q_62.1, .int q_62.2.1, .ref (zo w + (a + 4)), .int m_bytes, .int m_errorAt, .int m_size, .int m_next, .int m_error, .int m_place, .int m_began, .int m_nested, .int m_once, .ref (zo w + (a + 5))])), (1, .inl (w.2.2.1 1, 22500, .inr (.inl q_148))), (5, .inl (w.2.2.1 1, 128, .inr (.inl m_pile)))])) (fun q_148 => []) (fun _ => zu_sh (d := 0) rfl rfl) (fun _ => rfl) zy_X9_put zw_1353 zw_1355 zv_44 (ci := 9) rfl (zc_i (o := 0) n_a0 rfl) ⟨rfl, rfl⟩ rfl rfl rfl rfl rfl dX9_certify_148 rfl (fun q_148 hf => ?_)
    refine z_aload_n (pc' := 152) C 1 dX9_certify_151 rfl rfl rfl ?_
    refine z_iconst (pc' := 153) C dX9_certify_152 zk_iconst_5 rfl ?_
    refine z_cV (pc' := 156) C hf (As := [.int (5 : Int32)]) (fun hq => c_X9_small (a := a) (zc_i (o := 0) n_a0 rfl) (zc_i (o := 1) n_a1 rfl) hq) (fun _ => (zu h a [(0, .inr (9, [.int q_53.2, .ref (zo w + (a + 1)), .ref (zo w + (a + 2)), .ref (zo w + (a + 3)), .int q_62.1, .int q_62.2.1, .ref (zo w + (a + 4)), .int m_bytes, .int m_errorAt, .int m_size, .int m_next, .int m_error, .int m_place, .int m_began, .int m_nested, .int m_once, .ref (zo w + (a + 5))])), (1, .inl (w.2.2.1 1, 22500, .inr (.inl q_148))), (5, .inl (w.2.2.1 1, 128, .inr (.inl m_pile)))])) (fun q_153 => [.int q_153]) (fun _ => rfl) (fun _ => rfl) zy_X9_small zw_1357 zw_1359 zv_45 (ci := 9) rfl (zc_i (o := 0) n_a0 rfl) ⟨rfl, rfl⟩ rfl rfl rfl rfl rfl dX9_certify_153 rfl (fun q_153 hf => ?_)
    refine z_iconst (pc' := 157) C dX9_certify_156 zk_iconst_1 rfl ?_
    refine z_isub (pc' := 158) C dX9_certify_157 rfl ?_
    cases hf
    exact z_iret C rfl rfl dX9_certify_158
  · refine z_iconst (pc' := 60) C dX9_certify_59 zk_iconst_0 rfl ?_
    cases hf
    exact z_iret C rfl rfl dX9_certify_60
set_option maxRecDepth 20000 in
theorem w_X9_certify_51 {X : zC} {w : zV} {N : Nat} {h : zH} {a : Nat} {m_next : Int32} {m_error : Int32} {m_place : Int32} {m_began : Int32} {m_nested : Int32} {m_once : Int32} {m_bytes : Int32} {m_errorAt : Int32} {m_size : Int32} (C : zK X w RX9 cX9_certify 5 (some .int) (zr 8 260)) (n_a0 : a + 0 < N) (n_a1 : a + 1 < N) (n_a5 : a + 5 < N) {r : Int32 × Int32 × Int32 × Int32 × (Nat → Int64) × (Nat → Int64)} {m_thrown : Int32} {m_now : Int32} {m_undoable : Int32} {m_rows : Nat → Int64} {m_pile : Nat → Int64} {x1 : Int32} {x2 : Int64} (hf : f_X9_certify_51  m_thrown m_now m_undoable m_rows m_pile x1 x2 = some r) : zZ X w (zQ X w (zr 8 260) (some (.int r.1)) false N (zu h a [(0, .inr (9, [.int r.2.1, .ref (zo w + (a + 1)), .ref (zo w + (a + 2)), .ref (zo w + (a + 3)), .int r.2.2.1, .int r.2.2.2.1, .ref (zo w + (a + 4)), .int m_bytes, .int m_errorAt, .int m_size, .int m_next, .int m_error, .int m_place, .int m_began, .int m_nested, .int m_once, .ref (zo w + (a + 5))])), (1, .inl (w.2.2.1 1, 22500, .inr (.inl r.2.2.2.2.1))), (5, .inl (w.2.2.1 1, 128, .inr (.inl r.2.2.2.2.2)))])) 0 0 false N (zu h a [(0, .inr (9, [.int m_thrown, .ref (zo w + (a + 1)), .ref (zo w + (a + 2)), .ref (zo w + (a + 3)), .int m_now, .int m_undoable, .ref (zo w + (a + 4)), .int m_bytes, .int m_errorAt, .int m_size, .int m_next, .int m_error, .int m_place, .int m_began, .int m_nested, .int m_once, .ref (zo w + (a + 5))])), (1, .inl (w.2.2.1 1, 22500, .inr (.inl m_rows))), (5, .inl (w.2.2.1 1, 128, .inr (.inl m_pile)))]) 51 [(0, .ref (zo w + a)), (1, .int x1), (2, .long x2)] [.ref (zo w + a)] := by
  unfold f_X9_certify_51 at hf
  refine z_iconst (pc' := 52) C dX9_certify_51 zk_iconst_0 rfl ?_
  exact w_X9_certify_52 C n_a0 n_a1 n_a5  hf
set_option maxRecDepth 20000 in
theorem c_X9_certify {w : zV} {N : Nat} {h : zH} {a : Nat} {m_thrown : Int32} {m_next : Int32} {m_error : Int32} {m_place : Int32} {m_began : Int32} {m_nested : Int32} {m_once : Int32} {m_now : Int32} {m_undoable : Int32} {m_bytes : Int32} {m_errorAt : Int32} {m_size : Int32} {m_rows : Nat → Int64} {m_pile : Nat → Int64} {p1 : Int32} (h_a0 : zc N h (a + 0) (.inr (9, [.int m_thrown, .ref (zo w + (a + 1)), .ref (zo w + (a + 2)), .ref (zo w + (a + 3)), .int m_now, .int m_undoable, .ref (zo w + (a + 4)), .int m_bytes, .int m_errorAt, .int m_size, .int m_next, .int m_error, .int m_place, .int m_began, .int m_nested, .int m_once, .ref (zo w + (a + 5))]))) (h_a1 : zc N h (a + 1) (.inl (w.2.2.1 1, 22500, .inr (.inl m_rows)))) (h_a5 : zc N h (a + 5) (.inl (w.2.2.1 1, 128, .inr (.inl m_pile)))) {r : Int32 × Int32 × Int32 × Int32 × (Nat → Int64) × (Nat → Int64)} (hf : f_X9_certify m_thrown m_now m_undoable m_rows m_pile p1 = some r) : zM w yX9_certify cX9_certify 5 (some .int) (zr 8 260) false N N h [.ref (zo w + a), .int p1] (some (.int r.1)) (zu h a [(0, .inr (9, [.int r.2.1, .ref (zo w + (a + 1)), .ref (zo w + (a + 2)), .ref (zo w + (a + 3)), .int r.2.2.1, .int r.2.2.2.1, .ref (zo w + (a + 4)), .int m_bytes, .int m_errorAt, .int m_size, .int m_next, .int m_error, .int m_place, .int m_began, .int m_nested, .int m_once, .ref (zo w + (a + 5))])), (1, .inl (w.2.2.1 1, 22500, .inr (.inl r.2.2.2.2.1))), (5, .inl (w.2.2.1 1, 128, .inr (.inl r.2.2.2.2.2)))]) := by
  unfold f_X9_certify at hf
  refine zM_of (by decide) rfl (fun X C _ => ?_)
  refine z_eq (h' := (zu h a [(0, .inr (9, [.int m_thrown, .ref (zo w + (a + 1)), .ref (zo w + (a + 2)), .ref (zo w + (a + 3)), .int m_now, .int m_undoable, .ref (zo w + (a + 4)), .int m_bytes, .int m_errorAt, .int m_size, .int m_next, .int m_error, .int m_place, .int m_began, .int m_nested, .int m_once, .ref (zo w + (a + 5))])), (1, .inl (w.2.2.1 1, 22500, .inr (.inl m_rows))), (5, .inl (w.2.2.1 1, 128, .inr (.inl m_pile)))])) (zu_s h_a0 (zu_s h_a1 (zu_s h_a5 zu_0))).symm ?_
  have n_a0 := h_a0.1
  have n_a1 := h_a1.1
  have n_a5 := h_a5.1
  refine z_pick (lv' := [(0, .ref (zo w + a)), (1, .int p1)]) [0, 1] rfl ?_
  refine z_aload_n (pc' := 1) C 0 dX9_certify_0 rfl rfl rfl ?_
  refine z_iload_n (pc' := 2) C 1 dX9_certify_1 rfl rfl rfl ?_
  refine z_cV (pc' := 5) C hf (As := [.int p1]) (fun hq => c_X9_isContract (a := a) (zc_i (o := 0) n_a0 rfl) (zc_i (o := 1) n_a1 rfl) hq) (fun q_2 => (zu h a [(0, .inr (9, [.int q_2.2, .ref (zo w + (a + 1)), .ref (zo w + (a + 2)), .ref (zo w + (a + 3)), .int m_now, .int m_undoable, .ref (zo w + (a + 4)), .int m_bytes, .int m_errorAt, .int m_size, .int m_next, .int m_error, .int m_place, .int m_began, .int m_nested, .int m_once, .ref (zo w + (a + 5))])), (1, .inl (w.2.2.1 1, 22500, .inr (.inl m_rows))), (5, .inl (w.2.2.1 1, 128, .inr (.inl m_pile)))])) (fun q_2 => [.int q_2.1]) (fun _ => zu_sh (d := 0) rfl rfl) (fun _ => rfl) zy_X9_isContract zw_1377 zw_1379 zv_46 (ci := 9) rfl (zc_i (o := 0) n_a0 rfl) ⟨rfl, rfl⟩ rfl rfl rfl rfl rfl dX9_certify_2 rfl (fun q_2 hf => ?_)
  refine z_if_ne (pc' := 8) C 10 hf dX9_certify_5 rfl rfl (fun g_5 hf => ?_) (fun g_5 hf => ?_)
  · refine z_aload_n (pc' := 11) C 0 dX9_certify_10 rfl rfl rfl ?_
    refine z_iload_n (pc' := 12) C 1 dX9_certify_11 rfl rfl rfl ?_
    refine z_cV (pc' := 15) C hf (As := [.int p1]) (fun hq => c_X9_grossOf (a := a) (zc_i (o := 0) n_a0 rfl) (zc_i (o := 1) n_a1 rfl) (zc_i (o := 5) n_a5 rfl) hq) (fun q_12 => (zu h a [(0, .inr (9, [.int q_2.2, .ref (zo w + (a + 1)), .ref (zo w + (a + 2)), .ref (zo w + (a + 3)), .int m_now, .int m_undoable, .ref (zo w + (a + 4)), .int m_bytes, .int m_errorAt, .int m_size, .int m_next, .int m_error, .int m_place, .int m_began, .int m_nested, .int m_once, .ref (zo w + (a + 5))])), (1, .inl (w.2.2.1 1, 22500, .inr (.inl m_rows))), (5, .inl (w.2.2.1 1, 128, .inr (.inl q_12.2)))])) (fun q_12 => [.long q_12.1]) (fun _ => zu_sh (d := 0) rfl rfl) (fun _ => rfl) zy_X9_grossOf zw_1461 zw_1463 zv_58 (ci := 9) rfl (zc_i (o := 0) n_a0 rfl) ⟨rfl, rfl⟩ rfl rfl rfl rfl rfl dX9_certify_12 rfl (fun q_12 hf => ?_)
    refine z_aload_n (pc' := 16) C 0 dX9_certify_15 rfl rfl rfl ?_
    refine z_iload_n (pc' := 17) C 1 dX9_certify_16 rfl rfl rfl ?_
    refine z_cV (pc' := 20) C hf (As := [.int p1]) (fun hq => c_X9_heldOf (a := a) (zc_i (o := 0) n_a0 rfl) (zc_i (o := 1) n_a1 rfl) (zc_i (o := 5) n_a5 rfl) hq) (fun q_17 => (zu h a [(0, .inr (9, [.int q_2.2, .ref (zo w + (a + 1)), .ref (zo w + (a + 2)), .ref (zo w + (a + 3)), .int m_now, .int m_undoable, .ref (zo w + (a + 4)), .int m_bytes, .int m_errorAt, .int m_size, .int m_next, .int m_error, .int m_place, .int m_began, .int m_nested, .int m_once, .ref (zo w + (a + 5))])), (1, .inl (w.2.2.1 1, 22500, .inr (.inl m_rows))), (5, .inl (w.2.2.1 1, 128, .inr (.inl q_17.2)))])) (fun q_17 => [.long q_17.1, .long q_12.1]) (fun _ => zu_sh (d := 0) rfl rfl) (fun _ => rfl) zy_X9_heldOf zw_1469 zw_1471 zv_59 (ci := 9) rfl (zc_i (o := 0) n_a0 rfl) ⟨rfl, rfl⟩ rfl rfl rfl rfl rfl dX9_certify_17 rfl (fun q_17 hf => ?_)
    refine z_lsub (pc' := 21) C dX9_certify_20 rfl ?_
    refine z_aload_n (pc' := 22) C 0 dX9_certify_21 rfl rfl rfl ?_
    refine z_iload_n (pc' := 23) C 1 dX9_certify_22 rfl rfl rfl ?_
    refine z_cV (pc' := 26) C hf (As := [.int p1]) (fun hq => c_X9_certifiedOf (a := a) (zc_i (o := 0) n_a0 rfl) (zc_i (o := 1) n_a1 rfl) hq) (fun _ => (zu h a [(0, .inr (9, [.int q_2.2, .ref (zo w + (a + 1)), .ref (zo w + (a + 2)), .ref (zo w + (a + 3)), .int m_now, .int m_undoable, .ref (zo w + (a + 4)), .int m_bytes, .int m_errorAt, .int m_size, .int m_next, .int m_error, .int m_place, .int m_began, .int m_nested, .int m_once, .ref (zo w + (a + 5))])), (1, .inl (w.2.2.1 1, 22500, .inr (.inl m_rows))), (5, .inl (w.2.2.1 1, 128, .inr (.inl q_17.2)))])) (fun q_23 => [.long q_23, .long (q_12.1 - q_17.1)]) (fun _ => rfl) (fun _ => rfl) zy_X9_certifiedOf zw_1490 zw_1492 zv_60 (ci := 9) rfl (zc_i (o := 0) n_a0 rfl) ⟨rfl, rfl⟩ rfl rfl rfl rfl rfl dX9_certify_23 rfl (fun q_23 hf => ?_)
    refine z_lsub (pc' := 27) C dX9_certify_26 rfl ?_
    refine z_lstore_n (pc' := 28) C [(2, .long ((q_12.1 - q_17.1) - q_23)), (0, .ref (zo w + a)), (1, .int p1)] dX9_certify_27 rfl rfl rfl rfl ?_
    refine z_aload_n (pc' := 29) C 1 dX9_certify_28 rfl rfl rfl ?_
    refine z_lload_n (pc' := 30) C 0 dX9_certify_29 rfl rfl rfl ?_
    refine z_lconst (pc' := 31) C dX9_certify_30 zl_0 rfl ?_
    refine z_lcmp_le (pc' := 35) C 51 hf dX9_certify_31 rfl dX9_certify_32 rfl rfl (fun g_31 hf => ?_) (fun g_31 hf => ?_)
    · refine z_pick (lv' := [(0, .ref (zo w + a)), (1, .int p1), (2, .long ((q_12.1 - q_17.1) - q_23))]) [1, 2, 0] rfl ?_
      exact w_X9_certify_51 C n_a0 n_a1 n_a5  hf
    · refine z_aload_n (pc' := 36) C 1 dX9_certify_35 rfl rfl rfl ?_
      refine z_iconst (pc' := 37) C dX9_certify_36 zk_iconst_5 rfl ?_
      refine z_cV (pc' := 40) C hf (As := [.int (5 : Int32)]) (fun hq => c_X9_get (a := a) (zc_i (o := 0) n_a0 rfl) (zc_i (o := 1) n_a1 rfl) hq) (fun _ => (zu h a [(0, .inr (9, [.int q_2.2, .ref (zo w + (a + 1)), .ref (zo w + (a + 2)), .ref (zo w + (a + 3)), .int m_now, .int m_undoable, .ref (zo w + (a + 4)), .int m_bytes, .int m_errorAt, .int m_size, .int m_next, .int m_error, .int m_place, .int m_began, .int m_nested, .int m_once, .ref (zo w + (a + 5))])), (1, .inl (w.2.2.1 1, 22500, .inr (.inl m_rows))), (5, .inl (w.2.2.1 1, 128, .inr (.inl q_17.2)))])) (fun q_37 => [.long q_37, .ref (zo w + a)]) (fun _ => rfl) (fun _ => rfl) zy_X9_get zw_1349 zw_1351 zv_43 (ci := 9) rfl (zc_i (o := 0) n_a0 rfl) ⟨rfl, rfl⟩ rfl rfl rfl rfl rfl dX9_certify_37 rfl (fun q_37 hf => ?_)
      refine z_ldc2 (pc' := 43) C zw_1665 dX9_certify_40 rfl ?_
      refine z_lcmp_ge (pc' := 47) C 51 hf dX9_certify_43 rfl dX9_certify_44 rfl rfl (fun g_43 hf => ?_) (fun g_43 hf => ?_)
      · refine z_pick (lv' := [(0, .ref (zo w + a)), (1, .int p1), (2, .long ((q_12.1 - q_17.1) - q_23))]) [1, 2, 0] rfl ?_
        exact w_X9_certify_51 C n_a0 n_a1 n_a5  hf
      · refine z_iconst (pc' := 48) C dX9_certify_47 zk_iconst_1 rfl ?_
        refine z_goto C 52 dX9_certify_48 rfl ?_
        refine z_pick (lv' := [(0, .ref (zo w + a)), (1, .int p1), (2, .long ((q_12.1 - q_17.1) - q_23))]) [1, 2, 0] rfl ?_
        exact w_X9_certify_52 C n_a0 n_a1 n_a5  hf
  · refine z_iconst (pc' := 9) C dX9_certify_8 zk_iconst_0 rfl ?_
    cases hf
    exact z_iret C rfl rfl dX9_certify_9
set_option maxRecDepth 20000 in
theorem w_X9_isDone_2 {X : zC} {w : zV} {N : Nat} {h : zH} {a : Nat} {m_thrown : Int32} {m_next : Int32} {m_error : Int32} {m_place : Int32} {m_began : Int32} {m_nested : Int32} {m_once : Int32} {m_now : Int32} {m_undoable : Int32} {m_bytes : Int32} {m_errorAt : Int32} {m_size : Int32} {m_rows : Nat → Int64} (C : zK X w RX9 cX9_isDone 3 (some .boolean) (zr 2 59)) (h_a0 : zc N h (a + 0) (.inr (9, [.int m_thrown, .ref (zo w + (a + 1)), .ref (zo w + (a + 2)), .ref (zo w + (a + 3)), .int m_now, .int m_undoable, .ref (zo w + (a + 4)), .int m_bytes, .int m_errorAt, .int m_size, .int m_next, .int m_error, .int m_place, .int m_began, .int m_nested, .int m_once, .ref (zo w + (a + 5))]))) (h_a1 : zc N h (a + 1) (.inl (w.2.2.1 1, 22500, .inr (.inl m_rows)))) {r : Int32} (n : Nat) : ∀ {x1 : Int32} {x2 : Int32}, f_X9_isDone_2  n m_now m_rows x1 x2 = some r → zZ X w (zQ X w (zr 2 59) (some (.int r)) false N h) 0 0 false N h 2 [(0, .ref (zo w + a)), (1, .int x1), (2, .int x2)] [] := by
  induction n with
  | zero =>
    intro x1 x2 hf
    have hf : (none : Option (Int32)) = some r := hf
    cases hf
  | succ z ih =>
    intro x1 x2 hf
    rw [f_X9_isDone_2] at hf
    refine z_iload_n (pc' := 3) C 2 dX9_isDone_2 rfl rfl rfl ?_
    refine z_i2l (pc' := 4) C dX9_isDone_3 rfl ?_
    refine z_aload_n (pc' := 5) C 0 dX9_isDone_4 rfl rfl rfl ?_
    refine z_aload_n (pc' := 6) C 0 dX9_isDone_5 rfl rfl rfl ?_
    refine z_iload_n (pc' := 7) C 1 dX9_isDone_6 rfl rfl rfl ?_
    refine z_cV (pc' := 10) C hf (As := [.int x1]) (fun hq => c_X9_at (a := a)  hq) (fun _ => h) (fun q_7 => [.int q_7, .ref (zo w + a), .long (x2).toInt64]) (fun _ => rfl) (fun _ => rfl) zy_X9_at zw_1381 zw_1383 zv_47 (ci := 9) rfl h_a0 ⟨rfl, rfl⟩ rfl rfl rfl rfl rfl dX9_isDone_7 rfl (fun q_7 hf => ?_)
    refine z_bipush (pc' := 12) C dX9_isDone_10 zk_bipush_7 rfl ?_
    refine z_iadd (pc' := 13) C dX9_isDone_12 rfl ?_
    refine z_cV (pc' := 16) C hf (As := [.int (q_7 + (7 : Int32))]) (fun hq => c_X9_get (a := a) h_a0 h_a1 hq) (fun _ => h) (fun q_13 => [.long q_13, .long (x2).toInt64]) (fun _ => rfl) (fun _ => rfl) zy_X9_get zw_1349 zw_1351 zv_43 (ci := 9) rfl h_a0 ⟨rfl, rfl⟩ rfl rfl rfl rfl rfl dX9_isDone_13 rfl (fun q_13 hf => ?_)
    refine z_lcmp_ge (pc' := 20) C 47 hf dX9_isDone_16 rfl dX9_isDone_17 rfl rfl (fun g_16 hf => ?_) (fun g_16 hf => ?_)
    · refine z_iconst (pc' := 48) C dX9_isDone_47 zk_iconst_1 rfl ?_
      cases hf
      exact z_zret C zb_1 rfl rfl dX9_isDone_48
    · refine z_aload_n (pc' := 21) C 0 dX9_isDone_20 rfl rfl rfl ?_
      refine z_aload_n (pc' := 22) C 0 dX9_isDone_21 rfl rfl rfl ?_
      refine z_iload_n (pc' := 23) C 1 dX9_isDone_22 rfl rfl rfl ?_
      refine z_iload_n (pc' := 24) C 2 dX9_isDone_23 rfl rfl rfl ?_
      refine z_cV (pc' := 27) C hf (As := [.int x1, .int x2]) (fun hq => c_X9_itemAt (a := a) h_a0 hq) (fun _ => h) (fun q_24 => [.int q_24, .ref (zo w + a)]) (fun _ => rfl) (fun _ => rfl) zy_X9_itemAt zw_1401 zw_1403 zv_50 (ci := 9) rfl h_a0 ⟨rfl, rfl⟩ rfl rfl rfl rfl rfl dX9_isDone_24 rfl (fun q_24 hf => ?_)
      refine z_iconst (pc' := 28) C dX9_isDone_27 zk_iconst_2 rfl ?_
      refine z_iadd (pc' := 29) C dX9_isDone_28 rfl ?_
      refine z_cV (pc' := 32) C hf (As := [.int (q_24 + (2 : Int32))]) (fun hq => c_X9_get (a := a) h_a0 h_a1 hq) (fun _ => h) (fun q_29 => [.long q_29]) (fun _ => rfl) (fun _ => rfl) zy_X9_get zw_1349 zw_1351 zv_43 (ci := 9) rfl h_a0 ⟨rfl, rfl⟩ rfl rfl rfl rfl rfl dX9_isDone_29 rfl (fun q_29 hf => ?_)
      refine z_ldc2 (pc' := 35) C zw_1417 dX9_isDone_32 rfl ?_
      refine z_lcmp_ge (pc' := 39) C 41 hf dX9_isDone_35 rfl dX9_isDone_36 rfl rfl (fun g_35 hf => ?_) (fun g_35 hf => ?_)
      · refine z_iinc (pc' := 44) C 2 [(2, .int (x2 + (1 : Int32))), (0, .ref (zo w + a)), (1, .int x1)] dX9_isDone_41 rfl zk_iconst_1 rfl rfl rfl ?_
        refine z_goto C 2 dX9_isDone_44 rfl ?_
        refine z_pick (lv' := [(0, .ref (zo w + a)), (1, .int x1), (2, .int (x2 + (1 : Int32)))]) [1, 2, 0] rfl ?_
        exact ih hf
      · refine z_iconst (pc' := 40) C dX9_isDone_39 zk_iconst_0 rfl ?_
        cases hf
        exact z_zret C zb_0 rfl rfl dX9_isDone_40
set_option maxRecDepth 20000 in
theorem c_X9_isDone {w : zV} {N : Nat} {h : zH} {a : Nat} {m_thrown : Int32} {m_next : Int32} {m_error : Int32} {m_place : Int32} {m_began : Int32} {m_nested : Int32} {m_once : Int32} {m_now : Int32} {m_undoable : Int32} {m_bytes : Int32} {m_errorAt : Int32} {m_size : Int32} {m_rows : Nat → Int64} {p1 : Int32} (h_a0 : zc N h (a + 0) (.inr (9, [.int m_thrown, .ref (zo w + (a + 1)), .ref (zo w + (a + 2)), .ref (zo w + (a + 3)), .int m_now, .int m_undoable, .ref (zo w + (a + 4)), .int m_bytes, .int m_errorAt, .int m_size, .int m_next, .int m_error, .int m_place, .int m_began, .int m_nested, .int m_once, .ref (zo w + (a + 5))]))) (h_a1 : zc N h (a + 1) (.inl (w.2.2.1 1, 22500, .inr (.inl m_rows)))) {r : Int32} (hf : f_X9_isDone m_now m_rows p1 = some r) : zM w yX9_isDone cX9_isDone 3 (some .boolean) (zr 2 59) false N N h [.ref (zo w + a), .int p1] (some (.int r)) h := by
  unfold f_X9_isDone at hf
  refine zM_of (by decide) rfl (fun X C _ => ?_)
  refine z_pick (lv' := [(0, .ref (zo w + a)), (1, .int p1)]) [0, 1] rfl ?_
  refine z_iconst (pc' := 1) C dX9_isDone_0 zk_iconst_0 rfl ?_
  refine z_istore_n (pc' := 2) C [(2, .int (0 : Int32)), (0, .ref (zo w + a)), (1, .int p1)] dX9_isDone_1 rfl rfl rfl rfl ?_
  refine z_pick (lv' := [(0, .ref (zo w + a)), (1, .int p1), (2, .int (0 : Int32))]) [1, 2, 0] rfl ?_
  exact w_X9_isDone_2 C h_a0 h_a1  FU hf
set_option maxRecDepth 20000 in
theorem w_X9_nextStage_51 {X : zC} {w : zV} {N : Nat} {h : zH} {a : Nat} {m_next : Int32} {m_error : Int32} {m_place : Int32} {m_began : Int32} {m_nested : Int32} {m_once : Int32} {m_bytes : Int32} {m_errorAt : Int32} {m_size : Int32} (C : zK X w RX9 cX9_nextStage 4 (some .int) (zr 3 89)) (n_a0 : a + 0 < N) (n_a1 : a + 1 < N) {r : Int32 × Int32 × Int32 × Int32 × (Nat → Int64)} {m_thrown : Int32} {m_now : Int32} {m_undoable : Int32} {m_rows : Nat → Int64} {x1 : Int32} {x2 : Int64} {s1 : Int32} (hf : f_X9_nextStage_51  m_thrown m_now m_undoable m_rows x1 x2 s1 = some r) : zZ X w (zQ X w (zr 3 89) (some (.int r.1)) false N (zu h a [(0, .inr (9, [.int r.2.1, .ref (zo w + (a + 1)), .ref (zo w + (a + 2)), .ref (zo w + (a + 3)), .int r.2.2.1, .int r.2.2.2.1, .ref (zo w + (a + 4)), .int m_bytes, .int m_errorAt, .int m_size, .int m_next, .int m_error, .int m_place, .int m_began, .int m_nested, .int m_once, .ref (zo w + (a + 5))])), (1, .inl (w.2.2.1 1, 22500, .inr (.inl r.2.2.2.2)))])) 0 0 false N (zu h a [(0, .inr (9, [.int m_thrown, .ref (zo w + (a + 1)), .ref (zo w + (a + 2)), .ref (zo w + (a + 3)), .int m_now, .int m_undoable, .ref (zo w + (a + 4)), .int m_bytes, .int m_errorAt, .int m_size, .int m_next, .int m_error, .int m_place, .int m_began, .int m_nested, .int m_once, .ref (zo w + (a + 5))])), (1, .inl (w.2.2.1 1, 22500, .inr (.inl m_rows)))]) 51 [(0, .ref (zo w + a)), (1, .int x1), (2, .long x2)] [.int s1, .ref (zo w + a)] := by
  unfold f_X9_nextStage_51 at hf
  refine z_iconst (pc' := 52) C dX9_nextStage_51 zk_iconst_2 rfl ?_
  refine z_cV (pc' := 55) C hf (As := [.int s1, .int (2 : Int32)]) (fun hq => c_X9_right (a := a) (zc_i (o := 0) n_a0 rfl) hq) (fun q_52 => (zu h a [(0, .inr (9, [.int q_52.2, .ref (zo w + (a + 1)), .ref (zo w + (a + 2)), .ref (zo w + (a + 3)), .int m_now, .int m_undoable, .ref (zo w + (a + 4)), .int m_bytes, .int m_errorAt, .int m_size, .int m_next, .int m_error, .int m_place, .int m_began, .int m_nested, .int m_once, .ref (zo w + (a + 5))])), (1, .inl (w.2.2.1 1, 22500, .inr (.inl m_rows)))])) (fun q_52 => [.int q_52.1]) (fun _ => zu_sh (d := 0) rfl rfl) (fun _ => rfl) zy_X9_right zw_1251 zw_1253 zv_23 (ci := 9) rfl (zc_i (o := 0) n_a0 rfl) ⟨rfl, rfl⟩ rfl rfl rfl rfl rfl dX9_nextStage_52 rfl (fun q_52 hf => ?_)
  refine z_if_ne (pc' := 58) C 60 hf dX9_nextStage_55 rfl rfl (fun g_55 hf => ?_) (fun g_55 hf => ?_)
  · refine z_aload_n (pc' := 61) C 0 dX9_nextStage_60 rfl rfl rfl ?_
    refine z_cV (pc' := 64) C hf (As := []) (fun hq => c_X9_change (a := a) (zc_i (o := 0) n_a0 rfl) (zc_i (o := 1) n_a1 rfl) hq) (fun q_61 => (zu h a [(0, .inr (9, [.int q_52.2, .ref (zo w + (a + 1)), .ref (zo w + (a + 2)), .ref (zo w + (a + 3)), .int q_61.1, .int q_61.2.1, .ref (zo w + (a + 4)), .int m_bytes, .int m_errorAt, .int m_size, .int m_next, .int m_error, .int m_place, .int m_began, .int m_nested, .int m_once, .ref (zo w + (a + 5))])), (1, .inl (w.2.2.1 1, 22500, .inr (.inl q_61.2.2)))])) (fun q_61 => []) (fun _ => zu_sh (d := 0) rfl rfl) (fun _ => rfl) zy_X9_change zw_1345 zw_1347 zv_42 (ci := 9) rfl (zc_i (o := 0) n_a0 rfl) ⟨rfl, rfl⟩ rfl rfl rfl rfl rfl dX9_nextStage_61 rfl (fun q_61 hf => ?_)
    refine z_aload_n (pc' := 65) C 0 dX9_nextStage_64 rfl rfl rfl ?_
    refine z_aload_n (pc' := 66) C 0 dX9_nextStage_65 rfl rfl rfl ?_
    refine z_iload_n (pc' := 67) C 1 dX9_nextStage_66 rfl rfl rfl ?_
    refine z_cV (pc' := 70) C hf (As := [.int x1]) (fun hq => c_X9_at (a := a)  hq) (fun _ => (zu h a [(0, .inr (9, [.int q_52.2, .ref (zo w + (a + 1)), .ref (zo w + (a + 2)), .ref (zo w + (a + 3)), .int q_61.1, .int q_61.2.1, .ref (zo w + (a + 4)), .int m_bytes, .int m_errorAt, .int m_size, .int m_next, .int m_error, .int m_place, .int m_began, .int m_nested, .int m_once, .ref (zo w + (a + 5))])), (1, .inl (w.2.2.1 1, 22500, .inr (.inl q_61.2.2)))])) (fun q_67 => [.int q_67, .ref (zo w + a)]) (fun _ => rfl) (fun _ => rfl) zy_X9_at zw_1381 zw_1383 zv_47 (ci := 9) rfl (zc_i (o := 0) n_a0 rfl) ⟨rfl, rfl⟩ rfl rfl rfl rfl rfl dX9_nextStage_67 rfl (fun q_67 hf => ?_)
    refine z_bipush (pc' := 72) C dX9_nextStage_70 zk_bipush_6 rfl ?_
    refine z_iadd (pc' := 73) C dX9_nextStage_72 rfl ?_
    refine z_lload_n (pc' := 74) C 2 dX9_nextStage_73 rfl rfl rfl ?_
    refine z_lconst (pc' := 75) C dX9_nextStage_74 zl_1 rfl ?_
    refine z_ladd (pc' := 76) C dX9_nextStage_75 rfl ?_
    refine z_cV (pc' := 79) C hf (As := [.int (q_67 + (6 : Int32)), .long (x2 + (1 : Int64))]) (fun hq => c_X9_put (a := a) (zc_i (o := 0) n_a0 rfl) (zc_i (o := 1) n_a1 rfl) hq) (fun q_76 => (zu h a [(0, .inr (9, [.int q_52.2, .ref (zo w + (a + 1)), .ref (zo w + (a + 2)), .ref (zo w + (a + 3)), .int q_61.1, .int q_61.2.1, .ref (zo w + (a + 4)), .int m_bytes, .int m_errorAt, .int m_size, .int m_next, .int m_error, .int m_place, .int m_began, .int m_nested, .int m_once, .ref (zo w + (a + 5))])), (1, .inl (w.2.2.1 1, 22500, .inr (.inl q_76)))])) (fun q_76 => []) (fun _ => zu_sh (d := 0) rfl rfl) (fun _ => rfl) zy_X9_put zw_1353 zw_1355 zv_44 (ci := 9) rfl (zc_i (o := 0) n_a0 rfl) ⟨rfl, rfl⟩ rfl rfl rfl rfl rfl dX9_nextStage_76 rfl (fun q_76 hf => ?_)
    refine z_lload_n (pc' := 80) C 2 dX9_nextStage_79 rfl rfl rfl ?_
    refine z_l2i (pc' := 81) C dX9_nextStage_80 rfl ?_
    refine z_iconst (pc' := 82) C dX9_nextStage_81 zk_iconst_1 rfl ?_
    refine z_iadd (pc' := 83) C dX9_nextStage_82 rfl ?_
    cases hf
    exact z_iret C rfl rfl dX9_nextStage_83
  · refine z_iconst (pc' := 59) C dX9_nextStage_58 zk_iconst_0 rfl ?_
    cases hf
    exact z_iret C rfl rfl dX9_nextStage_59
set_option maxRecDepth 20000 in
theorem w_X9_nextStage_46 {X : zC} {w : zV} {N : Nat} {h : zH} {a : Nat} {m_next : Int32} {m_error : Int32} {m_place : Int32} {m_began : Int32} {m_nested : Int32} {m_once : Int32} {m_bytes : Int32} {m_errorAt : Int32} {m_size : Int32} (C : zK X w RX9 cX9_nextStage 4 (some .int) (zr 3 89)) (n_a0 : a + 0 < N) (n_a1 : a + 1 < N) {r : Int32 × Int32 × Int32 × Int32 × (Nat → Int64)} {m_thrown : Int32} {m_now : Int32} {m_undoable : Int32} {m_rows : Nat → Int64} {x1 : Int32} {x2 : Int64} (hf : f_X9_nextStage_46  m_thrown m_now m_undoable m_rows x1 x2 = some r) : zZ X w (zQ X w (zr 3 89) (some (.int r.1)) false N (zu h a [(0, .inr (9, [.int r.2.1, .ref (zo w + (a + 1)), .ref (zo w + (a + 2)), .ref (zo w + (a + 3)), .int r.2.2.1, .int r.2.2.2.1, .ref (zo w + (a + 4)), .int m_bytes, .int m_errorAt, .int m_size, .int m_next, .int m_error, .int m_place, .int m_began, .int m_nested, .int m_once, .ref (zo w + (a + 5))])), (1, .inl (w.2.2.1 1, 22500, .inr (.inl r.2.2.2.2)))])) 0 0 false N (zu h a [(0, .inr (9, [.int m_thrown, .ref (zo w + (a + 1)), .ref (zo w + (a + 2)), .ref (zo w + (a + 3)), .int m_now, .int m_undoable, .ref (zo w + (a + 4)), .int m_bytes, .int m_errorAt, .int m_size, .int m_next, .int m_error, .int m_place, .int m_began, .int m_nested, .int m_once, .ref (zo w + (a + 5))])), (1, .inl (w.2.2.1 1, 22500, .inr (.inl m_rows)))]) 46 [(0, .ref (zo w + a)), (1, .int x1), (2, .long x2)] [.ref (zo w + a)] := by
  unfold f_X9_nextStage_46 at hf
  refine z_iconst (pc' := 47) C dX9_nextStage_46 zk_iconst_1 rfl ?_
  refine z_goto C 51 dX9_nextStage_47 rfl ?_
  exact w_X9_nextStage_51 C n_a0 n_a1  hf
set_option maxRecDepth 20000 in
theorem w_X9_nextStage_50 {X : zC} {w : zV} {N : Nat} {h : zH} {a : Nat} {m_next : Int32} {m_error : Int32} {m_place : Int32} {m_began : Int32} {m_nested : Int32} {m_once : Int32} {m_bytes : Int32} {m_errorAt : Int32} {m_size : Int32} (C : zK X w RX9 cX9_nextStage 4 (some .int) (zr 3 89)) (n_a0 : a + 0 < N) (n_a1 : a + 1 < N) {r : Int32 × Int32 × Int32 × Int32 × (Nat → Int64)} {m_thrown : Int32} {m_now : Int32} {m_undoable : Int32} {m_rows : Nat → Int64} {x1 : Int32} {x2 : Int64} (hf : f_X9_nextStage_50  m_thrown m_now m_undoable m_rows x1 x2 = some r) : zZ X w (zQ X w (zr 3 89) (some (.int r.1)) false N (zu h a [(0, .inr (9, [.int r.2.1, .ref (zo w + (a + 1)), .ref (zo w + (a + 2)), .ref (zo w + (a + 3)), .int r.2.2.1, .int r.2.2.2.1, .ref (zo w + (a + 4)), .int m_bytes, .int m_errorAt, .int m_size, .int m_next, .int m_error, .int m_place, .int m_began, .int m_nested, .int m_once, .ref (zo w + (a + 5))])), (1, .inl (w.2.2.1 1, 22500, .inr (.inl r.2.2.2.2)))])) 0 0 false N (zu h a [(0, .inr (9, [.int m_thrown, .ref (zo w + (a + 1)), .ref (zo w + (a + 2)), .ref (zo w + (a + 3)), .int m_now, .int m_undoable, .ref (zo w + (a + 4)), .int m_bytes, .int m_errorAt, .int m_size, .int m_next, .int m_error, .int m_place, .int m_began, .int m_nested, .int m_once, .ref (zo w + (a + 5))])), (1, .inl (w.2.2.1 1, 22500, .inr (.inl m_rows)))]) 50 [(0, .ref (zo w + a)), (1, .int x1), (2, .long x2)] [.ref (zo w + a)] := by
  unfold f_X9_nextStage_50 at hf
  refine z_iconst (pc' := 51) C dX9_nextStage_50 zk_iconst_0 rfl ?_
  exact w_X9_nextStage_51 C n_a0 n_a1  hf
set_option maxRecDepth 20000 in
theorem c_X9_nextStage {w : zV} {N : Nat} {h : zH} {a : Nat} {m_thrown : Int32} {m_next : Int32} {m_error : Int32} {m_place : Int32} {m_began : Int32} {m_nested : Int32} {m_once : Int32} {m_now : Int32} {m_undoable : Int32} {m_bytes : Int32} {m_errorAt : Int32} {m_size : Int32} {m_rows : Nat → Int64} {p1 : Int32} (h_a0 : zc N h (a + 0) (.inr (9, [.int m_thrown, .ref (zo w + (a + 1)), .ref (zo w + (a + 2)), .ref (zo w + (a + 3)), .int m_now, .int m_undoable, .ref (zo w + (a + 4)), .int m_bytes, .int m_errorAt, .int m_size, .int m_next, .int m_error, .int m_place, .int m_began, .int m_nested, .int m_once, .ref (zo w + (a + 5))]))) (h_a1 : zc N h (a + 1) (.inl (w.2.2.1 1, 22500, .inr (.inl m_rows)))) {r : Int32 × Int32 × Int32 × Int32 × (Nat → Int64)} (hf : f_X9_nextStage m_thrown m_now m_undoable m_rows p1 = some r) : zM w yX9_nextStage cX9_nextStage 4 (some .int) (zr 3 89) false N N h [.ref (zo w + a), .int p1] (some (.int r.1)) (zu h a [(0, .inr (9, [.int r.2.1, .ref (zo w + (a + 1)), .ref (zo w + (a + 2)), .ref (zo w + (a + 3)), .int r.2.2.1, .int r.2.2.2.1, .ref (zo w + (a + 4)), .int m_bytes, .int m_errorAt, .int m_size, .int m_next, .int m_error, .int m_place, .int m_began, .int m_nested, .int m_once, .ref (zo w + (a + 5))])), (1, .inl (w.2.2.1 1, 22500, .inr (.inl r.2.2.2.2)))]) := by
  unfold f_X9_nextStage at hf
  refine zM_of (by decide) rfl (fun X C _ => ?_)
  refine z_eq (h' := (zu h a [(0, .inr (9, [.int m_thrown, .ref (zo w + (a + 1)), .ref (zo w + (a + 2)), .ref (zo w + (a + 3)), .int m_now, .int m_undoable, .ref (zo w + (a + 4)), .int m_bytes, .int m_errorAt, .int m_size, .int m_next, .int m_error, .int m_place, .int m_began, .int m_nested, .int m_once, .ref (zo w + (a + 5))])), (1, .inl (w.2.2.1 1, 22500, .inr (.inl m_rows)))])) (zu_s h_a0 (zu_s h_a1 zu_0)).symm ?_
  have n_a0 := h_a0.1
  have n_a1 := h_a1.1
  refine z_pick (lv' := [(0, .ref (zo w + a)), (1, .int p1)]) [0, 1] rfl ?_
  refine z_aload_n (pc' := 1) C 0 dX9_nextStage_0 rfl rfl rfl ?_
  refine z_iload_n (pc' := 2) C 1 dX9_nextStage_1 rfl rfl rfl ?_
  refine z_cV (pc' := 5) C hf (As := [.int p1]) (fun hq => c_X9_isContract (a := a) (zc_i (o := 0) n_a0 rfl) (zc_i (o := 1) n_a1 rfl) hq) (fun q_2 => (zu h a [(0, .inr (9, [.int q_2.2, .ref (zo w + (a + 1)), .ref (zo w + (a + 2)), .ref (zo w + (a + 3)), .int m_now, .int m_undoable, .ref (zo w + (a + 4)), .int m_bytes, .int m_errorAt, .int m_size, .int m_next, .int m_error, .int m_place, .int m_began, .int m_nested, .int m_once, .ref (zo w + (a + 5))])), (1, .inl (w.2.2.1 1, 22500, .inr (.inl m_rows)))])) (fun q_2 => [.int q_2.1]) (fun _ => zu_sh (d := 0) rfl rfl) (fun _ => rfl) zy_X9_isContract zw_1377 zw_1379 zv_46 (ci := 9) rfl (zc_i (o := 0) n_a0 rfl) ⟨rfl, rfl⟩ rfl rfl rfl rfl rfl dX9_nextStage_2 rfl (fun q_2 hf => ?_)
  refine z_if_ne (pc' := 8) C 10 hf dX9_nextStage_5 rfl rfl (fun g_5 hf => ?_) (fun g_5 hf => ?_)
  · refine z_aload_n (pc' := 11) C 0 dX9_nextStage_10 rfl rfl rfl ?_
    refine z_aload_n (pc' := 12) C 0 dX9_nextStage_11 rfl rfl rfl ?_
    refine z_iload_n (pc' := 13) C 1 dX9_nextStage_12 rfl rfl rfl ?_
    refine z_cV (pc' := 16) C hf (As := [.int p1]) (fun hq => c_X9_at (a := a)  hq) (fun _ => (zu h a [(0, .inr (9, [.int q_2.2, .ref (zo w + (a + 1)), .ref (zo w + (a + 2)), .ref (zo w + (a + 3)), .int m_now, .int m_undoable, .ref (zo w + (a + 4)), .int m_bytes, .int m_errorAt, .int m_size, .int m_next, .int m_error, .int m_place, .int m_began, .int m_nested, .int m_once, .ref (zo w + (a + 5))])), (1, .inl (w.2.2.1 1, 22500, .inr (.inl m_rows)))])) (fun q_13 => [.int q_13, .ref (zo w + a)]) (fun _ => rfl) (fun _ => rfl) zy_X9_at zw_1381 zw_1383 zv_47 (ci := 9) rfl (zc_i (o := 0) n_a0 rfl) ⟨rfl, rfl⟩ rfl rfl rfl rfl rfl dX9_nextStage_13 rfl (fun q_13 hf => ?_)
    refine z_bipush (pc' := 18) C dX9_nextStage_16 zk_bipush_6 rfl ?_
    refine z_iadd (pc' := 19) C dX9_nextStage_18 rfl ?_
    refine z_cV (pc' := 22) C hf (As := [.int (q_13 + (6 : Int32))]) (fun hq => c_X9_get (a := a) (zc_i (o := 0) n_a0 rfl) (zc_i (o := 1) n_a1 rfl) hq) (fun _ => (zu h a [(0, .inr (9, [.int q_2.2, .ref (zo w + (a + 1)), .ref (zo w + (a + 2)), .ref (zo w + (a + 3)), .int m_now, .int m_undoable, .ref (zo w + (a + 4)), .int m_bytes, .int m_errorAt, .int m_size, .int m_next, .int m_error, .int m_place, .int m_began, .int m_nested, .int m_once, .ref (zo w + (a + 5))])), (1, .inl (w.2.2.1 1, 22500, .inr (.inl m_rows)))])) (fun q_19 => [.long q_19]) (fun _ => rfl) (fun _ => rfl) zy_X9_get zw_1349 zw_1351 zv_43 (ci := 9) rfl (zc_i (o := 0) n_a0 rfl) ⟨rfl, rfl⟩ rfl rfl rfl rfl rfl dX9_nextStage_19 rfl (fun q_19 hf => ?_)
    refine z_lstore_n (pc' := 23) C [(2, .long q_19), (0, .ref (zo w + a)), (1, .int p1)] dX9_nextStage_22 rfl rfl rfl rfl ?_
    refine z_aload_n (pc' := 24) C 1 dX9_nextStage_23 rfl rfl rfl ?_
    refine z_lload_n (pc' := 25) C 0 dX9_nextStage_24 rfl rfl rfl ?_
    refine z_ldc2 (pc' := 28) C zw_1341 dX9_nextStage_25 rfl ?_
    refine z_lcmp_ge (pc' := 32) C 50 hf dX9_nextStage_28 rfl dX9_nextStage_29 rfl rfl (fun g_28 hf => ?_) (fun g_28 hf => ?_)
    · refine z_pick (lv' := [(0, .ref (zo w + a)), (1, .int p1), (2, .long q_19)]) [1, 2, 0] rfl ?_
      exact w_X9_nextStage_50 C n_a0 n_a1  hf
    · refine z_lload_n (pc' := 33) C 0 dX9_nextStage_32 rfl rfl rfl ?_
      refine z_lconst (pc' := 34) C dX9_nextStage_33 zl_0 rfl ?_
      refine z_lcmp_gt (pc' := 38) C 46 hf dX9_nextStage_34 rfl dX9_nextStage_35 rfl rfl (fun g_34 hf => ?_) (fun g_34 hf => ?_)
      · refine z_pick (lv' := [(0, .ref (zo w + a)), (1, .int p1), (2, .long q_19)]) [1, 2, 0] rfl ?_
        exact w_X9_nextStage_46 C n_a0 n_a1  hf
      · refine z_aload_n (pc' := 39) C 1 dX9_nextStage_38 rfl rfl rfl ?_
        refine z_iload_n (pc' := 40) C 2 dX9_nextStage_39 rfl rfl rfl ?_
        refine z_cV (pc' := 43) C hf (As := [.int p1]) (fun hq => c_X9_isDone (a := a) (zc_i (o := 0) n_a0 rfl) (zc_i (o := 1) n_a1 rfl) hq) (fun _ => (zu h a [(0, .inr (9, [.int q_2.2, .ref (zo w + (a + 1)), .ref (zo w + (a + 2)), .ref (zo w + (a + 3)), .int m_now, .int m_undoable, .ref (zo w + (a + 4)), .int m_bytes, .int m_errorAt, .int m_size, .int m_next, .int m_error, .int m_place, .int m_began, .int m_nested, .int m_once, .ref (zo w + (a + 5))])), (1, .inl (w.2.2.1 1, 22500, .inr (.inl m_rows)))])) (fun q_40 => [.int q_40, .ref (zo w + a)]) (fun _ => rfl) (fun _ => rfl) zy_X9_isDone zw_1670 zw_1672 zv_80 (ci := 9) rfl (zc_i (o := 0) n_a0 rfl) ⟨rfl, rfl⟩ rfl rfl rfl rfl rfl dX9_nextStage_40 rfl (fun q_40 hf => ?_)
        refine z_if_eq (pc' := 46) C 50 hf dX9_nextStage_43 rfl rfl (fun g_43 hf => ?_) (fun g_43 hf => ?_)
        · refine z_pick (lv' := [(0, .ref (zo w + a)), (1, .int p1), (2, .long q_19)]) [1, 2, 0] rfl ?_
          exact w_X9_nextStage_50 C n_a0 n_a1  hf
        · refine z_pick (lv' := [(0, .ref (zo w + a)), (1, .int p1), (2, .long q_19)]) [1, 2, 0] rfl ?_
          exact w_X9_nextStage_46 C n_a0 n_a1  hf
  · refine z_iconst (pc' := 9) C dX9_nextStage_8 zk_iconst_0 rfl ?_
    cases hf
    exact z_iret C rfl rfl dX9_nextStage_9
set_option maxRecDepth 20000 in
theorem w_X9_pay_56 {X : zC} {w : zV} {N : Nat} {h : zH} {a : Nat} {m_next : Int32} {m_error : Int32} {m_place : Int32} {m_began : Int32} {m_nested : Int32} {m_once : Int32} {m_bytes : Int32} {m_errorAt : Int32} {m_size : Int32} (C : zK X w RX9 cX9_pay 3 (some .long) (zr 4 120)) (n_a0 : a + 0 < N) (n_a1 : a + 1 < N) {r : Int64 × Int32 × Int32 × Int32 × (Nat → Int64)} {m_thrown : Int32} {m_now : Int32} {m_undoable : Int32} {m_rows : Nat → Int64} {x1 : Int32} {x2 : Int32} {s1 : Int32} (hf : f_X9_pay_56  m_thrown m_now m_undoable m_rows x1 x2 s1 = some r) : zZ X w (zQ X w (zr 4 120) (some (.long r.1)) false N (zu h a [(0, .inr (9, [.int r.2.1, .ref (zo w + (a + 1)), .ref (zo w + (a + 2)), .ref (zo w + (a + 3)), .int r.2.2.1, .int r.2.2.2.1, .ref (zo w + (a + 4)), .int m_bytes, .int m_errorAt, .int m_size, .int m_next, .int m_error, .int m_place, .int m_began, .int m_nested, .int m_once, .ref (zo w + (a + 5))])), (1, .inl (w.2.2.1 1, 22500, .inr (.inl r.2.2.2.2)))])) 0 0 false N (zu h a [(0, .inr (9, [.int m_thrown, .ref (zo w + (a + 1)), .ref (zo w + (a + 2)), .ref (zo w + (a + 3)), .int m_now, .int m_undoable, .ref (zo w + (a + 4)), .int m_bytes, .int m_errorAt, .int m_size, .int m_next, .int m_error, .int m_place, .int m_began, .int m_nested, .int m_once, .ref (zo w + (a + 5))])), (1, .inl (w.2.2.1 1, 22500, .inr (.inl m_rows)))]) 56 [(0, .ref (zo w + a)), (1, .int x1), (2, .int x2)] [.int s1, .ref (zo w + a)] := by
  unfold f_X9_pay_56 at hf
  refine z_iconst (pc' := 57) C dX9_pay_56 zk_iconst_3 rfl ?_
  refine z_cV (pc' := 60) C hf (As := [.int s1, .int (3 : Int32)]) (fun hq => c_X9_right (a := a) (zc_i (o := 0) n_a0 rfl) hq) (fun q_57 => (zu h a [(0, .inr (9, [.int q_57.2, .ref (zo w + (a + 1)), .ref (zo w + (a + 2)), .ref (zo w + (a + 3)), .int m_now, .int m_undoable, .ref (zo w + (a + 4)), .int m_bytes, .int m_errorAt, .int m_size, .int m_next, .int m_error, .int m_place, .int m_began, .int m_nested, .int m_once, .ref (zo w + (a + 5))])), (1, .inl (w.2.2.1 1, 22500, .inr (.inl m_rows)))])) (fun q_57 => [.int q_57.1]) (fun _ => zu_sh (d := 0) rfl rfl) (fun _ => rfl) zy_X9_right zw_1251 zw_1253 zv_23 (ci := 9) rfl (zc_i (o := 0) n_a0 rfl) ⟨rfl, rfl⟩ rfl rfl rfl rfl rfl dX9_pay_57 rfl (fun q_57 hf => ?_)
  refine z_if_ne (pc' := 63) C 65 hf dX9_pay_60 rfl rfl (fun g_60 hf => ?_) (fun g_60 hf => ?_)
  · refine z_aload_n (pc' := 66) C 0 dX9_pay_65 rfl rfl rfl ?_
    refine z_cV (pc' := 69) C hf (As := []) (fun hq => c_X9_change (a := a) (zc_i (o := 0) n_a0 rfl) (zc_i (o := 1) n_a1 rfl) hq) (fun q_66 => (zu h a [(0, .inr (9, [.int q_57.2, .ref (zo w + (a + 1)), .ref (zo w + (a + 2)), .ref (zo w + (a + 3)), .int q_66.1, .int q_66.2.1, .ref (zo w + (a + 4)), .int m_bytes, .int m_errorAt, .int m_size, .int m_next, .int m_error, .int m_place, .int m_began, .int m_nested, .int m_once, .ref (zo w + (a + 5))])), (1, .inl (w.2.2.1 1, 22500, .inr (.inl q_66.2.2)))])) (fun q_66 => []) (fun _ => zu_sh (d := 0) rfl rfl) (fun _ => rfl) zy_X9_change zw_1345 zw_1347 zv_42 (ci := 9) rfl (zc_i (o := 0) n_a0 rfl) ⟨rfl, rfl⟩ rfl rfl rfl rfl rfl dX9_pay_66 rfl (fun q_66 hf => ?_)
    refine z_aload_n (pc' := 70) C 0 dX9_pay_69 rfl rfl rfl ?_
    refine z_iload_n (pc' := 71) C 1 dX9_pay_70 rfl rfl rfl ?_
    refine z_iload_n (pc' := 72) C 2 dX9_pay_71 rfl rfl rfl ?_
    refine z_i2l (pc' := 73) C dX9_pay_72 rfl ?_
    refine z_cV (pc' := 76) C hf (As := [.int x1, .long (x2).toInt64]) (fun hq => c_X9_pays (a := a) (zc_i (o := 0) n_a0 rfl) (zc_i (o := 1) n_a1 rfl) hq) (fun q_73 => (zu h a [(0, .inr (9, [.int q_57.2, .ref (zo w + (a + 1)), .ref (zo w + (a + 2)), .ref (zo w + (a + 3)), .int q_66.1, .int q_66.2.1, .ref (zo w + (a + 4)), .int m_bytes, .int m_errorAt, .int m_size, .int m_next, .int m_error, .int m_place, .int m_began, .int m_nested, .int m_once, .ref (zo w + (a + 5))])), (1, .inl (w.2.2.1 1, 22500, .inr (.inl q_73)))])) (fun q_73 => []) (fun _ => zu_sh (d := 0) rfl rfl) (fun _ => rfl) zy_X9_pays zw_1570 zw_1572 zv_69 (ci := 9) rfl (zc_i (o := 0) n_a0 rfl) ⟨rfl, rfl⟩ rfl rfl rfl rfl rfl dX9_pay_73 rfl (fun q_73 hf => ?_)
    refine z_aload_n (pc' := 77) C 0 dX9_pay_76 rfl rfl rfl ?_
    refine z_iload_n (pc' := 78) C 1 dX9_pay_77 rfl rfl rfl ?_
    refine z_cV (pc' := 81) C hf (As := [.int x1]) (fun hq => c_X9_openOf (a := a) (zc_i (o := 0) n_a0 rfl) (zc_i (o := 1) n_a1 rfl) hq) (fun _ => (zu h a [(0, .inr (9, [.int q_57.2, .ref (zo w + (a + 1)), .ref (zo w + (a + 2)), .ref (zo w + (a + 3)), .int q_66.1, .int q_66.2.1, .ref (zo w + (a + 4)), .int m_bytes, .int m_errorAt, .int m_size, .int m_next, .int m_error, .int m_place, .int m_began, .int m_nested, .int m_once, .ref (zo w + (a + 5))])), (1, .inl (w.2.2.1 1, 22500, .inr (.inl q_73)))])) (fun q_78 => [.long q_78]) (fun _ => rfl) (fun _ => rfl) zy_X9_openOf zw_1509 zw_1511 zv_63 (ci := 9) rfl (zc_i (o := 0) n_a0 rfl) ⟨rfl, rfl⟩ rfl rfl rfl rfl rfl dX9_pay_78 rfl (fun q_78 hf => ?_)
    cases hf
    exact z_lret C rfl rfl dX9_pay_81
  · refine z_lconst (pc' := 64) C dX9_pay_63 zl_0 rfl ?_
    cases hf
    exact z_lret C rfl rfl dX9_pay_64
set_option maxRecDepth 20000 in
theorem w_X9_pay_55 {X : zC} {w : zV} {N : Nat} {h : zH} {a : Nat} {m_next : Int32} {m_error : Int32} {m_place : Int32} {m_began : Int32} {m_nested : Int32} {m_once : Int32} {m_bytes : Int32} {m_errorAt : Int32} {m_size : Int32} (C : zK X w RX9 cX9_pay 3 (some .long) (zr 4 120)) (n_a0 : a + 0 < N) (n_a1 : a + 1 < N) {r : Int64 × Int32 × Int32 × Int32 × (Nat → Int64)} {m_thrown : Int32} {m_now : Int32} {m_undoable : Int32} {m_rows : Nat → Int64} {x1 : Int32} {x2 : Int32} (hf : f_X9_pay_55  m_thrown m_now m_undoable m_rows x1 x2 = some r) : zZ X w (zQ X w (zr 4 120) (some (.long r.1)) false N (zu h a [(0, .inr (9, [.int r.2.1, .ref (zo w + (a + 1)), .ref (zo w + (a + 2)), .ref (zo w + (a + 3)), .int r.2.2.1, .int r.2.2.2.1, .ref (zo w + (a + 4)), .int m_bytes, .int m_errorAt, .int m_size, .int m_next, .int m_error, .int m_place, .int m_began, .int m_nested, .int m_once, .ref (zo w + (a + 5))])), (1, .inl (w.2.2.1 1, 22500, .inr (.inl r.2.2.2.2)))])) 0 0 false N (zu h a [(0, .inr (9, [.int m_thrown, .ref (zo w + (a + 1)), .ref (zo w + (a + 2)), .ref (zo w + (a + 3)), .int m_now, .int m_undoable, .ref (zo w + (a + 4)), .int m_bytes, .int m_errorAt, .int m_size, .int m_next, .int m_error, .int m_place, .int m_began, .int m_nested, .int m_once, .ref (zo w + (a + 5))])), (1, .inl (w.2.2.1 1, 22500, .inr (.inl m_rows)))]) 55 [(0, .ref (zo w + a)), (1, .int x1), (2, .int x2)] [.ref (zo w + a)] := by
  unfold f_X9_pay_55 at hf
  refine z_iconst (pc' := 56) C dX9_pay_55 zk_iconst_0 rfl ?_
  exact w_X9_pay_56 C n_a0 n_a1  hf
set_option maxRecDepth 20000 in
theorem c_X9_pay {w : zV} {N : Nat} {h : zH} {a : Nat} {m_thrown : Int32} {m_next : Int32} {m_error : Int32} {m_place : Int32} {m_began : Int32} {m_nested : Int32} {m_once : Int32} {m_now : Int32} {m_undoable : Int32} {m_bytes : Int32} {m_errorAt : Int32} {m_size : Int32} {m_rows : Nat → Int64} {p1 : Int32} {p2 : Int32} (h_a0 : zc N h (a + 0) (.inr (9, [.int m_thrown, .ref (zo w + (a + 1)), .ref (zo w + (a + 2)), .ref (zo w + (a + 3)), .int m_now, .int m_undoable, .ref (zo w + (a + 4)), .int m_bytes, .int m_errorAt, .int m_size, .int m_next, .int m_error, .int m_place, .int m_began, .int m_nested, .int m_once, .ref (zo w + (a + 5))]))) (h_a1 : zc N h (a + 1) (.inl (w.2.2.1 1, 22500, .inr (.inl m_rows)))) {r : Int64 × Int32 × Int32 × Int32 × (Nat → Int64)} (hf : f_X9_pay m_thrown m_now m_undoable m_rows p1 p2 = some r) : zM w yX9_pay cX9_pay 3 (some .long) (zr 4 120) false N N h [.ref (zo w + a), .int p1, .int p2] (some (.long r.1)) (zu h a [(0, .inr (9, [.int r.2.1, .ref (zo w + (a + 1)), .ref (zo w + (a + 2)), .ref (zo w + (a + 3)), .int r.2.2.1, .int r.2.2.2.1, .ref (zo w + (a + 4)), .int m_bytes, .int m_errorAt, .int m_size, .int m_next, .int m_error, .int m_place, .int m_began, .int m_nested, .int m_once, .ref (zo w + (a + 5))])), (1, .inl (w.2.2.1 1, 22500, .inr (.inl r.2.2.2.2)))]) := by
  unfold f_X9_pay at hf
  refine zM_of (by decide) rfl (fun X C _ => ?_)
  refine z_eq (h' := (zu h a [(0, .inr (9, [.int m_thrown, .ref (zo w + (a + 1)), .ref (zo w + (a + 2)), .ref (zo w + (a + 3)), .int m_now, .int m_undoable, .ref (zo w + (a + 4)), .int m_bytes, .int m_errorAt, .int m_size, .int m_next, .int m_error, .int m_place, .int m_began, .int m_nested, .int m_once, .ref (zo w + (a + 5))])), (1, .inl (w.2.2.1 1, 22500, .inr (.inl m_rows)))])) (zu_s h_a0 (zu_s h_a1 zu_0)).symm ?_
  have n_a0 := h_a0.1
  have n_a1 := h_a1.1
  refine z_pick (lv' := [(0, .ref (zo w + a)), (1, .int p1), (2, .int p2)]) [0, 1, 2] rfl ?_
  refine z_aload_n (pc' := 1) C 0 dX9_pay_0 rfl rfl rfl ?_
  refine z_iload_n (pc' := 2) C 1 dX9_pay_1 rfl rfl rfl ?_
  refine z_cV (pc' := 5) C hf (As := [.int p1]) (fun hq => c_X9_isBill (a := a) (zc_i (o := 0) n_a0 rfl) (zc_i (o := 1) n_a1 rfl) hq) (fun q_2 => (zu h a [(0, .inr (9, [.int q_2.2, .ref (zo w + (a + 1)), .ref (zo w + (a + 2)), .ref (zo w + (a + 3)), .int m_now, .int m_undoable, .ref (zo w + (a + 4)), .int m_bytes, .int m_errorAt, .int m_size, .int m_next, .int m_error, .int m_place, .int m_began, .int m_nested, .int m_once, .ref (zo w + (a + 5))])), (1, .inl (w.2.2.1 1, 22500, .inr (.inl m_rows)))])) (fun q_2 => [.int q_2.1]) (fun _ => zu_sh (d := 0) rfl rfl) (fun _ => rfl) zy_X9_isBill zw_1525 zw_1527 zv_64 (ci := 9) rfl (zc_i (o := 0) n_a0 rfl) ⟨rfl, rfl⟩ rfl rfl rfl rfl rfl dX9_pay_2 rfl (fun q_2 hf => ?_)
  refine z_if_eq (pc' := 8) C 63 hf dX9_pay_5 rfl rfl (fun g_5 hf => ?_) (fun g_5 hf => ?_)
  · refine z_lconst (pc' := 64) C dX9_pay_63 zl_0 rfl ?_
    cases hf
    exact z_lret C rfl rfl dX9_pay_64
  · refine z_aload_n (pc' := 9) C 0 dX9_pay_8 rfl rfl rfl ?_
    refine z_iload_n (pc' := 10) C 2 dX9_pay_9 rfl rfl rfl ?_
    refine z_i2l (pc' := 11) C dX9_pay_10 rfl ?_
    refine z_lconst (pc' := 12) C dX9_pay_11 zl_1 rfl ?_
    refine z_aload_n (pc' := 13) C 0 dX9_pay_12 rfl rfl rfl ?_
    refine z_iload_n (pc' := 14) C 1 dX9_pay_13 rfl rfl rfl ?_
    refine z_cV (pc' := 17) C hf (As := [.int p1]) (fun hq => c_X9_openOf (a := a) (zc_i (o := 0) n_a0 rfl) (zc_i (o := 1) n_a1 rfl) hq) (fun _ => (zu h a [(0, .inr (9, [.int q_2.2, .ref (zo w + (a + 1)), .ref (zo w + (a + 2)), .ref (zo w + (a + 3)), .int m_now, .int m_undoable, .ref (zo w + (a + 4)), .int m_bytes, .int m_errorAt, .int m_size, .int m_next, .int m_error, .int m_place, .int m_began, .int m_nested, .int m_once, .ref (zo w + (a + 5))])), (1, .inl (w.2.2.1 1, 22500, .inr (.inl m_rows)))])) (fun q_14 => [.long q_14, .long (1 : Int64), .long (p2).toInt64, .ref (zo w + a)]) (fun _ => rfl) (fun _ => rfl) zy_X9_openOf zw_1509 zw_1511 zv_63 (ci := 9) rfl (zc_i (o := 0) n_a0 rfl) ⟨rfl, rfl⟩ rfl rfl rfl rfl rfl dX9_pay_14 rfl (fun q_14 hf => ?_)
    refine z_cS (pc' := 20) C hf (As := [.long (p2).toInt64, .long (1 : Int64), .long q_14]) (fun hq => c_X9_isIn  hq) (fun _ => (zu h a [(0, .inr (9, [.int q_2.2, .ref (zo w + (a + 1)), .ref (zo w + (a + 2)), .ref (zo w + (a + 3)), .int m_now, .int m_undoable, .ref (zo w + (a + 4)), .int m_bytes, .int m_errorAt, .int m_size, .int m_next, .int m_error, .int m_place, .int m_began, .int m_nested, .int m_once, .ref (zo w + (a + 5))])), (1, .inl (w.2.2.1 1, 22500, .inr (.inl m_rows)))])) (fun q_17 => [.int q_17, .ref (zo w + a)]) (fun _ => rfl) (fun _ => rfl) zy_X9_isIn zw_1248 zw_1249 ⟨rfl, rfl⟩ rfl rfl rfl rfl rfl dX9_pay_17 rfl (fun q_17 hf => ?_)
    refine z_iconst (pc' := 21) C dX9_pay_20 zk_iconst_2 rfl ?_
    refine z_cV (pc' := 24) C hf (As := [.int q_17, .int (2 : Int32)]) (fun hq => c_X9_right (a := a) (zc_i (o := 0) n_a0 rfl) hq) (fun q_21 => (zu h a [(0, .inr (9, [.int q_21.2, .ref (zo w + (a + 1)), .ref (zo w + (a + 2)), .ref (zo w + (a + 3)), .int m_now, .int m_undoable, .ref (zo w + (a + 4)), .int m_bytes, .int m_errorAt, .int m_size, .int m_next, .int m_error, .int m_place, .int m_began, .int m_nested, .int m_once, .ref (zo w + (a + 5))])), (1, .inl (w.2.2.1 1, 22500, .inr (.inl m_rows)))])) (fun q_21 => [.int q_21.1]) (fun _ => zu_sh (d := 0) rfl rfl) (fun _ => rfl) zy_X9_right zw_1251 zw_1253 zv_23 (ci := 9) rfl (zc_i (o := 0) n_a0 rfl) ⟨rfl, rfl⟩ rfl rfl rfl rfl rfl dX9_pay_21 rfl (fun q_21 hf => ?_)
    refine z_if_eq (pc' := 27) C 63 hf dX9_pay_24 rfl rfl (fun g_24 hf => ?_) (fun g_24 hf => ?_)
    · refine z_lconst (pc' := 64) C dX9_pay_63 zl_0 rfl ?_
      cases hf
      exact z_lret C rfl rfl dX9_pay_64
    · refine z_aload_n (pc' := 28) C 0 dX9_pay_27 rfl rfl rfl ?_
      refine z_aload_n (pc' := 29) C 0 dX9_pay_28 rfl rfl rfl ?_
      refine z_iload_n (pc' := 30) C 1 dX9_pay_29 rfl rfl rfl ?_
      refine z_cV (pc' := 33) C hf (As := [.int p1]) (fun hq => c_X9_isHeld (a := a) (zc_i (o := 0) n_a0 rfl) (zc_i (o := 1) n_a1 rfl) hq) (fun _ => (zu h a [(0, .inr (9, [.int q_21.2, .ref (zo w + (a + 1)), .ref (zo w + (a + 2)), .ref (zo w + (a + 3)), .int m_now, .int m_undoable, .ref (zo w + (a + 4)), .int m_bytes, .int m_errorAt, .int m_size, .int m_next, .int m_error, .int m_place, .int m_began, .int m_nested, .int m_once, .ref (zo w + (a + 5))])), (1, .inl (w.2.2.1 1, 22500, .inr (.inl m_rows)))])) (fun q_30 => [.int q_30, .ref (zo w + a)]) (fun _ => rfl) (fun _ => rfl) zy_X9_isHeld zw_1545 zw_1547 zv_65 (ci := 9) rfl (zc_i (o := 0) n_a0 rfl) ⟨rfl, rfl⟩ rfl rfl rfl rfl rfl dX9_pay_30 rfl (fun q_30 hf => ?_)
      refine z_if_ne (pc' := 36) C 55 hf dX9_pay_33 rfl rfl (fun g_33 hf => ?_) (fun g_33 hf => ?_)
      · exact w_X9_pay_55 C n_a0 n_a1  hf
      · refine z_aload_n (pc' := 37) C 0 dX9_pay_36 rfl rfl rfl ?_
        refine z_aload_n (pc' := 38) C 0 dX9_pay_37 rfl rfl rfl ?_
        refine z_iload_n (pc' := 39) C 1 dX9_pay_38 rfl rfl rfl ?_
        refine z_cV (pc' := 42) C hf (As := [.int p1]) (fun hq => c_X9_payerOf (a := a) (zc_i (o := 0) n_a0 rfl) (zc_i (o := 1) n_a1 rfl) hq) (fun _ => (zu h a [(0, .inr (9, [.int q_21.2, .ref (zo w + (a + 1)), .ref (zo w + (a + 2)), .ref (zo w + (a + 3)), .int m_now, .int m_undoable, .ref (zo w + (a + 4)), .int m_bytes, .int m_errorAt, .int m_size, .int m_next, .int m_error, .int m_place, .int m_began, .int m_nested, .int m_once, .ref (zo w + (a + 5))])), (1, .inl (w.2.2.1 1, 22500, .inr (.inl m_rows)))])) (fun q_39 => [.int q_39, .ref (zo w + a), .ref (zo w + a)]) (fun _ => rfl) (fun _ => rfl) zy_X9_payerOf zw_1566 zw_1568 zv_68 (ci := 9) rfl (zc_i (o := 0) n_a0 rfl) ⟨rfl, rfl⟩ rfl rfl rfl rfl rfl dX9_pay_39 rfl (fun q_39 hf => ?_)
        refine z_cV (pc' := 45) C hf (As := [.int q_39]) (fun hq => c_X9_get (a := a) (zc_i (o := 0) n_a0 rfl) (zc_i (o := 1) n_a1 rfl) hq) (fun _ => (zu h a [(0, .inr (9, [.int q_21.2, .ref (zo w + (a + 1)), .ref (zo w + (a + 2)), .ref (zo w + (a + 3)), .int m_now, .int m_undoable, .ref (zo w + (a + 4)), .int m_bytes, .int m_errorAt, .int m_size, .int m_next, .int m_error, .int m_place, .int m_began, .int m_nested, .int m_once, .ref (zo w + (a + 5))])), (1, .inl (w.2.2.1 1, 22500, .inr (.inl m_rows)))])) (fun q_42 => [.long q_42, .ref (zo w + a)]) (fun _ => rfl) (fun _ => rfl) zy_X9_get zw_1349 zw_1351 zv_43 (ci := 9) rfl (zc_i (o := 0) n_a0 rfl) ⟨rfl, rfl⟩ rfl rfl rfl rfl rfl dX9_pay_42 rfl (fun q_42 hf => ?_)
        refine z_iload_n (pc' := 46) C 2 dX9_pay_45 rfl rfl rfl ?_
        refine z_i2l (pc' := 47) C dX9_pay_46 rfl ?_
        refine z_lcmp_lt (pc' := 51) C 55 hf dX9_pay_47 rfl dX9_pay_48 rfl rfl (fun g_47 hf => ?_) (fun g_47 hf => ?_)
        · exact w_X9_pay_55 C n_a0 n_a1  hf
        · refine z_iconst (pc' := 52) C dX9_pay_51 zk_iconst_1 rfl ?_
          refine z_goto C 56 dX9_pay_52 rfl ?_
          exact w_X9_pay_56 C n_a0 n_a1  hf
set_option maxRecDepth 20000 in
theorem w_X9_deposit_54 {X : zC} {w : zV} {N : Nat} {h : zH} {a : Nat} {m_next : Int32} {m_error : Int32} {m_place : Int32} {m_began : Int32} {m_nested : Int32} {m_once : Int32} {m_bytes : Int32} {m_errorAt : Int32} {m_size : Int32} (C : zK X w RX9 cX9_deposit 2 (some .long) (zr 2 59)) (n_a0 : a + 0 < N) (n_a1 : a + 1 < N) {r : Int64 × Int32 × Int32 × Int32 × (Nat → Int64)} {m_thrown : Int32} {m_now : Int32} {m_undoable : Int32} {m_rows : Nat → Int64} {x1 : Int32} {s1 : Int32} (hf : f_X9_deposit_54  m_thrown m_now m_undoable m_rows x1 s1 = some r) : zZ X w (zQ X w (zr 2 59) (some (.long r.1)) false N (zu h a [(0, .inr (9, [.int r.2.1, .ref (zo w + (a + 1)), .ref (zo w + (a + 2)), .ref (zo w + (a + 3)), .int r.2.2.1, .int r.2.2.2.1, .ref (zo w + (a + 4)), .int m_bytes, .int m_errorAt, .int m_size, .int m_next, .int m_error, .int m_place, .int m_began, .int m_nested, .int m_once, .ref (zo w + (a + 5))])), (1, .inl (w.2.2.1 1, 22500, .inr (.inl r.2.2.2.2)))])) 0 0 false N (zu h a [(0, .inr (9, [.int m_thrown, .ref (zo w + (a + 1)), .ref (zo w + (a + 2)), .ref (zo w + (a + 3)), .int m_now, .int m_undoable, .ref (zo w + (a + 4)), .int m_bytes, .int m_errorAt, .int m_size, .int m_next, .int m_error, .int m_place, .int m_began, .int m_nested, .int m_once, .ref (zo w + (a + 5))])), (1, .inl (w.2.2.1 1, 22500, .inr (.inl m_rows)))]) 54 [(0, .ref (zo w + a)), (1, .int x1)] [.int s1, .ref (zo w + a)] := by
  unfold f_X9_deposit_54 at hf
  refine z_iconst (pc' := 55) C dX9_deposit_54 zk_iconst_2 rfl ?_
  refine z_cV (pc' := 58) C hf (As := [.int s1, .int (2 : Int32)]) (fun hq => c_X9_right (a := a) (zc_i (o := 0) n_a0 rfl) hq) (fun q_55 => (zu h a [(0, .inr (9, [.int q_55.2, .ref (zo w + (a + 1)), .ref (zo w + (a + 2)), .ref (zo w + (a + 3)), .int m_now, .int m_undoable, .ref (zo w + (a + 4)), .int m_bytes, .int m_errorAt, .int m_size, .int m_next, .int m_error, .int m_place, .int m_began, .int m_nested, .int m_once, .ref (zo w + (a + 5))])), (1, .inl (w.2.2.1 1, 22500, .inr (.inl m_rows)))])) (fun q_55 => [.int q_55.1]) (fun _ => zu_sh (d := 0) rfl rfl) (fun _ => rfl) zy_X9_right zw_1251 zw_1253 zv_23 (ci := 9) rfl (zc_i (o := 0) n_a0 rfl) ⟨rfl, rfl⟩ rfl rfl rfl rfl rfl dX9_deposit_55 rfl (fun q_55 hf => ?_)
  refine z_if_ne (pc' := 61) C 63 hf dX9_deposit_58 rfl rfl (fun g_58 hf => ?_) (fun g_58 hf => ?_)
  · refine z_aload_n (pc' := 64) C 0 dX9_deposit_63 rfl rfl rfl ?_
    refine z_cV (pc' := 67) C hf (As := []) (fun hq => c_X9_change (a := a) (zc_i (o := 0) n_a0 rfl) (zc_i (o := 1) n_a1 rfl) hq) (fun q_64 => (zu h a [(0, .inr (9, [.int q_55.2, .ref (zo w + (a + 1)), .ref (zo w + (a + 2)), .ref (zo w + (a + 3)), .int q_64.1, .int q_64.2.1, .ref (zo w + (a + 4)), .int m_bytes, .int m_errorAt, .int m_size, .int m_next, .int m_error, .int m_place, .int m_began, .int m_nested, .int m_once, .ref (zo w + (a + 5))])), (1, .inl (w.2.2.1 1, 22500, .inr (.inl q_64.2.2)))])) (fun q_64 => []) (fun _ => zu_sh (d := 0) rfl rfl) (fun _ => rfl) zy_X9_change zw_1345 zw_1347 zv_42 (ci := 9) rfl (zc_i (o := 0) n_a0 rfl) ⟨rfl, rfl⟩ rfl rfl rfl rfl rfl dX9_deposit_64 rfl (fun q_64 hf => ?_)
    refine z_aload_n (pc' := 68) C 0 dX9_deposit_67 rfl rfl rfl ?_
    refine z_bipush (pc' := 70) C dX9_deposit_68 zk_bipush_8 rfl ?_
    refine z_aload_n (pc' := 71) C 0 dX9_deposit_70 rfl rfl rfl ?_
    refine z_bipush (pc' := 73) C dX9_deposit_71 zk_bipush_8 rfl ?_
    refine z_cV (pc' := 76) C hf (As := [.int (8 : Int32)]) (fun hq => c_X9_get (a := a) (zc_i (o := 0) n_a0 rfl) (zc_i (o := 1) n_a1 rfl) hq) (fun _ => (zu h a [(0, .inr (9, [.int q_55.2, .ref (zo w + (a + 1)), .ref (zo w + (a + 2)), .ref (zo w + (a + 3)), .int q_64.1, .int q_64.2.1, .ref (zo w + (a + 4)), .int m_bytes, .int m_errorAt, .int m_size, .int m_next, .int m_error, .int m_place, .int m_began, .int m_nested, .int m_once, .ref (zo w + (a + 5))])), (1, .inl (w.2.2.1 1, 22500, .inr (.inl q_64.2.2)))])) (fun q_73 => [.long q_73, .int (8 : Int32), .ref (zo w + a)]) (fun _ => rfl) (fun _ => rfl) zy_X9_get zw_1349 zw_1351 zv_43 (ci := 9) rfl (zc_i (o := 0) n_a0 rfl) ⟨rfl, rfl⟩ rfl rfl rfl rfl rfl dX9_deposit_73 rfl (fun q_73 hf => ?_)
    refine z_iload_n (pc' := 77) C 1 dX9_deposit_76 rfl rfl rfl ?_
    refine z_i2l (pc' := 78) C dX9_deposit_77 rfl ?_
    refine z_ladd (pc' := 79) C dX9_deposit_78 rfl ?_
    refine z_cV (pc' := 82) C hf (As := [.int (8 : Int32), .long (q_73 + (x1).toInt64)]) (fun hq => c_X9_put (a := a) (zc_i (o := 0) n_a0 rfl) (zc_i (o := 1) n_a1 rfl) hq) (fun q_79 => (zu h a [(0, .inr (9, [.int q_55.2, .ref (zo w + (a + 1)), .ref (zo w + (a + 2)), .ref (zo w + (a + 3)), .int q_64.1, .int q_64.2.1, .ref (zo w + (a + 4)), .int m_bytes, .int m_errorAt, .int m_size, .int m_next, .int m_error, .int m_place, .int m_began, .int m_nested, .int m_once, .ref (zo w + (a + 5))])), (1, .inl (w.2.2.1 1, 22500, .inr (.inl q_79)))])) (fun q_79 => []) (fun _ => zu_sh (d := 0) rfl rfl) (fun _ => rfl) zy_X9_put zw_1353 zw_1355 zv_44 (ci := 9) rfl (zc_i (o := 0) n_a0 rfl) ⟨rfl, rfl⟩ rfl rfl rfl rfl rfl dX9_deposit_79 rfl (fun q_79 hf => ?_)
    refine z_aload_n (pc' := 83) C 0 dX9_deposit_82 rfl rfl rfl ?_
    refine z_bipush (pc' := 85) C dX9_deposit_83 zk_bipush_8 rfl ?_
    refine z_cV (pc' := 88) C hf (As := [.int (8 : Int32)]) (fun hq => c_X9_get (a := a) (zc_i (o := 0) n_a0 rfl) (zc_i (o := 1) n_a1 rfl) hq) (fun _ => (zu h a [(0, .inr (9, [.int q_55.2, .ref (zo w + (a + 1)), .ref (zo w + (a + 2)), .ref (zo w + (a + 3)), .int q_64.1, .int q_64.2.1, .ref (zo w + (a + 4)), .int m_bytes, .int m_errorAt, .int m_size, .int m_next, .int m_error, .int m_place, .int m_began, .int m_nested, .int m_once, .ref (zo w + (a + 5))])), (1, .inl (w.2.2.1 1, 22500, .inr (.inl q_79)))])) (fun q_85 => [.long q_85]) (fun _ => rfl) (fun _ => rfl) zy_X9_get zw_1349 zw_1351 zv_43 (ci := 9) rfl (zc_i (o := 0) n_a0 rfl) ⟨rfl, rfl⟩ rfl rfl rfl rfl rfl dX9_deposit_85 rfl (fun q_85 hf => ?_)
    cases hf
    exact z_lret C rfl rfl dX9_deposit_88
  · refine z_lconst (pc' := 62) C dX9_deposit_61 zl_0 rfl ?_
    cases hf
    exact z_lret C rfl rfl dX9_deposit_62
set_option maxRecDepth 20000 in
theorem w_X9_deposit_53 {X : zC} {w : zV} {N : Nat} {h : zH} {a : Nat} {m_next : Int32} {m_error : Int32} {m_place : Int32} {m_began : Int32} {m_nested : Int32} {m_once : Int32} {m_bytes : Int32} {m_errorAt : Int32} {m_size : Int32} (C : zK X w RX9 cX9_deposit 2 (some .long) (zr 2 59)) (n_a0 : a + 0 < N) (n_a1 : a + 1 < N) {r : Int64 × Int32 × Int32 × Int32 × (Nat → Int64)} {m_thrown : Int32} {m_now : Int32} {m_undoable : Int32} {m_rows : Nat → Int64} {x1 : Int32} (hf : f_X9_deposit_53  m_thrown m_now m_undoable m_rows x1 = some r) : zZ X w (zQ X w (zr 2 59) (some (.long r.1)) false N (zu h a [(0, .inr (9, [.int r.2.1, .ref (zo w + (a + 1)), .ref (zo w + (a + 2)), .ref (zo w + (a + 3)), .int r.2.2.1, .int r.2.2.2.1, .ref (zo w + (a + 4)), .int m_bytes, .int m_errorAt, .int m_size, .int m_next, .int m_error, .int m_place, .int m_began, .int m_nested, .int m_once, .ref (zo w + (a + 5))])), (1, .inl (w.2.2.1 1, 22500, .inr (.inl r.2.2.2.2)))])) 0 0 false N (zu h a [(0, .inr (9, [.int m_thrown, .ref (zo w + (a + 1)), .ref (zo w + (a + 2)), .ref (zo w + (a + 3)), .int m_now, .int m_undoable, .ref (zo w + (a + 4)), .int m_bytes, .int m_errorAt, .int m_size, .int m_next, .int m_error, .int m_place, .int m_began, .int m_nested, .int m_once, .ref (zo w + (a + 5))])), (1, .inl (w.2.2.1 1, 22500, .inr (.inl m_rows)))]) 53 [(0, .ref (zo w + a)), (1, .int x1)] [.ref (zo w + a)] := by
  unfold f_X9_deposit_53 at hf
  refine z_iconst (pc' := 54) C dX9_deposit_53 zk_iconst_0 rfl ?_
  exact w_X9_deposit_54 C n_a0 n_a1  hf
set_option maxRecDepth 20000 in
theorem c_X9_deposit {w : zV} {N : Nat} {h : zH} {a : Nat} {m_thrown : Int32} {m_next : Int32} {m_error : Int32} {m_place : Int32} {m_began : Int32} {m_nested : Int32} {m_once : Int32} {m_now : Int32} {m_undoable : Int32} {m_bytes : Int32} {m_errorAt : Int32} {m_size : Int32} {m_rows : Nat → Int64} {p1 : Int32} (h_a0 : zc N h (a + 0) (.inr (9, [.int m_thrown, .ref (zo w + (a + 1)), .ref (zo w + (a + 2)), .ref (zo w + (a + 3)), .int m_now, .int m_undoable, .ref (zo w + (a + 4)), .int m_bytes, .int m_errorAt, .int m_size, .int m_next, .int m_error, .int m_place, .int m_began, .int m_nested, .int m_once, .ref (zo w + (a + 5))]))) (h_a1 : zc N h (a + 1) (.inl (w.2.2.1 1, 22500, .inr (.inl m_rows)))) {r : Int64 × Int32 × Int32 × Int32 × (Nat → Int64)} (hf : f_X9_deposit m_thrown m_now m_undoable m_rows p1 = some r) : zM w yX9_deposit cX9_deposit 2 (some .long) (zr 2 59) false N N h [.ref (zo w + a), .int p1] (some (.long r.1)) (zu h a [(0, .inr (9, [.int r.2.1, .ref (zo w + (a + 1)), .ref (zo w + (a + 2)), .ref (zo w + (a + 3)), .int r.2.2.1, .int r.2.2.2.1, .ref (zo w + (a + 4)), .int m_bytes, .int m_errorAt, .int m_size, .int m_next, .int m_error, .int m_place, .int m_began, .int m_nested, .int m_once, .ref (zo w + (a + 5))])), (1, .inl (w.2.2.1 1, 22500, .inr (.inl r.2.2.2.2)))]) := by
  unfold f_X9_deposit at hf
  refine zM_of (by decide) rfl (fun X C _ => ?_)
  refine z_eq (h' := (zu h a [(0, .inr (9, [.int m_thrown, .ref (zo w + (a + 1)), .ref (zo w + (a + 2)), .ref (zo w + (a + 3)), .int m_now, .int m_undoable, .ref (zo w + (a + 4)), .int m_bytes, .int m_errorAt, .int m_size, .int m_next, .int m_error, .int m_place, .int m_began, .int m_nested, .int m_once, .ref (zo w + (a + 5))])), (1, .inl (w.2.2.1 1, 22500, .inr (.inl m_rows)))])) (zu_s h_a0 (zu_s h_a1 zu_0)).symm ?_
  have n_a0 := h_a0.1
  have n_a1 := h_a1.1
  refine z_pick (lv' := [(0, .ref (zo w + a)), (1, .int p1)]) [0, 1] rfl ?_
  refine z_aload_n (pc' := 1) C 0 dX9_deposit_0 rfl rfl rfl ?_
  refine z_iconst (pc' := 2) C dX9_deposit_1 zk_iconst_0 rfl ?_
  refine z_putf (pc' := 5) C zci_9 zw_1184 (j := 0) rfl (zc_i (o := 0) n_a0 rfl) (fs' := [.int (0 : Int32), .ref (zo w + (a + 1)), .ref (zo w + (a + 2)), .ref (zo w + (a + 3)), .int m_now, .int m_undoable, .ref (zo w + (a + 4)), .int m_bytes, .int m_errorAt, .int m_size, .int m_next, .int m_error, .int m_place, .int m_began, .int m_nested, .int m_once, .ref (zo w + (a + 5))]) rfl rfl rfl rfl rfl (zu_put (o := 0) (L' := [(0, .inr (9, [.int (0 : Int32), .ref (zo w + (a + 1)), .ref (zo w + (a + 2)), .ref (zo w + (a + 3)), .int m_now, .int m_undoable, .ref (zo w + (a + 4)), .int m_bytes, .int m_errorAt, .int m_size, .int m_next, .int m_error, .int m_place, .int m_began, .int m_nested, .int m_once, .ref (zo w + (a + 5))])), (1, .inl (w.2.2.1 1, 22500, .inr (.inl m_rows)))]) rfl) dX9_deposit_2 rfl ?_
  refine z_aload_n (pc' := 6) C 0 dX9_deposit_5 rfl rfl rfl ?_
  refine z_iload_n (pc' := 7) C 1 dX9_deposit_6 rfl rfl rfl ?_
  refine z_i2l (pc' := 8) C dX9_deposit_7 rfl ?_
  refine z_lconst (pc' := 9) C dX9_deposit_8 zl_1 rfl ?_
  refine z_ldc2 (pc' := 12) C zw_1682 dX9_deposit_9 rfl ?_
  refine z_cS (pc' := 15) C hf (As := [.long (p1).toInt64, .long (1 : Int64), .long (9999999 : Int64)]) (fun hq => c_X9_isIn  hq) (fun _ => (zu h a [(0, .inr (9, [.int (0 : Int32), .ref (zo w + (a + 1)), .ref (zo w + (a + 2)), .ref (zo w + (a + 3)), .int m_now, .int m_undoable, .ref (zo w + (a + 4)), .int m_bytes, .int m_errorAt, .int m_size, .int m_next, .int m_error, .int m_place, .int m_began, .int m_nested, .int m_once, .ref (zo w + (a + 5))])), (1, .inl (w.2.2.1 1, 22500, .inr (.inl m_rows)))])) (fun q_12 => [.int q_12, .ref (zo w + a)]) (fun _ => rfl) (fun _ => rfl) zy_X9_isIn zw_1248 zw_1249 ⟨rfl, rfl⟩ rfl rfl rfl rfl rfl dX9_deposit_12 rfl (fun q_12 hf => ?_)
  refine z_iconst (pc' := 16) C dX9_deposit_15 zk_iconst_1 rfl ?_
  refine z_cV (pc' := 19) C hf (As := [.int q_12, .int (1 : Int32)]) (fun hq => c_X9_right (a := a) (zc_i (o := 0) n_a0 rfl) hq) (fun q_16 => (zu h a [(0, .inr (9, [.int q_16.2, .ref (zo w + (a + 1)), .ref (zo w + (a + 2)), .ref (zo w + (a + 3)), .int m_now, .int m_undoable, .ref (zo w + (a + 4)), .int m_bytes, .int m_errorAt, .int m_size, .int m_next, .int m_error, .int m_place, .int m_began, .int m_nested, .int m_once, .ref (zo w + (a + 5))])), (1, .inl (w.2.2.1 1, 22500, .inr (.inl m_rows)))])) (fun q_16 => [.int q_16.1]) (fun _ => zu_sh (d := 0) rfl rfl) (fun _ => rfl) zy_X9_right zw_1251 zw_1253 zv_23 (ci := 9) rfl (zc_i (o := 0) n_a0 rfl) ⟨rfl, rfl⟩ rfl rfl rfl rfl rfl dX9_deposit_16 rfl (fun q_16 hf => ?_)
  refine z_if_eq (pc' := 22) C 61 hf dX9_deposit_19 rfl rfl (fun g_19 hf => ?_) (fun g_19 hf => ?_)
  · refine z_lconst (pc' := 62) C dX9_deposit_61 zl_0 rfl ?_
    cases hf
    exact z_lret C rfl rfl dX9_deposit_62
  · refine z_aload_n (pc' := 23) C 0 dX9_deposit_22 rfl rfl rfl ?_
    refine z_aload_n (pc' := 24) C 0 dX9_deposit_23 rfl rfl rfl ?_
    refine z_iconst (pc' := 25) C dX9_deposit_24 zk_iconst_0 rfl ?_
    refine z_cV (pc' := 28) C hf (As := [.int (0 : Int32)]) (fun hq => c_X9_get (a := a) (zc_i (o := 0) n_a0 rfl) (zc_i (o := 1) n_a1 rfl) hq) (fun _ => (zu h a [(0, .inr (9, [.int q_16.2, .ref (zo w + (a + 1)), .ref (zo w + (a + 2)), .ref (zo w + (a + 3)), .int m_now, .int m_undoable, .ref (zo w + (a + 4)), .int m_bytes, .int m_errorAt, .int m_size, .int m_next, .int m_error, .int m_place, .int m_began, .int m_nested, .int m_once, .ref (zo w + (a + 5))])), (1, .inl (w.2.2.1 1, 22500, .inr (.inl m_rows)))])) (fun q_25 => [.long q_25, .ref (zo w + a)]) (fun _ => rfl) (fun _ => rfl) zy_X9_get zw_1349 zw_1351 zv_43 (ci := 9) rfl (zc_i (o := 0) n_a0 rfl) ⟨rfl, rfl⟩ rfl rfl rfl rfl rfl dX9_deposit_25 rfl (fun q_25 hf => ?_)
    refine z_lconst (pc' := 29) C dX9_deposit_28 zl_0 rfl ?_
    refine z_lcmp_le (pc' := 33) C 53 hf dX9_deposit_29 rfl dX9_deposit_30 rfl rfl (fun g_29 hf => ?_) (fun g_29 hf => ?_)
    · exact w_X9_deposit_53 C n_a0 n_a1  hf
    · refine z_aload_n (pc' := 34) C 0 dX9_deposit_33 rfl rfl rfl ?_
      refine z_bipush (pc' := 36) C dX9_deposit_34 zk_bipush_8 rfl ?_
      refine z_cV (pc' := 39) C hf (As := [.int (8 : Int32)]) (fun hq => c_X9_get (a := a) (zc_i (o := 0) n_a0 rfl) (zc_i (o := 1) n_a1 rfl) hq) (fun _ => (zu h a [(0, .inr (9, [.int q_16.2, .ref (zo w + (a + 1)), .ref (zo w + (a + 2)), .ref (zo w + (a + 3)), .int m_now, .int m_undoable, .ref (zo w + (a + 4)), .int m_bytes, .int m_errorAt, .int m_size, .int m_next, .int m_error, .int m_place, .int m_began, .int m_nested, .int m_once, .ref (zo w + (a + 5))])), (1, .inl (w.2.2.1 1, 22500, .inr (.inl m_rows)))])) (fun q_36 => [.long q_36, .ref (zo w + a)]) (fun _ => rfl) (fun _ => rfl) zy_X9_get zw_1349 zw_1351 zv_43 (ci := 9) rfl (zc_i (o := 0) n_a0 rfl) ⟨rfl, rfl⟩ rfl rfl rfl rfl rfl dX9_deposit_36 rfl (fun q_36 hf => ?_)
      refine z_iload_n (pc' := 40) C 1 dX9_deposit_39 rfl rfl rfl ?_
      refine z_i2l (pc' := 41) C dX9_deposit_40 rfl ?_
      refine z_ladd (pc' := 42) C dX9_deposit_41 rfl ?_
      refine z_ldc2 (pc' := 45) C zw_1683 dX9_deposit_42 rfl ?_
      refine z_lcmp_gt (pc' := 49) C 53 hf dX9_deposit_45 rfl dX9_deposit_46 rfl rfl (fun g_45 hf => ?_) (fun g_45 hf => ?_)
      · exact w_X9_deposit_53 C n_a0 n_a1  hf
      · refine z_iconst (pc' := 50) C dX9_deposit_49 zk_iconst_1 rfl ?_
        refine z_goto C 54 dX9_deposit_50 rfl ?_
        exact w_X9_deposit_54 C n_a0 n_a1  hf
set_option maxRecDepth 20000 in
theorem w_X9_pass_53 {X : zC} {w : zV} {N : Nat} {h : zH} {a : Nat} {m_next : Int32} {m_error : Int32} {m_place : Int32} {m_began : Int32} {m_nested : Int32} {m_once : Int32} {m_bytes : Int32} {m_errorAt : Int32} {m_size : Int32} (C : zK X w RX9 cX9_pass 2 (some .int) (zr 2 59)) (n_a0 : a + 0 < N) (n_a1 : a + 1 < N) {r : Int32 × Int32 × Int32 × Int32 × (Nat → Int64)} {m_thrown : Int32} {m_now : Int32} {m_undoable : Int32} {m_rows : Nat → Int64} {x1 : Int32} {s1 : Int32} (hf : f_X9_pass_53  m_thrown m_now m_undoable m_rows x1 s1 = some r) : zZ X w (zQ X w (zr 2 59) (some (.int r.1)) false N (zu h a [(0, .inr (9, [.int r.2.1, .ref (zo w + (a + 1)), .ref (zo w + (a + 2)), .ref (zo w + (a + 3)), .int r.2.2.1, .int r.2.2.2.1, .ref (zo w + (a + 4)), .int m_bytes, .int m_errorAt, .int m_size, .int m_next, .int m_error, .int m_place, .int m_began, .int m_nested, .int m_once, .ref (zo w + (a + 5))])), (1, .inl (w.2.2.1 1, 22500, .inr (.inl r.2.2.2.2)))])) 0 0 false N (zu h a [(0, .inr (9, [.int m_thrown, .ref (zo w + (a + 1)), .ref (zo w + (a + 2)), .ref (zo w + (a + 3)), .int m_now, .int m_undoable, .ref (zo w + (a + 4)), .int m_bytes, .int m_errorAt, .int m_size, .int m_next, .int m_error, .int m_place, .int m_began, .int m_nested, .int m_once, .ref (zo w + (a + 5))])), (1, .inl (w.2.2.1 1, 22500, .inr (.inl m_rows)))]) 53 [(0, .ref (zo w + a)), (1, .int x1)] [.int s1, .ref (zo w + a)] := by
  unfold f_X9_pass_53 at hf
  refine z_iconst (pc' := 54) C dX9_pass_53 zk_iconst_2 rfl ?_
  refine z_cV (pc' := 57) C hf (As := [.int s1, .int (2 : Int32)]) (fun hq => c_X9_right (a := a) (zc_i (o := 0) n_a0 rfl) hq) (fun q_54 => (zu h a [(0, .inr (9, [.int q_54.2, .ref (zo w + (a + 1)), .ref (zo w + (a + 2)), .ref (zo w + (a + 3)), .int m_now, .int m_undoable, .ref (zo w + (a + 4)), .int m_bytes, .int m_errorAt, .int m_size, .int m_next, .int m_error, .int m_place, .int m_began, .int m_nested, .int m_once, .ref (zo w + (a + 5))])), (1, .inl (w.2.2.1 1, 22500, .inr (.inl m_rows)))])) (fun q_54 => [.int q_54.1]) (fun _ => zu_sh (d := 0) rfl rfl) (fun _ => rfl) zy_X9_right zw_1251 zw_1253 zv_23 (ci := 9) rfl (zc_i (o := 0) n_a0 rfl) ⟨rfl, rfl⟩ rfl rfl rfl rfl rfl dX9_pass_54 rfl (fun q_54 hf => ?_)
  refine z_if_ne (pc' := 60) C 62 hf dX9_pass_57 rfl rfl (fun g_57 hf => ?_) (fun g_57 hf => ?_)
  · refine z_aload_n (pc' := 63) C 0 dX9_pass_62 rfl rfl rfl ?_
    refine z_cV (pc' := 66) C hf (As := []) (fun hq => c_X9_change (a := a) (zc_i (o := 0) n_a0 rfl) (zc_i (o := 1) n_a1 rfl) hq) (fun q_63 => (zu h a [(0, .inr (9, [.int q_54.2, .ref (zo w + (a + 1)), .ref (zo w + (a + 2)), .ref (zo w + (a + 3)), .int q_63.1, .int q_63.2.1, .ref (zo w + (a + 4)), .int m_bytes, .int m_errorAt, .int m_size, .int m_next, .int m_error, .int m_place, .int m_began, .int m_nested, .int m_once, .ref (zo w + (a + 5))])), (1, .inl (w.2.2.1 1, 22500, .inr (.inl q_63.2.2)))])) (fun q_63 => []) (fun _ => zu_sh (d := 0) rfl rfl) (fun _ => rfl) zy_X9_change zw_1345 zw_1347 zv_42 (ci := 9) rfl (zc_i (o := 0) n_a0 rfl) ⟨rfl, rfl⟩ rfl rfl rfl rfl rfl dX9_pass_63 rfl (fun q_63 hf => ?_)
    refine z_aload_n (pc' := 67) C 0 dX9_pass_66 rfl rfl rfl ?_
    refine z_iconst (pc' := 68) C dX9_pass_67 zk_iconst_1 rfl ?_
    refine z_aload_n (pc' := 69) C 0 dX9_pass_68 rfl rfl rfl ?_
    refine z_iconst (pc' := 70) C dX9_pass_69 zk_iconst_1 rfl ?_
    refine z_cV (pc' := 73) C hf (As := [.int (1 : Int32)]) (fun hq => c_X9_get (a := a) (zc_i (o := 0) n_a0 rfl) (zc_i (o := 1) n_a1 rfl) hq) (fun _ => (zu h a [(0, .inr (9, [.int q_54.2, .ref (zo w + (a + 1)), .ref (zo w + (a + 2)), .ref (zo w + (a + 3)), .int q_63.1, .int q_63.2.1, .ref (zo w + (a + 4)), .int m_bytes, .int m_errorAt, .int m_size, .int m_next, .int m_error, .int m_place, .int m_began, .int m_nested, .int m_once, .ref (zo w + (a + 5))])), (1, .inl (w.2.2.1 1, 22500, .inr (.inl q_63.2.2)))])) (fun q_70 => [.long q_70, .int (1 : Int32), .ref (zo w + a)]) (fun _ => rfl) (fun _ => rfl) zy_X9_get zw_1349 zw_1351 zv_43 (ci := 9) rfl (zc_i (o := 0) n_a0 rfl) ⟨rfl, rfl⟩ rfl rfl rfl rfl rfl dX9_pass_70 rfl (fun q_70 hf => ?_)
    refine z_iload_n (pc' := 74) C 1 dX9_pass_73 rfl rfl rfl ?_
    refine z_i2l (pc' := 75) C dX9_pass_74 rfl ?_
    refine z_ladd (pc' := 76) C dX9_pass_75 rfl ?_
    refine z_cV (pc' := 79) C hf (As := [.int (1 : Int32), .long (q_70 + (x1).toInt64)]) (fun hq => c_X9_put (a := a) (zc_i (o := 0) n_a0 rfl) (zc_i (o := 1) n_a1 rfl) hq) (fun q_76 => (zu h a [(0, .inr (9, [.int q_54.2, .ref (zo w + (a + 1)), .ref (zo w + (a + 2)), .ref (zo w + (a + 3)), .int q_63.1, .int q_63.2.1, .ref (zo w + (a + 4)), .int m_bytes, .int m_errorAt, .int m_size, .int m_next, .int m_error, .int m_place, .int m_began, .int m_nested, .int m_once, .ref (zo w + (a + 5))])), (1, .inl (w.2.2.1 1, 22500, .inr (.inl q_76)))])) (fun q_76 => []) (fun _ => zu_sh (d := 0) rfl rfl) (fun _ => rfl) zy_X9_put zw_1353 zw_1355 zv_44 (ci := 9) rfl (zc_i (o := 0) n_a0 rfl) ⟨rfl, rfl⟩ rfl rfl rfl rfl rfl dX9_pass_76 rfl (fun q_76 hf => ?_)
    refine z_aload_n (pc' := 80) C 0 dX9_pass_79 rfl rfl rfl ?_
    refine z_iconst (pc' := 81) C dX9_pass_80 zk_iconst_1 rfl ?_
    refine z_cV (pc' := 84) C hf (As := [.int (1 : Int32)]) (fun hq => c_X9_small (a := a) (zc_i (o := 0) n_a0 rfl) (zc_i (o := 1) n_a1 rfl) hq) (fun _ => (zu h a [(0, .inr (9, [.int q_54.2, .ref (zo w + (a + 1)), .ref (zo w + (a + 2)), .ref (zo w + (a + 3)), .int q_63.1, .int q_63.2.1, .ref (zo w + (a + 4)), .int m_bytes, .int m_errorAt, .int m_size, .int m_next, .int m_error, .int m_place, .int m_began, .int m_nested, .int m_once, .ref (zo w + (a + 5))])), (1, .inl (w.2.2.1 1, 22500, .inr (.inl q_76)))])) (fun q_81 => [.int q_81]) (fun _ => rfl) (fun _ => rfl) zy_X9_small zw_1357 zw_1359 zv_45 (ci := 9) rfl (zc_i (o := 0) n_a0 rfl) ⟨rfl, rfl⟩ rfl rfl rfl rfl rfl dX9_pass_81 rfl (fun q_81 hf => ?_)
    cases hf
    exact z_iret C rfl rfl dX9_pass_84
  · refine z_iconst (pc' := 61) C dX9_pass_60 zk_iconst_0 rfl ?_
    cases hf
    exact z_iret C rfl rfl dX9_pass_61
set_option maxRecDepth 20000 in
theorem w_X9_pass_52 {X : zC} {w : zV} {N : Nat} {h : zH} {a : Nat} {m_next : Int32} {m_error : Int32} {m_place : Int32} {m_began : Int32} {m_nested : Int32} {m_once : Int32} {m_bytes : Int32} {m_errorAt : Int32} {m_size : Int32} (C : zK X w RX9 cX9_pass 2 (some .int) (zr 2 59)) (n_a0 : a + 0 < N) (n_a1 : a + 1 < N) {r : Int32 × Int32 × Int32 × Int32 × (Nat → Int64)} {m_thrown : Int32} {m_now : Int32} {m_undoable : Int32} {m_rows : Nat → Int64} {x1 : Int32} (hf : f_X9_pass_52  m_thrown m_now m_undoable m_rows x1 = some r) : zZ X w (zQ X w (zr 2 59) (some (.int r.1)) false N (zu h a [(0, .inr (9, [.int r.2.1, .ref (zo w + (a + 1)), .ref (zo w + (a + 2)), .ref (zo w + (a + 3)), .int r.2.2.1, .int r.2.2.2.1, .ref (zo w + (a + 4)), .int m_bytes, .int m_errorAt, .int m_size, .int m_next, .int m_error, .int m_place, .int m_began, .int m_nested, .int m_once, .ref (zo w + (a + 5))])), (1, .inl (w.2.2.1 1, 22500, .inr (.inl r.2.2.2.2)))])) 0 0 false N (zu h a [(0, .inr (9, [.int m_thrown, .ref (zo w + (a + 1)), .ref (zo w + (a + 2)), .ref (zo w + (a + 3)), .int m_now, .int m_undoable, .ref (zo w + (a + 4)), .int m_bytes, .int m_errorAt, .int m_size, .int m_next, .int m_error, .int m_place, .int m_began, .int m_nested, .int m_once, .ref (zo w + (a + 5))])), (1, .inl (w.2.2.1 1, 22500, .inr (.inl m_rows)))]) 52 [(0, .ref (zo w + a)), (1, .int x1)] [.ref (zo w + a)] := by
  unfold f_X9_pass_52 at hf
  refine z_iconst (pc' := 53) C dX9_pass_52 zk_iconst_0 rfl ?_
  exact w_X9_pass_53 C n_a0 n_a1  hf
set_option maxRecDepth 20000 in
theorem c_X9_pass {w : zV} {N : Nat} {h : zH} {a : Nat} {m_thrown : Int32} {m_next : Int32} {m_error : Int32} {m_place : Int32} {m_began : Int32} {m_nested : Int32} {m_once : Int32} {m_now : Int32} {m_undoable : Int32} {m_bytes : Int32} {m_errorAt : Int32} {m_size : Int32} {m_rows : Nat → Int64} {p1 : Int32} (h_a0 : zc N h (a + 0) (.inr (9, [.int m_thrown, .ref (zo w + (a + 1)), .ref (zo w + (a + 2)), .ref (zo w + (a + 3)), .int m_now, .int m_undoable, .ref (zo w + (a + 4)), .int m_bytes, .int m_errorAt, .int m_size, .int m_next, .int m_error, .int m_place, .int m_began, .int m_nested, .int m_once, .ref (zo w + (a + 5))]))) (h_a1 : zc N h (a + 1) (.inl (w.2.2.1 1, 22500, .inr (.inl m_rows)))) {r : Int32 × Int32 × Int32 × Int32 × (Nat → Int64)} (hf : f_X9_pass m_thrown m_now m_undoable m_rows p1 = some r) : zM w yX9_pass cX9_pass 2 (some .int) (zr 2 59) false N N h [.ref (zo w + a), .int p1] (some (.int r.1)) (zu h a [(0, .inr (9, [.int r.2.1, .ref (zo w + (a + 1)), .ref (zo w + (a + 2)), .ref (zo w + (a + 3)), .int r.2.2.1, .int r.2.2.2.1, .ref (zo w + (a + 4)), .int m_bytes, .int m_errorAt, .int m_size, .int m_next, .int m_error, .int m_place, .int m_began, .int m_nested, .int m_once, .ref (zo w + (a + 5))])), (1, .inl (w.2.2.1 1, 22500, .inr (.inl r.2.2.2.2)))]) := by
  unfold f_X9_pass at hf
  refine zM_of (by decide) rfl (fun X C _ => ?_)
  refine z_eq (h' := (zu h a [(0, .inr (9, [.int m_thrown, .ref (zo w + (a + 1)), .ref (zo w + (a + 2)), .ref (zo w + (a + 3)), .int m_now, .int m_undoable, .ref (zo w + (a + 4)), .int m_bytes, .int m_errorAt, .int m_size, .int m_next, .int m_error, .int m_place, .int m_began, .int m_nested, .int m_once, .ref (zo w + (a + 5))])), (1, .inl (w.2.2.1 1, 22500, .inr (.inl m_rows)))])) (zu_s h_a0 (zu_s h_a1 zu_0)).symm ?_
  have n_a0 := h_a0.1
  have n_a1 := h_a1.1
  refine z_pick (lv' := [(0, .ref (zo w + a)), (1, .int p1)]) [0, 1] rfl ?_
  refine z_aload_n (pc' := 1) C 0 dX9_pass_0 rfl rfl rfl ?_
  refine z_iconst (pc' := 2) C dX9_pass_1 zk_iconst_0 rfl ?_
  refine z_putf (pc' := 5) C zci_9 zw_1184 (j := 0) rfl (zc_i (o := 0) n_a0 rfl) (fs' := [.int (0 : Int32), .ref (zo w + (a + 1)), .ref (zo w + (a + 2)), .ref (zo w + (a + 3)), .int m_now, .int m_undoable, .ref (zo w + (a + 4)), .int m_bytes, .int m_errorAt, .int m_size, .int m_next, .int m_error, .int m_place, .int m_began, .int m_nested, .int m_once, .ref (zo w + (a + 5))]) rfl rfl rfl rfl rfl (zu_put (o := 0) (L' := [(0, .inr (9, [.int (0 : Int32), .ref (zo w + (a + 1)), .ref (zo w + (a + 2)), .ref (zo w + (a + 3)), .int m_now, .int m_undoable, .ref (zo w + (a + 4)), .int m_bytes, .int m_errorAt, .int m_size, .int m_next, .int m_error, .int m_place, .int m_began, .int m_nested, .int m_once, .ref (zo w + (a + 5))])), (1, .inl (w.2.2.1 1, 22500, .inr (.inl m_rows)))]) rfl) dX9_pass_2 rfl ?_
  refine z_aload_n (pc' := 6) C 0 dX9_pass_5 rfl rfl rfl ?_
  refine z_iload_n (pc' := 7) C 1 dX9_pass_6 rfl rfl rfl ?_
  refine z_i2l (pc' := 8) C dX9_pass_7 rfl ?_
  refine z_lconst (pc' := 9) C dX9_pass_8 zl_1 rfl ?_
  refine z_ldc2 (pc' := 12) C zw_1688 dX9_pass_9 rfl ?_
  refine z_cS (pc' := 15) C hf (As := [.long (p1).toInt64, .long (1 : Int64), .long (365 : Int64)]) (fun hq => c_X9_isIn  hq) (fun _ => (zu h a [(0, .inr (9, [.int (0 : Int32), .ref (zo w + (a + 1)), .ref (zo w + (a + 2)), .ref (zo w + (a + 3)), .int m_now, .int m_undoable, .ref (zo w + (a + 4)), .int m_bytes, .int m_errorAt, .int m_size, .int m_next, .int m_error, .int m_place, .int m_began, .int m_nested, .int m_once, .ref (zo w + (a + 5))])), (1, .inl (w.2.2.1 1, 22500, .inr (.inl m_rows)))])) (fun q_12 => [.int q_12, .ref (zo w + a)]) (fun _ => rfl) (fun _ => rfl) zy_X9_isIn zw_1248 zw_1249 ⟨rfl, rfl⟩ rfl rfl rfl rfl rfl dX9_pass_12 rfl (fun q_12 hf => ?_)
  refine z_iconst (pc' := 16) C dX9_pass_15 zk_iconst_1 rfl ?_
  refine z_cV (pc' := 19) C hf (As := [.int q_12, .int (1 : Int32)]) (fun hq => c_X9_right (a := a) (zc_i (o := 0) n_a0 rfl) hq) (fun q_16 => (zu h a [(0, .inr (9, [.int q_16.2, .ref (zo w + (a + 1)), .ref (zo w + (a + 2)), .ref (zo w + (a + 3)), .int m_now, .int m_undoable, .ref (zo w + (a + 4)), .int m_bytes, .int m_errorAt, .int m_size, .int m_next, .int m_error, .int m_place, .int m_began, .int m_nested, .int m_once, .ref (zo w + (a + 5))])), (1, .inl (w.2.2.1 1, 22500, .inr (.inl m_rows)))])) (fun q_16 => [.int q_16.1]) (fun _ => zu_sh (d := 0) rfl rfl) (fun _ => rfl) zy_X9_right zw_1251 zw_1253 zv_23 (ci := 9) rfl (zc_i (o := 0) n_a0 rfl) ⟨rfl, rfl⟩ rfl rfl rfl rfl rfl dX9_pass_16 rfl (fun q_16 hf => ?_)
  refine z_if_eq (pc' := 22) C 60 hf dX9_pass_19 rfl rfl (fun g_19 hf => ?_) (fun g_19 hf => ?_)
  · refine z_iconst (pc' := 61) C dX9_pass_60 zk_iconst_0 rfl ?_
    cases hf
    exact z_iret C rfl rfl dX9_pass_61
  · refine z_aload_n (pc' := 23) C 0 dX9_pass_22 rfl rfl rfl ?_
    refine z_aload_n (pc' := 24) C 0 dX9_pass_23 rfl rfl rfl ?_
    refine z_iconst (pc' := 25) C dX9_pass_24 zk_iconst_0 rfl ?_
    refine z_cV (pc' := 28) C hf (As := [.int (0 : Int32)]) (fun hq => c_X9_get (a := a) (zc_i (o := 0) n_a0 rfl) (zc_i (o := 1) n_a1 rfl) hq) (fun _ => (zu h a [(0, .inr (9, [.int q_16.2, .ref (zo w + (a + 1)), .ref (zo w + (a + 2)), .ref (zo w + (a + 3)), .int m_now, .int m_undoable, .ref (zo w + (a + 4)), .int m_bytes, .int m_errorAt, .int m_size, .int m_next, .int m_error, .int m_place, .int m_began, .int m_nested, .int m_once, .ref (zo w + (a + 5))])), (1, .inl (w.2.2.1 1, 22500, .inr (.inl m_rows)))])) (fun q_25 => [.long q_25, .ref (zo w + a)]) (fun _ => rfl) (fun _ => rfl) zy_X9_get zw_1349 zw_1351 zv_43 (ci := 9) rfl (zc_i (o := 0) n_a0 rfl) ⟨rfl, rfl⟩ rfl rfl rfl rfl rfl dX9_pass_25 rfl (fun q_25 hf => ?_)
    refine z_lconst (pc' := 29) C dX9_pass_28 zl_0 rfl ?_
    refine z_lcmp_le (pc' := 33) C 52 hf dX9_pass_29 rfl dX9_pass_30 rfl rfl (fun g_29 hf => ?_) (fun g_29 hf => ?_)
    · exact w_X9_pass_52 C n_a0 n_a1  hf
    · refine z_aload_n (pc' := 34) C 0 dX9_pass_33 rfl rfl rfl ?_
      refine z_iconst (pc' := 35) C dX9_pass_34 zk_iconst_1 rfl ?_
      refine z_cV (pc' := 38) C hf (As := [.int (1 : Int32)]) (fun hq => c_X9_get (a := a) (zc_i (o := 0) n_a0 rfl) (zc_i (o := 1) n_a1 rfl) hq) (fun _ => (zu h a [(0, .inr (9, [.int q_16.2, .ref (zo w + (a + 1)), .ref (zo w + (a + 2)), .ref (zo w + (a + 3)), .int m_now, .int m_undoable, .ref (zo w + (a + 4)), .int m_bytes, .int m_errorAt, .int m_size, .int m_next, .int m_error, .int m_place, .int m_began, .int m_nested, .int m_once, .ref (zo w + (a + 5))])), (1, .inl (w.2.2.1 1, 22500, .inr (.inl m_rows)))])) (fun q_35 => [.long q_35, .ref (zo w + a)]) (fun _ => rfl) (fun _ => rfl) zy_X9_get zw_1349 zw_1351 zv_43 (ci := 9) rfl (zc_i (o := 0) n_a0 rfl) ⟨rfl, rfl⟩ rfl rfl rfl rfl rfl dX9_pass_35 rfl (fun q_35 hf => ?_)
      refine z_iload_n (pc' := 39) C 1 dX9_pass_38 rfl rfl rfl ?_
      refine z_i2l (pc' := 40) C dX9_pass_39 rfl ?_
      refine z_ladd (pc' := 41) C dX9_pass_40 rfl ?_
      refine z_ldc2 (pc' := 44) C zw_1689 dX9_pass_41 rfl ?_
      refine z_lcmp_gt (pc' := 48) C 52 hf dX9_pass_44 rfl dX9_pass_45 rfl rfl (fun g_44 hf => ?_) (fun g_44 hf => ?_)
      · exact w_X9_pass_52 C n_a0 n_a1  hf
      · refine z_iconst (pc' := 49) C dX9_pass_48 zk_iconst_1 rfl ?_
        refine z_goto C 53 dX9_pass_49 rfl ?_
        exact w_X9_pass_53 C n_a0 n_a1  hf
set_option maxRecDepth 20000 in
theorem w_X9_settle_71 {X : zC} {w : zV} {N : Nat} {h : zH} {a : Nat} {m_next : Int32} {m_error : Int32} {m_place : Int32} {m_began : Int32} {m_nested : Int32} {m_once : Int32} {m_bytes : Int32} {m_errorAt : Int32} {m_size : Int32} (C : zK X w RX9 cX9_settle 5 (some .long) (zr 5 155)) (n_a0 : a + 0 < N) (n_a1 : a + 1 < N) {r : Int64 × Int32 × Int32 × Int32 × (Nat → Int64)} (n : Nat) : ∀ {m_thrown : Int32} {m_now : Int32} {m_undoable : Int32} {m_rows : Nat → Int64} {x1 : Int32} {x2 : Int64} {x4 : Int32}, f_X9_settle_71  n m_thrown m_now m_undoable m_rows x1 x2 x4 = some r → zZ X w (zQ X w (zr 5 155) (some (.long r.1)) false N (zu h a [(0, .inr (9, [.int r.2.1, .ref (zo w + (a + 1)), .ref (zo w + (a + 2)), .ref (zo w + (a + 3)), .int r.2.2.1, .int r.2.2.2.1, .ref (zo w + (a + 4)), .int m_bytes, .int m_errorAt, .int m_size, .int m_next, .int m_error, .int m_place, .int m_began, .int m_nested, .int m_once, .ref (zo w + (a + 5))])), (1, .inl (w.2.2.1 1, 22500, .inr (.inl r.2.2.2.2)))])) 0 0 false N (zu h a [(0, .inr (9, [.int m_thrown, .ref (zo w + (a + 1)), .ref (zo w + (a + 2)), .ref (zo w + (a + 3)), .int m_now, .int m_undoable, .ref (zo w + (a + 4)), .int m_bytes, .int m_errorAt, .int m_size, .int m_next, .int m_error, .int m_place, .int m_began, .int m_nested, .int m_once, .ref (zo w + (a + 5))])), (1, .inl (w.2.2.1 1, 22500, .inr (.inl m_rows)))]) 71 [(0, .ref (zo w + a)), (1, .int x1), (2, .long x2), (4, .int x4)] [] := by
  induction n with
  | zero =>
    intro m_thrown m_now m_undoable m_rows x1 x2 x4 hf
    have hf : (none : Option (Int64 × Int32 × Int32 × Int32 × (Nat → Int64))) = some r := hf
    cases hf
  | succ z ih =>
    intro m_thrown m_now m_undoable m_rows x1 x2 x4 hf
    rw [f_X9_settle_71] at hf
    refine z_iload (pc' := 73) C 3 dX9_settle_71 rfl rfl ?_
    refine z_iload_n (pc' := 74) C 1 dX9_settle_73 rfl rfl rfl ?_
    refine z_icmp_ge (pc' := 77) C 90 hf dX9_settle_74 rfl rfl (fun g_74 hf => ?_) (fun g_74 hf => ?_)
    · refine z_lload_n (pc' := 91) C 2 dX9_settle_90 rfl rfl rfl ?_
      cases hf
      exact z_lret C rfl rfl dX9_settle_91
    · refine z_lload_n (pc' := 78) C 2 dX9_settle_77 rfl rfl rfl ?_
      refine z_aload_n (pc' := 79) C 0 dX9_settle_78 rfl rfl rfl ?_
      refine z_cV (pc' := 82) C hf (As := []) (fun hq => c_X9_settles (a := a) (zc_i (o := 0) n_a0 rfl) (zc_i (o := 1) n_a1 rfl) hq) (fun q_79 => (zu h a [(0, .inr (9, [.int m_thrown, .ref (zo w + (a + 1)), .ref (zo w + (a + 2)), .ref (zo w + (a + 3)), .int m_now, .int m_undoable, .ref (zo w + (a + 4)), .int m_bytes, .int m_errorAt, .int m_size, .int m_next, .int m_error, .int m_place, .int m_began, .int m_nested, .int m_once, .ref (zo w + (a + 5))])), (1, .inl (w.2.2.1 1, 22500, .inr (.inl q_79.2)))])) (fun q_79 => [.long q_79.1, .long x2]) (fun _ => zu_sh (d := 0) rfl rfl) (fun _ => rfl) zy_X9_settles zw_1558 zw_1560 zv_66 (ci := 9) rfl (zc_i (o := 0) n_a0 rfl) ⟨rfl, rfl⟩ rfl rfl rfl rfl rfl dX9_settle_79 rfl (fun q_79 hf => ?_)
      refine z_ladd (pc' := 83) C dX9_settle_82 rfl ?_
      refine z_lstore_n (pc' := 84) C [(2, .long (x2 + q_79.1)), (0, .ref (zo w + a)), (1, .int x1), (4, .int x4)] dX9_settle_83 rfl rfl rfl rfl ?_
      refine z_iinc (pc' := 87) C 3 [(4, .int (x4 + (1 : Int32))), (2, .long (x2 + q_79.1)), (0, .ref (zo w + a)), (1, .int x1)] dX9_settle_84 rfl zk_iconst_1 rfl rfl rfl ?_
      refine z_goto C 71 dX9_settle_87 rfl ?_
      refine z_pick (lv' := [(0, .ref (zo w + a)), (1, .int x1), (2, .long (x2 + q_79.1)), (4, .int (x4 + (1 : Int32)))]) [2, 3, 1, 0] rfl ?_
      exact ih hf
set_option maxRecDepth 20000 in
theorem w_X9_settle_53 {X : zC} {w : zV} {N : Nat} {h : zH} {a : Nat} {m_next : Int32} {m_error : Int32} {m_place : Int32} {m_began : Int32} {m_nested : Int32} {m_once : Int32} {m_bytes : Int32} {m_errorAt : Int32} {m_size : Int32} (C : zK X w RX9 cX9_settle 5 (some .long) (zr 5 155)) (n_a0 : a + 0 < N) (n_a1 : a + 1 < N) {r : Int64 × Int32 × Int32 × Int32 × (Nat → Int64)} {m_thrown : Int32} {m_now : Int32} {m_undoable : Int32} {m_rows : Nat → Int64} {x1 : Int32} {s1 : Int32} (hf : f_X9_settle_53  m_thrown m_now m_undoable m_rows x1 s1 = some r) : zZ X w (zQ X w (zr 5 155) (some (.long r.1)) false N (zu h a [(0, .inr (9, [.int r.2.1, .ref (zo w + (a + 1)), .ref (zo w + (a + 2)), .ref (zo w + (a + 3)), .int r.2.2.1, .int r.2.2.2.1, .ref (zo w + (a + 4)), .int m_bytes, .int m_errorAt, .int m_size, .int m_next, .int m_error, .int m_place, .int m_began, .int m_nested, .int m_once, .ref (zo w + (a + 5))])), (1, .inl (w.2.2.1 1, 22500, .inr (.inl r.2.2.2.2)))])) 0 0 false N (zu h a [(0, .inr (9, [.int m_thrown, .ref (zo w + (a + 1)), .ref (zo w + (a + 2)), .ref (zo w + (a + 3)), .int m_now, .int m_undoable, .ref (zo w + (a + 4)), .int m_bytes, .int m_errorAt, .int m_size, .int m_next, .int m_error, .int m_place, .int m_began, .int m_nested, .int m_once, .ref (zo w + (a + 5))])), (1, .inl (w.2.2.1 1, 22500, .inr (.inl m_rows)))]) 53 [(0, .ref (zo w + a)), (1, .int x1)] [.int s1, .ref (zo w + a)] := by
  unfold f_X9_settle_53 at hf
  refine z_iconst (pc' := 54) C dX9_settle_53 zk_iconst_2 rfl ?_
  refine z_cV (pc' := 57) C hf (As := [.int s1, .int (2 : Int32)]) (fun hq => c_X9_right (a := a) (zc_i (o := 0) n_a0 rfl) hq) (fun q_54 => (zu h a [(0, .inr (9, [.int q_54.2, .ref (zo w + (a + 1)), .ref (zo w + (a + 2)), .ref (zo w + (a + 3)), .int m_now, .int m_undoable, .ref (zo w + (a + 4)), .int m_bytes, .int m_errorAt, .int m_size, .int m_next, .int m_error, .int m_place, .int m_began, .int m_nested, .int m_once, .ref (zo w + (a + 5))])), (1, .inl (w.2.2.1 1, 22500, .inr (.inl m_rows)))])) (fun q_54 => [.int q_54.1]) (fun _ => zu_sh (d := 0) rfl rfl) (fun _ => rfl) zy_X9_right zw_1251 zw_1253 zv_23 (ci := 9) rfl (zc_i (o := 0) n_a0 rfl) ⟨rfl, rfl⟩ rfl rfl rfl rfl rfl dX9_settle_54 rfl (fun q_54 hf => ?_)
  refine z_if_ne (pc' := 60) C 62 hf dX9_settle_57 rfl rfl (fun g_57 hf => ?_) (fun g_57 hf => ?_)
  · refine z_aload_n (pc' := 63) C 0 dX9_settle_62 rfl rfl rfl ?_
    refine z_cV (pc' := 66) C hf (As := []) (fun hq => c_X9_change (a := a) (zc_i (o := 0) n_a0 rfl) (zc_i (o := 1) n_a1 rfl) hq) (fun q_63 => (zu h a [(0, .inr (9, [.int q_54.2, .ref (zo w + (a + 1)), .ref (zo w + (a + 2)), .ref (zo w + (a + 3)), .int q_63.1, .int q_63.2.1, .ref (zo w + (a + 4)), .int m_bytes, .int m_errorAt, .int m_size, .int m_next, .int m_error, .int m_place, .int m_began, .int m_nested, .int m_once, .ref (zo w + (a + 5))])), (1, .inl (w.2.2.1 1, 22500, .inr (.inl q_63.2.2)))])) (fun q_63 => []) (fun _ => zu_sh (d := 0) rfl rfl) (fun _ => rfl) zy_X9_change zw_1345 zw_1347 zv_42 (ci := 9) rfl (zc_i (o := 0) n_a0 rfl) ⟨rfl, rfl⟩ rfl rfl rfl rfl rfl dX9_settle_63 rfl (fun q_63 hf => ?_)
    refine z_lconst (pc' := 67) C dX9_settle_66 zl_0 rfl ?_
    refine z_lstore_n (pc' := 68) C [(2, .long (0 : Int64)), (0, .ref (zo w + a)), (1, .int x1)] dX9_settle_67 rfl rfl rfl rfl ?_
    refine z_iconst (pc' := 69) C dX9_settle_68 zk_iconst_0 rfl ?_
    refine z_istore (pc' := 71) C [(4, .int (0 : Int32)), (2, .long (0 : Int64)), (0, .ref (zo w + a)), (1, .int x1)] dX9_settle_69 rfl rfl rfl ?_
    refine z_pick (lv' := [(0, .ref (zo w + a)), (1, .int x1), (2, .long (0 : Int64)), (4, .int (0 : Int32))]) [2, 3, 1, 0] rfl ?_
    exact w_X9_settle_71 C n_a0 n_a1  FU hf
  · refine z_lconst (pc' := 61) C dX9_settle_60 zl_0 rfl ?_
    cases hf
    exact z_lret C rfl rfl dX9_settle_61
set_option maxRecDepth 20000 in
theorem w_X9_settle_52 {X : zC} {w : zV} {N : Nat} {h : zH} {a : Nat} {m_next : Int32} {m_error : Int32} {m_place : Int32} {m_began : Int32} {m_nested : Int32} {m_once : Int32} {m_bytes : Int32} {m_errorAt : Int32} {m_size : Int32} (C : zK X w RX9 cX9_settle 5 (some .long) (zr 5 155)) (n_a0 : a + 0 < N) (n_a1 : a + 1 < N) {r : Int64 × Int32 × Int32 × Int32 × (Nat → Int64)} {m_thrown : Int32} {m_now : Int32} {m_undoable : Int32} {m_rows : Nat → Int64} {x1 : Int32} (hf : f_X9_settle_52  m_thrown m_now m_undoable m_rows x1 = some r) : zZ X w (zQ X w (zr 5 155) (some (.long r.1)) false N (zu h a [(0, .inr (9, [.int r.2.1, .ref (zo w + (a + 1)), .ref (zo w + (a + 2)), .ref (zo w + (a + 3)), .int r.2.2.1, .int r.2.2.2.1, .ref (zo w + (a + 4)), .int m_bytes, .int m_errorAt, .int m_size, .int m_next, .int m_error, .int m_place, .int m_began, .int m_nested, .int m_once, .ref (zo w + (a + 5))])), (1, .inl (w.2.2.1 1, 22500, .inr (.inl r.2.2.2.2)))])) 0 0 false N (zu h a [(0, .inr (9, [.int m_thrown, .ref (zo w + (a + 1)), .ref (zo w + (a + 2)), .ref (zo w + (a + 3)), .int m_now, .int m_undoable, .ref (zo w + (a + 4)), .int m_bytes, .int m_errorAt, .int m_size, .int m_next, .int m_error, .int m_place, .int m_began, .int m_nested, .int m_once, .ref (zo w + (a + 5))])), (1, .inl (w.2.2.1 1, 22500, .inr (.inl m_rows)))]) 52 [(0, .ref (zo w + a)), (1, .int x1)] [.ref (zo w + a)] := by
  unfold f_X9_settle_52 at hf
  refine z_iconst (pc' := 53) C dX9_settle_52 zk_iconst_0 rfl ?_
  exact w_X9_settle_53 C n_a0 n_a1  hf
set_option maxRecDepth 20000 in
theorem c_X9_settle {w : zV} {N : Nat} {h : zH} {a : Nat} {m_thrown : Int32} {m_next : Int32} {m_error : Int32} {m_place : Int32} {m_began : Int32} {m_nested : Int32} {m_once : Int32} {m_now : Int32} {m_undoable : Int32} {m_bytes : Int32} {m_errorAt : Int32} {m_size : Int32} {m_rows : Nat → Int64} {p1 : Int32} (h_a0 : zc N h (a + 0) (.inr (9, [.int m_thrown, .ref (zo w + (a + 1)), .ref (zo w + (a + 2)), .ref (zo w + (a + 3)), .int m_now, .int m_undoable, .ref (zo w + (a + 4)), .int m_bytes, .int m_errorAt, .int m_size, .int m_next, .int m_error, .int m_place, .int m_began, .int m_nested, .int m_once, .ref (zo w + (a + 5))]))) (h_a1 : zc N h (a + 1) (.inl (w.2.2.1 1, 22500, .inr (.inl m_rows)))) {r : Int64 × Int32 × Int32 × Int32 × (Nat → Int64)} (hf : f_X9_settle m_thrown m_now m_undoable m_rows p1 = some r) : zM w yX9_settle cX9_settle 5 (some .long) (zr 5 155) false N N h [.ref (zo w + a), .int p1] (some (.long r.1)) (zu h a [(0, .inr (9, [.int r.2.1, .ref (zo w + (a + 1)), .ref (zo w + (a + 2)), .ref (zo w + (a + 3)), .int r.2.2.1, .int r.2.2.2.1, .ref (zo w + (a + 4)), .int m_bytes, .int m_errorAt, .int m_size, .int m_next, .int m_error, .int m_place, .int m_began, .int m_nested, .int m_once, .ref (zo w + (a + 5))])), (1, .inl (w.2.2.1 1, 22500, .inr (.inl r.2.2.2.2)))]) := by
  unfold f_X9_settle at hf
  refine zM_of (by decide) rfl (fun X C _ => ?_)
  refine z_eq (h' := (zu h a [(0, .inr (9, [.int m_thrown, .ref (zo w + (a + 1)), .ref (zo w + (a + 2)), .ref (zo w + (a + 3)), .int m_now, .int m_undoable, .ref (zo w + (a + 4)), .int m_bytes, .int m_errorAt, .int m_size, .int m_next, .int m_error, .int m_place, .int m_began, .int m_nested, .int m_once, .ref (zo w + (a + 5))])), (1, .inl (w.2.2.1 1, 22500, .inr (.inl m_rows)))])) (zu_s h_a0 (zu_s h_a1 zu_0)).symm ?_
  have n_a0 := h_a0.1
  have n_a1 := h_a1.1
  refine z_pick (lv' := [(0, .ref (zo w + a)), (1, .int p1)]) [0, 1] rfl ?_
  refine z_aload_n (pc' := 1) C 0 dX9_settle_0 rfl rfl rfl ?_
  refine z_iconst (pc' := 2) C dX9_settle_1 zk_iconst_0 rfl ?_
  refine z_putf (pc' := 5) C zci_9 zw_1184 (j := 0) rfl (zc_i (o := 0) n_a0 rfl) (fs' := [.int (0 : Int32), .ref (zo w + (a + 1)), .ref (zo w + (a + 2)), .ref (zo w + (a + 3)), .int m_now, .int m_undoable, .ref (zo w + (a + 4)), .int m_bytes, .int m_errorAt, .int m_size, .int m_next, .int m_error, .int m_place, .int m_began, .int m_nested, .int m_once, .ref (zo w + (a + 5))]) rfl rfl rfl rfl rfl (zu_put (o := 0) (L' := [(0, .inr (9, [.int (0 : Int32), .ref (zo w + (a + 1)), .ref (zo w + (a + 2)), .ref (zo w + (a + 3)), .int m_now, .int m_undoable, .ref (zo w + (a + 4)), .int m_bytes, .int m_errorAt, .int m_size, .int m_next, .int m_error, .int m_place, .int m_began, .int m_nested, .int m_once, .ref (zo w + (a + 5))])), (1, .inl (w.2.2.1 1, 22500, .inr (.inl m_rows)))]) rfl) dX9_settle_2 rfl ?_
  refine z_aload_n (pc' := 6) C 0 dX9_settle_5 rfl rfl rfl ?_
  refine z_iload_n (pc' := 7) C 1 dX9_settle_6 rfl rfl rfl ?_
  refine z_i2l (pc' := 8) C dX9_settle_7 rfl ?_
  refine z_lconst (pc' := 9) C dX9_settle_8 zl_1 rfl ?_
  refine z_ldc2 (pc' := 12) C zw_1417 dX9_settle_9 rfl ?_
  refine z_cS (pc' := 15) C hf (As := [.long (p1).toInt64, .long (1 : Int64), .long (100 : Int64)]) (fun hq => c_X9_isIn  hq) (fun _ => (zu h a [(0, .inr (9, [.int (0 : Int32), .ref (zo w + (a + 1)), .ref (zo w + (a + 2)), .ref (zo w + (a + 3)), .int m_now, .int m_undoable, .ref (zo w + (a + 4)), .int m_bytes, .int m_errorAt, .int m_size, .int m_next, .int m_error, .int m_place, .int m_began, .int m_nested, .int m_once, .ref (zo w + (a + 5))])), (1, .inl (w.2.2.1 1, 22500, .inr (.inl m_rows)))])) (fun q_12 => [.int q_12, .ref (zo w + a)]) (fun _ => rfl) (fun _ => rfl) zy_X9_isIn zw_1248 zw_1249 ⟨rfl, rfl⟩ rfl rfl rfl rfl rfl dX9_settle_12 rfl (fun q_12 hf => ?_)
  refine z_iconst (pc' := 16) C dX9_settle_15 zk_iconst_1 rfl ?_
  refine z_cV (pc' := 19) C hf (As := [.int q_12, .int (1 : Int32)]) (fun hq => c_X9_right (a := a) (zc_i (o := 0) n_a0 rfl) hq) (fun q_16 => (zu h a [(0, .inr (9, [.int q_16.2, .ref (zo w + (a + 1)), .ref (zo w + (a + 2)), .ref (zo w + (a + 3)), .int m_now, .int m_undoable, .ref (zo w + (a + 4)), .int m_bytes, .int m_errorAt, .int m_size, .int m_next, .int m_error, .int m_place, .int m_began, .int m_nested, .int m_once, .ref (zo w + (a + 5))])), (1, .inl (w.2.2.1 1, 22500, .inr (.inl m_rows)))])) (fun q_16 => [.int q_16.1]) (fun _ => zu_sh (d := 0) rfl rfl) (fun _ => rfl) zy_X9_right zw_1251 zw_1253 zv_23 (ci := 9) rfl (zc_i (o := 0) n_a0 rfl) ⟨rfl, rfl⟩ rfl rfl rfl rfl rfl dX9_settle_16 rfl (fun q_16 hf => ?_)
  refine z_if_eq (pc' := 22) C 60 hf dX9_settle_19 rfl rfl (fun g_19 hf => ?_) (fun g_19 hf => ?_)
  · refine z_lconst (pc' := 61) C dX9_settle_60 zl_0 rfl ?_
    cases hf
    exact z_lret C rfl rfl dX9_settle_61
  · refine z_aload_n (pc' := 23) C 0 dX9_settle_22 rfl rfl rfl ?_
    refine z_aload_n (pc' := 24) C 0 dX9_settle_23 rfl rfl rfl ?_
    refine z_iconst (pc' := 25) C dX9_settle_24 zk_iconst_0 rfl ?_
    refine z_cV (pc' := 28) C hf (As := [.int (0 : Int32)]) (fun hq => c_X9_get (a := a) (zc_i (o := 0) n_a0 rfl) (zc_i (o := 1) n_a1 rfl) hq) (fun _ => (zu h a [(0, .inr (9, [.int q_16.2, .ref (zo w + (a + 1)), .ref (zo w + (a + 2)), .ref (zo w + (a + 3)), .int m_now, .int m_undoable, .ref (zo w + (a + 4)), .int m_bytes, .int m_errorAt, .int m_size, .int m_next, .int m_error, .int m_place, .int m_began, .int m_nested, .int m_once, .ref (zo w + (a + 5))])), (1, .inl (w.2.2.1 1, 22500, .inr (.inl m_rows)))])) (fun q_25 => [.long q_25, .ref (zo w + a)]) (fun _ => rfl) (fun _ => rfl) zy_X9_get zw_1349 zw_1351 zv_43 (ci := 9) rfl (zc_i (o := 0) n_a0 rfl) ⟨rfl, rfl⟩ rfl rfl rfl rfl rfl dX9_settle_25 rfl (fun q_25 hf => ?_)
    refine z_lconst (pc' := 29) C dX9_settle_28 zl_0 rfl ?_
    refine z_lcmp_le (pc' := 33) C 52 hf dX9_settle_29 rfl dX9_settle_30 rfl rfl (fun g_29 hf => ?_) (fun g_29 hf => ?_)
    · exact w_X9_settle_52 C n_a0 n_a1  hf
    · refine z_aload_n (pc' := 34) C 0 dX9_settle_33 rfl rfl rfl ?_
      refine z_iconst (pc' := 35) C dX9_settle_34 zk_iconst_1 rfl ?_
      refine z_cV (pc' := 38) C hf (As := [.int (1 : Int32)]) (fun hq => c_X9_get (a := a) (zc_i (o := 0) n_a0 rfl) (zc_i (o := 1) n_a1 rfl) hq) (fun _ => (zu h a [(0, .inr (9, [.int q_16.2, .ref (zo w + (a + 1)), .ref (zo w + (a + 2)), .ref (zo w + (a + 3)), .int m_now, .int m_undoable, .ref (zo w + (a + 4)), .int m_bytes, .int m_errorAt, .int m_size, .int m_next, .int m_error, .int m_place, .int m_began, .int m_nested, .int m_once, .ref (zo w + (a + 5))])), (1, .inl (w.2.2.1 1, 22500, .inr (.inl m_rows)))])) (fun q_35 => [.long q_35, .ref (zo w + a)]) (fun _ => rfl) (fun _ => rfl) zy_X9_get zw_1349 zw_1351 zv_43 (ci := 9) rfl (zc_i (o := 0) n_a0 rfl) ⟨rfl, rfl⟩ rfl rfl rfl rfl rfl dX9_settle_35 rfl (fun q_35 hf => ?_)
      refine z_iload_n (pc' := 39) C 1 dX9_settle_38 rfl rfl rfl ?_
      refine z_i2l (pc' := 40) C dX9_settle_39 rfl ?_
      refine z_ladd (pc' := 41) C dX9_settle_40 rfl ?_
      refine z_ldc2 (pc' := 44) C zw_1689 dX9_settle_41 rfl ?_
      refine z_lcmp_gt (pc' := 48) C 52 hf dX9_settle_44 rfl dX9_settle_45 rfl rfl (fun g_44 hf => ?_) (fun g_44 hf => ?_)
      · exact w_X9_settle_52 C n_a0 n_a1  hf
      · refine z_iconst (pc' := 49) C dX9_settle_48 zk_iconst_1 rfl ?_
        refine z_goto C 53 dX9_settle_49 rfl ?_
        exact w_X9_settle_53 C n_a0 n_a1  hf
set_option maxRecDepth 20000 in
theorem w_X9_hasClaim_2 {X : zC} {w : zV} {N : Nat} {h : zH} {a : Nat} {m_thrown : Int32} {m_next : Int32} {m_error : Int32} {m_place : Int32} {m_began : Int32} {m_nested : Int32} {m_once : Int32} {m_now : Int32} {m_undoable : Int32} {m_bytes : Int32} {m_errorAt : Int32} {m_size : Int32} {m_rows : Nat → Int64} (C : zK X w RX9 cX9_hasClaim 3 (some .boolean) (zr 5 150)) (h_a0 : zc N h (a + 0) (.inr (9, [.int m_thrown, .ref (zo w + (a + 1)), .ref (zo w + (a + 2)), .ref (zo w + (a + 3)), .int m_now, .int m_undoable, .ref (zo w + (a + 4)), .int m_bytes, .int m_errorAt, .int m_size, .int m_next, .int m_error, .int m_place, .int m_began, .int m_nested, .int m_once, .ref (zo w + (a + 5))]))) (h_a1 : zc N h (a + 1) (.inl (w.2.2.1 1, 22500, .inr (.inl m_rows)))) {r : Int32} (n : Nat) : ∀ {x1 : Int32} {x2 : Int32}, f_X9_hasClaim_2  n m_now m_rows x1 x2 = some r → zZ X w (zQ X w (zr 5 150) (some (.int r)) false N h) 0 0 false N h 2 [(0, .ref (zo w + a)), (1, .int x1), (2, .int x2)] [] := by
  induction n with
  | zero =>
    intro x1 x2 hf
    have hf : (none : Option (Int32)) = some r := hf
    cases hf
  | succ z ih =>
    intro x1 x2 hf
    rw [f_X9_hasClaim_2] at hf
    refine z_iload_n (pc' := 3) C 2 dX9_hasClaim_2 rfl rfl rfl ?_
    refine z_i2l (pc' := 4) C dX9_hasClaim_3 rfl ?_
    refine z_aload_n (pc' := 5) C 0 dX9_hasClaim_4 rfl rfl rfl ?_
    refine z_bipush (pc' := 7) C dX9_hasClaim_5 zk_bipush_6 rfl ?_
    refine z_cV (pc' := 10) C hf (As := [.int (6 : Int32)]) (fun hq => c_X9_get (a := a) h_a0 h_a1 hq) (fun _ => h) (fun q_7 => [.long q_7, .long (x2).toInt64]) (fun _ => rfl) (fun _ => rfl) zy_X9_get zw_1349 zw_1351 zv_43 (ci := 9) rfl h_a0 ⟨rfl, rfl⟩ rfl rfl rfl rfl rfl dX9_hasClaim_7 rfl (fun q_7 hf => ?_)
    refine z_lcmp_ge (pc' := 14) C 46 hf dX9_hasClaim_10 rfl dX9_hasClaim_11 rfl rfl (fun g_10 hf => ?_) (fun g_10 hf => ?_)
    · refine z_iconst (pc' := 47) C dX9_hasClaim_46 zk_iconst_0 rfl ?_
      cases hf
      exact z_zret C zb_0 rfl rfl dX9_hasClaim_47
    · refine z_aload_n (pc' := 15) C 0 dX9_hasClaim_14 rfl rfl rfl ?_
      refine z_iload_n (pc' := 16) C 2 dX9_hasClaim_15 rfl rfl rfl ?_
      refine z_cS (pc' := 19) C hf (As := [.int x2]) (fun hq => c_X9_lien  hq) (fun _ => h) (fun q_16 => [.int q_16, .ref (zo w + a)]) (fun _ => rfl) (fun _ => rfl) zy_X9_lien zw_1610 zw_1611 ⟨rfl, rfl⟩ rfl rfl rfl rfl rfl dX9_hasClaim_16 rfl (fun q_16 hf => ?_)
      refine z_cV (pc' := 22) C hf (As := [.int q_16]) (fun hq => c_X9_get (a := a) h_a0 h_a1 hq) (fun _ => h) (fun q_19 => [.long q_19]) (fun _ => rfl) (fun _ => rfl) zy_X9_get zw_1349 zw_1351 zv_43 (ci := 9) rfl h_a0 ⟨rfl, rfl⟩ rfl rfl rfl rfl rfl dX9_hasClaim_19 rfl (fun q_19 hf => ?_)
      refine z_iload_n (pc' := 23) C 1 dX9_hasClaim_22 rfl rfl rfl ?_
      refine z_i2l (pc' := 24) C dX9_hasClaim_23 rfl ?_
      refine z_lcmp_ne (pc' := 28) C 40 hf dX9_hasClaim_24 rfl dX9_hasClaim_25 rfl rfl (fun g_24 hf => ?_) (fun g_24 hf => ?_)
      · refine z_iinc (pc' := 43) C 2 [(2, .int (x2 + (1 : Int32))), (0, .ref (zo w + a)), (1, .int x1)] dX9_hasClaim_40 rfl zk_iconst_1 rfl rfl rfl ?_
        refine z_goto C 2 dX9_hasClaim_43 rfl ?_
        refine z_pick (lv' := [(0, .ref (zo w + a)), (1, .int x1), (2, .int (x2 + (1 : Int32)))]) [1, 2, 0] rfl ?_
        exact ih hf
      · refine z_aload_n (pc' := 29) C 0 dX9_hasClaim_28 rfl rfl rfl ?_
        refine z_iload_n (pc' := 30) C 2 dX9_hasClaim_29 rfl rfl rfl ?_
        refine z_cV (pc' := 33) C hf (As := [.int x2]) (fun hq => c_X9_claimOf (a := a) h_a0 h_a1 hq) (fun _ => h) (fun q_30 => [.long q_30]) (fun _ => rfl) (fun _ => rfl) zy_X9_claimOf zw_1606 zw_1608 zv_73 (ci := 9) rfl h_a0 ⟨rfl, rfl⟩ rfl rfl rfl rfl rfl dX9_hasClaim_30 rfl (fun q_30 hf => ?_)
        refine z_lconst (pc' := 34) C dX9_hasClaim_33 zl_0 rfl ?_
        refine z_lcmp_le (pc' := 38) C 40 hf dX9_hasClaim_34 rfl dX9_hasClaim_35 rfl rfl (fun g_34 hf => ?_) (fun g_34 hf => ?_)
        · refine z_iinc (pc' := 43) C 2 [(2, .int (x2 + (1 : Int32))), (0, .ref (zo w + a)), (1, .int x1)] dX9_hasClaim_40 rfl zk_iconst_1 rfl rfl rfl ?_
          refine z_goto C 2 dX9_hasClaim_43 rfl ?_
          refine z_pick (lv' := [(0, .ref (zo w + a)), (1, .int x1), (2, .int (x2 + (1 : Int32)))]) [1, 2, 0] rfl ?_
          exact ih hf
        · refine z_iconst (pc' := 39) C dX9_hasClaim_38 zk_iconst_1 rfl ?_
          cases hf
          exact z_zret C zb_1 rfl rfl dX9_hasClaim_39
set_option maxRecDepth 20000 in
theorem c_X9_hasClaim {w : zV} {N : Nat} {h : zH} {a : Nat} {m_thrown : Int32} {m_next : Int32} {m_error : Int32} {m_place : Int32} {m_began : Int32} {m_nested : Int32} {m_once : Int32} {m_now : Int32} {m_undoable : Int32} {m_bytes : Int32} {m_errorAt : Int32} {m_size : Int32} {m_rows : Nat → Int64} {p1 : Int32} (h_a0 : zc N h (a + 0) (.inr (9, [.int m_thrown, .ref (zo w + (a + 1)), .ref (zo w + (a + 2)), .ref (zo w + (a + 3)), .int m_now, .int m_undoable, .ref (zo w + (a + 4)), .int m_bytes, .int m_errorAt, .int m_size, .int m_next, .int m_error, .int m_place, .int m_began, .int m_nested, .int m_once, .ref (zo w + (a + 5))]))) (h_a1 : zc N h (a + 1) (.inl (w.2.2.1 1, 22500, .inr (.inl m_rows)))) {r : Int32} (hf : f_X9_hasClaim m_now m_rows p1 = some r) : zM w yX9_hasClaim cX9_hasClaim 3 (some .boolean) (zr 5 150) false N N h [.ref (zo w + a), .int p1] (some (.int r)) h := by
  unfold f_X9_hasClaim at hf
  refine zM_of (by decide) rfl (fun X C _ => ?_)
  refine z_pick (lv' := [(0, .ref (zo w + a)), (1, .int p1)]) [0, 1] rfl ?_
  refine z_iconst (pc' := 1) C dX9_hasClaim_0 zk_iconst_0 rfl ?_
  refine z_istore_n (pc' := 2) C [(2, .int (0 : Int32)), (0, .ref (zo w + a)), (1, .int p1)] dX9_hasClaim_1 rfl rfl rfl rfl ?_
  refine z_pick (lv' := [(0, .ref (zo w + a)), (1, .int p1), (2, .int (0 : Int32))]) [1, 2, 0] rfl ?_
  exact w_X9_hasClaim_2 C h_a0 h_a1  FU hf
set_option maxRecDepth 20000 in
theorem w_X9_fileLien_54 {X : zC} {w : zV} {N : Nat} {h : zH} {a : Nat} {m_next : Int32} {m_error : Int32} {m_place : Int32} {m_began : Int32} {m_nested : Int32} {m_once : Int32} {m_bytes : Int32} {m_errorAt : Int32} {m_size : Int32} (C : zK X w RX9 cX9_fileLien 5 (some .int) (zr 6 180)) (n_a0 : a + 0 < N) (n_a1 : a + 1 < N) {r : Int32 × Int32 × Int32 × Int32 × (Nat → Int64)} {m_thrown : Int32} {m_now : Int32} {m_undoable : Int32} {m_rows : Nat → Int64} {x1 : Int32} {x2 : Int64} {s1 : Int32} (hf : f_X9_fileLien_54  m_thrown m_now m_undoable m_rows x1 x2 s1 = some r) : zZ X w (zQ X w (zr 6 180) (some (.int r.1)) false N (zu h a [(0, .inr (9, [.int r.2.1, .ref (zo w + (a + 1)), .ref (zo w + (a + 2)), .ref (zo w + (a + 3)), .int r.2.2.1, .int r.2.2.2.1, .ref (zo w + (a + 4)), .int m_bytes, .int m_errorAt, .int m_size, .int m_next, .int m_error, .int m_place, .int m_began, .int m_nested, .int m_once, .ref (zo w + (a + 5))])), (1, .inl (w.2.2.1 1, 22500, .inr (.inl r.2.2.2.2)))])) 0 0 false N (zu h a [(0, .inr (9, [.int m_thrown, .ref (zo w + (a + 1)), .ref (zo w + (a + 2)), .ref (zo w + (a + 3)), .int m_now, .int m_undoable, .ref (zo w + (a + 4)), .int m_bytes, .int m_errorAt, .int m_size, .int m_next, .int m_error, .int m_place, .int m_began, .int m_nested, .int m_once, .ref (zo w + (a + 5))])), (1, .inl (w.2.2.1 1, 22500, .inr (.inl m_rows)))]) 54 [(0, .ref (zo w + a)), (1, .int x1), (2, .long x2)] [.int s1, .ref (zo w + a)] := by
  unfold f_X9_fileLien_54 at hf
  refine z_iconst (pc' := 55) C dX9_fileLien_54 zk_iconst_2 rfl ?_
  refine z_cV (pc' := 58) C hf (As := [.int s1, .int (2 : Int32)]) (fun hq => c_X9_right (a := a) (zc_i (o := 0) n_a0 rfl) hq) (fun q_55 => (zu h a [(0, .inr (9, [.int q_55.2, .ref (zo w + (a + 1)), .ref (zo w + (a + 2)), .ref (zo w + (a + 3)), .int m_now, .int m_undoable, .ref (zo w + (a + 4)), .int m_bytes, .int m_errorAt, .int m_size, .int m_next, .int m_error, .int m_place, .int m_began, .int m_nested, .int m_once, .ref (zo w + (a + 5))])), (1, .inl (w.2.2.1 1, 22500, .inr (.inl m_rows)))])) (fun q_55 => [.int q_55.1]) (fun _ => zu_sh (d := 0) rfl rfl) (fun _ => rfl) zy_X9_right zw_1251 zw_1253 zv_23 (ci := 9) rfl (zc_i (o := 0) n_a0 rfl) ⟨rfl, rfl⟩ rfl rfl rfl rfl rfl dX9_fileLien_55 rfl (fun q_55 hf => ?_)
  refine z_if_ne (pc' := 61) C 63 hf dX9_fileLien_58 rfl rfl (fun g_58 hf => ?_) (fun g_58 hf => ?_)
  · refine z_aload_n (pc' := 64) C 0 dX9_fileLien_63 rfl rfl rfl ?_
    refine z_cV (pc' := 67) C hf (As := []) (fun hq => c_X9_change (a := a) (zc_i (o := 0) n_a0 rfl) (zc_i (o := 1) n_a1 rfl) hq) (fun q_64 => (zu h a [(0, .inr (9, [.int q_55.2, .ref (zo w + (a + 1)), .ref (zo w + (a + 2)), .ref (zo w + (a + 3)), .int q_64.1, .int q_64.2.1, .ref (zo w + (a + 4)), .int m_bytes, .int m_errorAt, .int m_size, .int m_next, .int m_error, .int m_place, .int m_began, .int m_nested, .int m_once, .ref (zo w + (a + 5))])), (1, .inl (w.2.2.1 1, 22500, .inr (.inl q_64.2.2)))])) (fun q_64 => []) (fun _ => zu_sh (d := 0) rfl rfl) (fun _ => rfl) zy_X9_change zw_1345 zw_1347 zv_42 (ci := 9) rfl (zc_i (o := 0) n_a0 rfl) ⟨rfl, rfl⟩ rfl rfl rfl rfl rfl dX9_fileLien_64 rfl (fun q_64 hf => ?_)
    refine z_aload_n (pc' := 68) C 0 dX9_fileLien_67 rfl rfl rfl ?_
    refine z_bipush (pc' := 70) C dX9_fileLien_68 zk_bipush_6 rfl ?_
    refine z_cV (pc' := 73) C hf (As := [.int (6 : Int32)]) (fun hq => c_X9_small (a := a) (zc_i (o := 0) n_a0 rfl) (zc_i (o := 1) n_a1 rfl) hq) (fun _ => (zu h a [(0, .inr (9, [.int q_55.2, .ref (zo w + (a + 1)), .ref (zo w + (a + 2)), .ref (zo w + (a + 3)), .int q_64.1, .int q_64.2.1, .ref (zo w + (a + 4)), .int m_bytes, .int m_errorAt, .int m_size, .int m_next, .int m_error, .int m_place, .int m_began, .int m_nested, .int m_once, .ref (zo w + (a + 5))])), (1, .inl (w.2.2.1 1, 22500, .inr (.inl q_64.2.2)))])) (fun q_70 => [.int q_70]) (fun _ => rfl) (fun _ => rfl) zy_X9_small zw_1357 zw_1359 zv_45 (ci := 9) rfl (zc_i (o := 0) n_a0 rfl) ⟨rfl, rfl⟩ rfl rfl rfl rfl rfl dX9_fileLien_70 rfl (fun q_70 hf => ?_)
    refine z_cS (pc' := 76) C hf (As := [.int q_70]) (fun hq => c_X9_lien  hq) (fun _ => (zu h a [(0, .inr (9, [.int q_55.2, .ref (zo w + (a + 1)), .ref (zo w + (a + 2)), .ref (zo w + (a + 3)), .int q_64.1, .int q_64.2.1, .ref (zo w + (a + 4)), .int m_bytes, .int m_errorAt, .int m_size, .int m_next, .int m_error, .int m_place, .int m_began, .int m_nested, .int m_once, .ref (zo w + (a + 5))])), (1, .inl (w.2.2.1 1, 22500, .inr (.inl q_64.2.2)))])) (fun q_73 => [.int q_73]) (fun _ => rfl) (fun _ => rfl) zy_X9_lien zw_1610 zw_1611 ⟨rfl, rfl⟩ rfl rfl rfl rfl rfl dX9_fileLien_73 rfl (fun q_73 hf => ?_)
    refine z_istore (pc' := 78) C [(4, .int q_73), (0, .ref (zo w + a)), (1, .int x1), (2, .long x2)] dX9_fileLien_76 rfl rfl rfl ?_
    refine z_aload_n (pc' := 79) C 1 dX9_fileLien_78 rfl rfl rfl ?_
    refine z_iload (pc' := 81) C 0 dX9_fileLien_79 rfl rfl ?_
    refine z_iload_n (pc' := 82) C 2 dX9_fileLien_81 rfl rfl rfl ?_
    refine z_i2l (pc' := 83) C dX9_fileLien_82 rfl ?_
    refine z_cV (pc' := 86) C hf (As := [.int q_73, .long (x1).toInt64]) (fun hq => c_X9_put (a := a) (zc_i (o := 0) n_a0 rfl) (zc_i (o := 1) n_a1 rfl) hq) (fun q_83 => (zu h a [(0, .inr (9, [.int q_55.2, .ref (zo w + (a + 1)), .ref (zo w + (a + 2)), .ref (zo w + (a + 3)), .int q_64.1, .int q_64.2.1, .ref (zo w + (a + 4)), .int m_bytes, .int m_errorAt, .int m_size, .int m_next, .int m_error, .int m_place, .int m_began, .int m_nested, .int m_once, .ref (zo w + (a + 5))])), (1, .inl (w.2.2.1 1, 22500, .inr (.inl q_83)))])) (fun q_83 => []) (fun _ => zu_sh (d := 0) rfl rfl) (fun _ => rfl) zy_X9_put zw_1353 zw_1355 zv_44 (ci := 9) rfl (zc_i (o := 0) n_a0 rfl) ⟨rfl, rfl⟩ rfl rfl rfl rfl rfl dX9_fileLien_83 rfl (fun q_83 hf => ?_)
    refine z_aload_n (pc' := 87) C 1 dX9_fileLien_86 rfl rfl rfl ?_
    refine z_iload (pc' := 89) C 0 dX9_fileLien_87 rfl rfl ?_
    refine z_iconst (pc' := 90) C dX9_fileLien_89 zk_iconst_1 rfl ?_
    refine z_iadd (pc' := 91) C dX9_fileLien_90 rfl ?_
    refine z_lload_n (pc' := 92) C 3 dX9_fileLien_91 rfl rfl rfl ?_
    refine z_cV (pc' := 95) C hf (As := [.int (q_73 + (1 : Int32)), .long x2]) (fun hq => c_X9_put (a := a) (zc_i (o := 0) n_a0 rfl) (zc_i (o := 1) n_a1 rfl) hq) (fun q_92 => (zu h a [(0, .inr (9, [.int q_55.2, .ref (zo w + (a + 1)), .ref (zo w + (a + 2)), .ref (zo w + (a + 3)), .int q_64.1, .int q_64.2.1, .ref (zo w + (a + 4)), .int m_bytes, .int m_errorAt, .int m_size, .int m_next, .int m_error, .int m_place, .int m_began, .int m_nested, .int m_once, .ref (zo w + (a + 5))])), (1, .inl (w.2.2.1 1, 22500, .inr (.inl q_92)))])) (fun q_92 => []) (fun _ => zu_sh (d := 0) rfl rfl) (fun _ => rfl) zy_X9_put zw_1353 zw_1355 zv_44 (ci := 9) rfl (zc_i (o := 0) n_a0 rfl) ⟨rfl, rfl⟩ rfl rfl rfl rfl rfl dX9_fileLien_92 rfl (fun q_92 hf => ?_)
    refine z_aload_n (pc' := 96) C 1 dX9_fileLien_95 rfl rfl rfl ?_
    refine z_iload (pc' := 98) C 0 dX9_fileLien_96 rfl rfl ?_
    refine z_iconst (pc' := 99) C dX9_fileLien_98 zk_iconst_2 rfl ?_
    refine z_iadd (pc' := 100) C dX9_fileLien_99 rfl ?_
    refine z_aload_n (pc' := 101) C 1 dX9_fileLien_100 rfl rfl rfl ?_
    refine z_iconst (pc' := 102) C dX9_fileLien_101 zk_iconst_1 rfl ?_
    refine z_cV (pc' := 105) C hf (As := [.int (1 : Int32)]) (fun hq => c_X9_get (a := a) (zc_i (o := 0) n_a0 rfl) (zc_i (o := 1) n_a1 rfl) hq) (fun _ => (zu h a [(0, .inr (9, [.int q_55.2, .ref (zo w + (a + 1)), .ref (zo w + (a + 2)), .ref (zo w + (a + 3)), .int q_64.1, .int q_64.2.1, .ref (zo w + (a + 4)), .int m_bytes, .int m_errorAt, .int m_size, .int m_next, .int m_error, .int m_place, .int m_began, .int m_nested, .int m_once, .ref (zo w + (a + 5))])), (1, .inl (w.2.2.1 1, 22500, .inr (.inl q_92)))])) (fun q_102 => [.long q_102, .int (q_73 + (2 : Int32)), .ref (zo w + a)]) (fun _ => rfl) (fun _ => rfl) zy_X9_get zw_1349 zw_1351 zv_43 (ci := 9) rfl (zc_i (o := 0) n_a0 rfl) ⟨rfl, rfl⟩ rfl rfl rfl rfl rfl dX9_fileLien_102 rfl (fun q_102 hf => ?_)
    refine z_cV (pc' := 108) C hf (As := [.int (q_73 + (2 : Int32)), .long q_102]) (fun hq => c_X9_put (a := a) (zc_i (o := 0) n_a0 rfl) (zc_i (o := 1) n_a1 rfl) hq) (fun q_105 => (zu h a [(0, .inr (9, [.int q_55.2, .ref (zo w + (a + 1)), .ref (zo w + (a + 2)), .ref (zo w + (a + 3)), .int q_64.1, .int q_64.2.1, .ref (zo w + (a + 4)), .int m_bytes, .int m_errorAt, .int m_size, .int m_next, .int m_error, .int m_place, .int m_began, .int m_nested, .int m_once, .ref (zo w + (a + 5))])), (1, .inl (w.2.2.1 1, 22500, .inr (.inl q_105)))])) (fun q_105 => []) (fun _ => zu_sh (d := 0) rfl rfl) (fun _ => rfl) zy_X9_put zw_1353 zw_1355 zv_44 (ci := 9) rfl (zc_i (o := 0) n_a0 rfl) ⟨rfl, rfl⟩ rfl rfl rfl rfl rfl dX9_fileLien_105 rfl (fun q_105 hf => ?_)
    refine z_aload_n (pc' := 109) C 1 dX9_fileLien_108 rfl rfl rfl ?_
    refine z_iload (pc' := 111) C 0 dX9_fileLien_109 rfl rfl ?_
    refine z_iconst (pc' := 112) C dX9_fileLien_111 zk_iconst_3 rfl ?_
    refine z_iadd (pc' := 113) C dX9_fileLien_112 rfl ?_
    refine z_lconst (pc' := 114) C dX9_fileLien_113 zl_0 rfl ?_
    refine z_cV (pc' := 117) C hf (As := [.int (q_73 + (3 : Int32)), .long (0 : Int64)]) (fun hq => c_X9_put (a := a) (zc_i (o := 0) n_a0 rfl) (zc_i (o := 1) n_a1 rfl) hq) (fun q_114 => (zu h a [(0, .inr (9, [.int q_55.2, .ref (zo w + (a + 1)), .ref (zo w + (a + 2)), .ref (zo w + (a + 3)), .int q_64.1, .int q_64.2.1, .ref (zo w + (a + 4)), .int m_bytes, .int m_errorAt, .int m_size, .int m_next, .int m_error, .int m_place, .int m_began, .int m_nested, .int m_once, .ref (zo w + (a + 5))])), (1, .inl (w.2.2.1 1, 22500, .inr (.inl q_114)))])) (fun q_114 => []) (fun _ => zu_sh (d := 0) rfl rfl) (fun _ => rfl) zy_X9_put zw_1353 zw_1355 zv_44 (ci := 9) rfl (zc_i (o := 0) n_a0 rfl) ⟨rfl, rfl⟩ rfl rfl rfl rfl rfl dX9_fileLien_114 rfl (fun q_114 hf => ?_)
    refine z_aload_n (pc' := 118) C 1 dX9_fileLien_117 rfl rfl rfl ?_
    refine z_bipush (pc' := 120) C dX9_fileLien_118 zk_bipush_6 rfl ?_
    refine z_aload_n (pc' := 121) C 1 dX9_fileLien_120 rfl rfl rfl ?_
    refine z_bipush (pc' := 123) C dX9_fileLien_121 zk_bipush_6 rfl ?_
    refine z_cV (pc' := 126) C hf (As := [.int (6 : Int32)]) (fun hq => c_X9_get (a := a) (zc_i (o := 0) n_a0 rfl) (zc_i (o := 1) n_a1 rfl) hq) (fun _ => (zu h a [(0, .inr (9, [.int q_55.2, .ref (zo w + (a + 1)), .ref (zo w + (a + 2)), .ref (zo w + (a + 3)), .int q_64.1, .int q_64.2.1, .ref (zo w + (a + 4)), .int m_bytes, .int m_errorAt, .int m_size, .int m_next, .int m_error, .int m_place, .int m_began, .int m_nested, .int m_once, .ref (zo w + (a + 5))])), (1, .inl (w.2.2.1 1, 22500, .inr (.inl q_114)))])) (fun q_123 => [.long q_123, .int (6 : Int32), .ref (zo w + a)]) (fun _ => rfl) (fun _ => rfl) zy_X9_get zw_1349 zw_1351 zv_43 (ci := 9) rfl (zc_i (o := 0) n_a0 rfl) ⟨rfl, rfl⟩ rfl rfl rfl rfl rfl dX9_fileLien_123 rfl (fun q_123 hf => ?_)
    refine z_lconst (pc' := 127) C dX9_fileLien_126 zl_1 rfl ?_
    refine z_ladd (pc' := 128) C dX9_fileLien_127 rfl ?_
    refine z_cV (pc' := 131) C hf (As := [.int (6 : Int32), .long (q_123 + (1 : Int64))]) (fun hq => c_X9_put (a := a) (zc_i (o := 0) n_a0 rfl) (zc_i (o := 1) n_a1 rfl) hq) (fun q_128 => (zu h a [(0, .inr (9, [.int q_55.2, .ref (zo w + (a + 1)), .ref (zo w + (a + 2)), .ref (zo w + (a + 3)), .int q_64.1, .int q_64.2.1, .ref (zo w + (a + 4)), .int m_bytes, .int m_errorAt, .int m_size, .int m_next, .int m_error, .int m_place, .int m_began, .int m_nested, .int m_once, .ref (zo w + (a + 5))])), (1, .inl (w.2.2.1 1, 22500, .inr (.inl q_128)))])) (fun q_128 => []) (fun _ => zu_sh (d := 0) rfl rfl) (fun _ => rfl) zy_X9_put zw_1353 zw_1355 zv_44 (ci := 9) rfl (zc_i (o := 0) n_a0 rfl) ⟨rfl, rfl⟩ rfl rfl rfl rfl rfl dX9_fileLien_128 rfl (fun q_128 hf => ?_)
    refine z_aload_n (pc' := 132) C 1 dX9_fileLien_131 rfl rfl rfl ?_
    refine z_bipush (pc' := 134) C dX9_fileLien_132 zk_bipush_6 rfl ?_
    refine z_cV (pc' := 137) C hf (As := [.int (6 : Int32)]) (fun hq => c_X9_small (a := a) (zc_i (o := 0) n_a0 rfl) (zc_i (o := 1) n_a1 rfl) hq) (fun _ => (zu h a [(0, .inr (9, [.int q_55.2, .ref (zo w + (a + 1)), .ref (zo w + (a + 2)), .ref (zo w + (a + 3)), .int q_64.1, .int q_64.2.1, .ref (zo w + (a + 4)), .int m_bytes, .int m_errorAt, .int m_size, .int m_next, .int m_error, .int m_place, .int m_began, .int m_nested, .int m_once, .ref (zo w + (a + 5))])), (1, .inl (w.2.2.1 1, 22500, .inr (.inl q_128)))])) (fun q_134 => [.int q_134]) (fun _ => rfl) (fun _ => rfl) zy_X9_small zw_1357 zw_1359 zv_45 (ci := 9) rfl (zc_i (o := 0) n_a0 rfl) ⟨rfl, rfl⟩ rfl rfl rfl rfl rfl dX9_fileLien_134 rfl (fun q_134 hf => ?_)
    refine z_iconst (pc' := 138) C dX9_fileLien_137 zk_iconst_1 rfl ?_
    refine z_isub (pc' := 139) C dX9_fileLien_138 rfl ?_
    cases hf
    exact z_iret C rfl rfl dX9_fileLien_139
  · refine z_iconst (pc' := 62) C dX9_fileLien_61 zk_iconst_0 rfl ?_
    cases hf
    exact z_iret C rfl rfl dX9_fileLien_62
set_option maxRecDepth 20000 in
theorem w_X9_fileLien_53 {X : zC} {w : zV} {N : Nat} {h : zH} {a : Nat} {m_next : Int32} {m_error : Int32} {m_place : Int32} {m_began : Int32} {m_nested : Int32} {m_once : Int32} {m_bytes : Int32} {m_errorAt : Int32} {m_size : Int32} (C : zK X w RX9 cX9_fileLien 5 (some .int) (zr 6 180)) (n_a0 : a + 0 < N) (n_a1 : a + 1 < N) {r : Int32 × Int32 × Int32 × Int32 × (Nat → Int64)} {m_thrown : Int32} {m_now : Int32} {m_undoable : Int32} {m_rows : Nat → Int64} {x1 : Int32} {x2 : Int64} (hf : f_X9_fileLien_53  m_thrown m_now m_undoable m_rows x1 x2 = some r) : zZ X w (zQ X w (zr 6 180) (some (.int r.1)) false N (zu h a [(0, .inr (9, [.int r.2.1, .ref (zo w + (a + 1)), .ref (zo w + (a + 2)), .ref (zo w + (a + 3)), .int r.2.2.1, .int r.2.2.2.1, .ref (zo w + (a + 4)), .int m_bytes, .int m_errorAt, .int m_size, .int m_next, .int m_error, .int m_place, .int m_began, .int m_nested, .int m_once, .ref (zo w + (a + 5))])), (1, .inl (w.2.2.1 1, 22500, .inr (.inl r.2.2.2.2)))])) 0 0 false N (zu h a [(0, .inr (9, [.int m_thrown, .ref (zo w + (a + 1)), .ref (zo w + (a + 2)), .ref (zo w + (a + 3)), .int m_now, .int m_undoable, .ref (zo w + (a + 4)), .int m_bytes, .int m_errorAt, .int m_size, .int m_next, .int m_error, .int m_place, .int m_began, .int m_nested, .int m_once, .ref (zo w + (a + 5))])), (1, .inl (w.2.2.1 1, 22500, .inr (.inl m_rows)))]) 53 [(0, .ref (zo w + a)), (1, .int x1), (2, .long x2)] [.ref (zo w + a)] := by
  unfold f_X9_fileLien_53 at hf
  refine z_iconst (pc' := 54) C dX9_fileLien_53 zk_iconst_0 rfl ?_
  exact w_X9_fileLien_54 C n_a0 n_a1  hf
set_option maxRecDepth 20000 in
theorem c_X9_fileLien {w : zV} {N : Nat} {h : zH} {a : Nat} {m_thrown : Int32} {m_next : Int32} {m_error : Int32} {m_place : Int32} {m_began : Int32} {m_nested : Int32} {m_once : Int32} {m_now : Int32} {m_undoable : Int32} {m_bytes : Int32} {m_errorAt : Int32} {m_size : Int32} {m_rows : Nat → Int64} {p1 : Int32} (h_a0 : zc N h (a + 0) (.inr (9, [.int m_thrown, .ref (zo w + (a + 1)), .ref (zo w + (a + 2)), .ref (zo w + (a + 3)), .int m_now, .int m_undoable, .ref (zo w + (a + 4)), .int m_bytes, .int m_errorAt, .int m_size, .int m_next, .int m_error, .int m_place, .int m_began, .int m_nested, .int m_once, .ref (zo w + (a + 5))]))) (h_a1 : zc N h (a + 1) (.inl (w.2.2.1 1, 22500, .inr (.inl m_rows)))) {r : Int32 × Int32 × Int32 × Int32 × (Nat → Int64)} (hf : f_X9_fileLien m_thrown m_now m_undoable m_rows p1 = some r) : zM w yX9_fileLien cX9_fileLien 5 (some .int) (zr 6 180) false N N h [.ref (zo w + a), .int p1] (some (.int r.1)) (zu h a [(0, .inr (9, [.int r.2.1, .ref (zo w + (a + 1)), .ref (zo w + (a + 2)), .ref (zo w + (a + 3)), .int r.2.2.1, .int r.2.2.2.1, .ref (zo w + (a + 4)), .int m_bytes, .int m_errorAt, .int m_size, .int m_next, .int m_error, .int m_place, .int m_began, .int m_nested, .int m_once, .ref (zo w + (a + 5))])), (1, .inl (w.2.2.1 1, 22500, .inr (.inl r.2.2.2.2)))]) := by
  unfold f_X9_fileLien at hf
  refine zM_of (by decide) rfl (fun X C _ => ?_)
  refine z_eq (h' := (zu h a [(0, .inr (9, [.int m_thrown, .ref (zo w + (a + 1)), .ref (zo w + (a + 2)), .ref (zo w + (a + 3)), .int m_now, .int m_undoable, .ref (zo w + (a + 4)), .int m_bytes, .int m_errorAt, .int m_size, .int m_next, .int m_error, .int m_place, .int m_began, .int m_nested, .int m_once, .ref (zo w + (a + 5))])), (1, .inl (w.2.2.1 1, 22500, .inr (.inl m_rows)))])) (zu_s h_a0 (zu_s h_a1 zu_0)).symm ?_
  have n_a0 := h_a0.1
  have n_a1 := h_a1.1
  refine z_pick (lv' := [(0, .ref (zo w + a)), (1, .int p1)]) [0, 1] rfl ?_
  refine z_aload_n (pc' := 1) C 0 dX9_fileLien_0 rfl rfl rfl ?_
  refine z_iload_n (pc' := 2) C 1 dX9_fileLien_1 rfl rfl rfl ?_
  refine z_cV (pc' := 5) C hf (As := [.int p1]) (fun hq => c_X9_isContract (a := a) (zc_i (o := 0) n_a0 rfl) (zc_i (o := 1) n_a1 rfl) hq) (fun q_2 => (zu h a [(0, .inr (9, [.int q_2.2, .ref (zo w + (a + 1)), .ref (zo w + (a + 2)), .ref (zo w + (a + 3)), .int m_now, .int m_undoable, .ref (zo w + (a + 4)), .int m_bytes, .int m_errorAt, .int m_size, .int m_next, .int m_error, .int m_place, .int m_began, .int m_nested, .int m_once, .ref (zo w + (a + 5))])), (1, .inl (w.2.2.1 1, 22500, .inr (.inl m_rows)))])) (fun q_2 => [.int q_2.1]) (fun _ => zu_sh (d := 0) rfl rfl) (fun _ => rfl) zy_X9_isContract zw_1377 zw_1379 zv_46 (ci := 9) rfl (zc_i (o := 0) n_a0 rfl) ⟨rfl, rfl⟩ rfl rfl rfl rfl rfl dX9_fileLien_2 rfl (fun q_2 hf => ?_)
  refine z_if_ne (pc' := 8) C 10 hf dX9_fileLien_5 rfl rfl (fun g_5 hf => ?_) (fun g_5 hf => ?_)
  · refine z_aload_n (pc' := 11) C 0 dX9_fileLien_10 rfl rfl rfl ?_
    refine z_iload_n (pc' := 12) C 1 dX9_fileLien_11 rfl rfl rfl ?_
    refine z_aload_n (pc' := 13) C 0 dX9_fileLien_12 rfl rfl rfl ?_
    refine z_iconst (pc' := 14) C dX9_fileLien_13 zk_iconst_1 rfl ?_
    refine z_cV (pc' := 17) C hf (As := [.int (1 : Int32)]) (fun hq => c_X9_get (a := a) (zc_i (o := 0) n_a0 rfl) (zc_i (o := 1) n_a1 rfl) hq) (fun _ => (zu h a [(0, .inr (9, [.int q_2.2, .ref (zo w + (a + 1)), .ref (zo w + (a + 2)), .ref (zo w + (a + 3)), .int m_now, .int m_undoable, .ref (zo w + (a + 4)), .int m_bytes, .int m_errorAt, .int m_size, .int m_next, .int m_error, .int m_place, .int m_began, .int m_nested, .int m_once, .ref (zo w + (a + 5))])), (1, .inl (w.2.2.1 1, 22500, .inr (.inl m_rows)))])) (fun q_14 => [.long q_14, .int p1, .ref (zo w + a)]) (fun _ => rfl) (fun _ => rfl) zy_X9_get zw_1349 zw_1351 zv_43 (ci := 9) rfl (zc_i (o := 0) n_a0 rfl) ⟨rfl, rfl⟩ rfl rfl rfl rfl rfl dX9_fileLien_14 rfl (fun q_14 hf => ?_)
    refine z_cV (pc' := 20) C hf (As := [.int p1, .long q_14]) (fun hq => c_X9_openBefore (a := a) (zc_i (o := 0) n_a0 rfl) (zc_i (o := 1) n_a1 rfl) hq) (fun _ => (zu h a [(0, .inr (9, [.int q_2.2, .ref (zo w + (a + 1)), .ref (zo w + (a + 2)), .ref (zo w + (a + 3)), .int m_now, .int m_undoable, .ref (zo w + (a + 4)), .int m_bytes, .int m_errorAt, .int m_size, .int m_next, .int m_error, .int m_place, .int m_began, .int m_nested, .int m_once, .ref (zo w + (a + 5))])), (1, .inl (w.2.2.1 1, 22500, .inr (.inl m_rows)))])) (fun q_17 => [.long q_17]) (fun _ => rfl) (fun _ => rfl) zy_X9_openBefore zw_1505 zw_1507 zv_62 (ci := 9) rfl (zc_i (o := 0) n_a0 rfl) ⟨rfl, rfl⟩ rfl rfl rfl rfl rfl dX9_fileLien_17 rfl (fun q_17 hf => ?_)
    refine z_lstore_n (pc' := 21) C [(2, .long q_17), (0, .ref (zo w + a)), (1, .int p1)] dX9_fileLien_20 rfl rfl rfl rfl ?_
    refine z_aload_n (pc' := 22) C 1 dX9_fileLien_21 rfl rfl rfl ?_
    refine z_lload_n (pc' := 23) C 0 dX9_fileLien_22 rfl rfl rfl ?_
    refine z_lconst (pc' := 24) C dX9_fileLien_23 zl_0 rfl ?_
    refine z_lcmp_le (pc' := 28) C 53 hf dX9_fileLien_24 rfl dX9_fileLien_25 rfl rfl (fun g_24 hf => ?_) (fun g_24 hf => ?_)
    · refine z_pick (lv' := [(0, .ref (zo w + a)), (1, .int p1), (2, .long q_17)]) [1, 2, 0] rfl ?_
      exact w_X9_fileLien_53 C n_a0 n_a1  hf
    · refine z_aload_n (pc' := 29) C 1 dX9_fileLien_28 rfl rfl rfl ?_
      refine z_iload_n (pc' := 30) C 2 dX9_fileLien_29 rfl rfl rfl ?_
      refine z_cV (pc' := 33) C hf (As := [.int p1]) (fun hq => c_X9_hasClaim (a := a) (zc_i (o := 0) n_a0 rfl) (zc_i (o := 1) n_a1 rfl) hq) (fun _ => (zu h a [(0, .inr (9, [.int q_2.2, .ref (zo w + (a + 1)), .ref (zo w + (a + 2)), .ref (zo w + (a + 3)), .int m_now, .int m_undoable, .ref (zo w + (a + 4)), .int m_bytes, .int m_errorAt, .int m_size, .int m_next, .int m_error, .int m_place, .int m_began, .int m_nested, .int m_once, .ref (zo w + (a + 5))])), (1, .inl (w.2.2.1 1, 22500, .inr (.inl m_rows)))])) (fun q_30 => [.int q_30, .ref (zo w + a)]) (fun _ => rfl) (fun _ => rfl) zy_X9_hasClaim zw_1698 zw_1700 zv_81 (ci := 9) rfl (zc_i (o := 0) n_a0 rfl) ⟨rfl, rfl⟩ rfl rfl rfl rfl rfl dX9_fileLien_30 rfl (fun q_30 hf => ?_)
      refine z_if_ne (pc' := 36) C 53 hf dX9_fileLien_33 rfl rfl (fun g_33 hf => ?_) (fun g_33 hf => ?_)
      · refine z_pick (lv' := [(0, .ref (zo w + a)), (1, .int p1), (2, .long q_17)]) [1, 2, 0] rfl ?_
        exact w_X9_fileLien_53 C n_a0 n_a1  hf
      · refine z_aload_n (pc' := 37) C 1 dX9_fileLien_36 rfl rfl rfl ?_
        refine z_bipush (pc' := 39) C dX9_fileLien_37 zk_bipush_6 rfl ?_
        refine z_cV (pc' := 42) C hf (As := [.int (6 : Int32)]) (fun hq => c_X9_get (a := a) (zc_i (o := 0) n_a0 rfl) (zc_i (o := 1) n_a1 rfl) hq) (fun _ => (zu h a [(0, .inr (9, [.int q_2.2, .ref (zo w + (a + 1)), .ref (zo w + (a + 2)), .ref (zo w + (a + 3)), .int m_now, .int m_undoable, .ref (zo w + (a + 4)), .int m_bytes, .int m_errorAt, .int m_size, .int m_next, .int m_error, .int m_place, .int m_began, .int m_nested, .int m_once, .ref (zo w + (a + 5))])), (1, .inl (w.2.2.1 1, 22500, .inr (.inl m_rows)))])) (fun q_39 => [.long q_39, .ref (zo w + a)]) (fun _ => rfl) (fun _ => rfl) zy_X9_get zw_1349 zw_1351 zv_43 (ci := 9) rfl (zc_i (o := 0) n_a0 rfl) ⟨rfl, rfl⟩ rfl rfl rfl rfl rfl dX9_fileLien_39 rfl (fun q_39 hf => ?_)
        refine z_ldc2 (pc' := 45) C zw_1702 dX9_fileLien_42 rfl ?_
        refine z_lcmp_ge (pc' := 49) C 53 hf dX9_fileLien_45 rfl dX9_fileLien_46 rfl rfl (fun g_45 hf => ?_) (fun g_45 hf => ?_)
        · refine z_pick (lv' := [(0, .ref (zo w + a)), (1, .int p1), (2, .long q_17)]) [1, 2, 0] rfl ?_
          exact w_X9_fileLien_53 C n_a0 n_a1  hf
        · refine z_iconst (pc' := 50) C dX9_fileLien_49 zk_iconst_1 rfl ?_
          refine z_goto C 54 dX9_fileLien_50 rfl ?_
          refine z_pick (lv' := [(0, .ref (zo w + a)), (1, .int p1), (2, .long q_17)]) [1, 2, 0] rfl ?_
          exact w_X9_fileLien_54 C n_a0 n_a1  hf
  · refine z_iconst (pc' := 9) C dX9_fileLien_8 zk_iconst_0 rfl ?_
    cases hf
    exact z_iret C rfl rfl dX9_fileLien_9
set_option maxRecDepth 20000 in
theorem w_X9_withdrawLien_29 {X : zC} {w : zV} {N : Nat} {h : zH} {a : Nat} {m_next : Int32} {m_error : Int32} {m_place : Int32} {m_began : Int32} {m_nested : Int32} {m_once : Int32} {m_bytes : Int32} {m_errorAt : Int32} {m_size : Int32} (C : zK X w RX9 cX9_withdrawLien 4 (some .long) (zr 5 150)) (n_a0 : a + 0 < N) (n_a1 : a + 1 < N) {r : Int64 × Int32 × Int32 × Int32 × (Nat → Int64)} {m_thrown : Int32} {m_now : Int32} {m_undoable : Int32} {m_rows : Nat → Int64} {x1 : Int32} {s1 : Int32} (hf : f_X9_withdrawLien_29  m_thrown m_now m_undoable m_rows x1 s1 = some r) : zZ X w (zQ X w (zr 5 150) (some (.long r.1)) false N (zu h a [(0, .inr (9, [.int r.2.1, .ref (zo w + (a + 1)), .ref (zo w + (a + 2)), .ref (zo w + (a + 3)), .int r.2.2.1, .int r.2.2.2.1, .ref (zo w + (a + 4)), .int m_bytes, .int m_errorAt, .int m_size, .int m_next, .int m_error, .int m_place, .int m_began, .int m_nested, .int m_once, .ref (zo w + (a + 5))])), (1, .inl (w.2.2.1 1, 22500, .inr (.inl r.2.2.2.2)))])) 0 0 false N (zu h a [(0, .inr (9, [.int m_thrown, .ref (zo w + (a + 1)), .ref (zo w + (a + 2)), .ref (zo w + (a + 3)), .int m_now, .int m_undoable, .ref (zo w + (a + 4)), .int m_bytes, .int m_errorAt, .int m_size, .int m_next, .int m_error, .int m_place, .int m_began, .int m_nested, .int m_once, .ref (zo w + (a + 5))])), (1, .inl (w.2.2.1 1, 22500, .inr (.inl m_rows)))]) 29 [(0, .ref (zo w + a)), (1, .int x1)] [.int s1, .ref (zo w + a)] := by
  unfold f_X9_withdrawLien_29 at hf
  refine z_iconst (pc' := 30) C dX9_withdrawLien_29 zk_iconst_2 rfl ?_
  refine z_cV (pc' := 33) C hf (As := [.int s1, .int (2 : Int32)]) (fun hq => c_X9_right (a := a) (zc_i (o := 0) n_a0 rfl) hq) (fun q_30 => (zu h a [(0, .inr (9, [.int q_30.2, .ref (zo w + (a + 1)), .ref (zo w + (a + 2)), .ref (zo w + (a + 3)), .int m_now, .int m_undoable, .ref (zo w + (a + 4)), .int m_bytes, .int m_errorAt, .int m_size, .int m_next, .int m_error, .int m_place, .int m_began, .int m_nested, .int m_once, .ref (zo w + (a + 5))])), (1, .inl (w.2.2.1 1, 22500, .inr (.inl m_rows)))])) (fun q_30 => [.int q_30.1]) (fun _ => zu_sh (d := 0) rfl rfl) (fun _ => rfl) zy_X9_right zw_1251 zw_1253 zv_23 (ci := 9) rfl (zc_i (o := 0) n_a0 rfl) ⟨rfl, rfl⟩ rfl rfl rfl rfl rfl dX9_withdrawLien_30 rfl (fun q_30 hf => ?_)
  refine z_if_ne (pc' := 36) C 38 hf dX9_withdrawLien_33 rfl rfl (fun g_33 hf => ?_) (fun g_33 hf => ?_)
  · refine z_aload_n (pc' := 39) C 0 dX9_withdrawLien_38 rfl rfl rfl ?_
    refine z_iload_n (pc' := 40) C 1 dX9_withdrawLien_39 rfl rfl rfl ?_
    refine z_cV (pc' := 43) C hf (As := [.int x1]) (fun hq => c_X9_claimOf (a := a) (zc_i (o := 0) n_a0 rfl) (zc_i (o := 1) n_a1 rfl) hq) (fun _ => (zu h a [(0, .inr (9, [.int q_30.2, .ref (zo w + (a + 1)), .ref (zo w + (a + 2)), .ref (zo w + (a + 3)), .int m_now, .int m_undoable, .ref (zo w + (a + 4)), .int m_bytes, .int m_errorAt, .int m_size, .int m_next, .int m_error, .int m_place, .int m_began, .int m_nested, .int m_once, .ref (zo w + (a + 5))])), (1, .inl (w.2.2.1 1, 22500, .inr (.inl m_rows)))])) (fun q_40 => [.long q_40]) (fun _ => rfl) (fun _ => rfl) zy_X9_claimOf zw_1606 zw_1608 zv_73 (ci := 9) rfl (zc_i (o := 0) n_a0 rfl) ⟨rfl, rfl⟩ rfl rfl rfl rfl rfl dX9_withdrawLien_40 rfl (fun q_40 hf => ?_)
    refine z_lstore_n (pc' := 44) C [(2, .long q_40), (0, .ref (zo w + a)), (1, .int x1)] dX9_withdrawLien_43 rfl rfl rfl rfl ?_
    refine z_aload_n (pc' := 45) C 1 dX9_withdrawLien_44 rfl rfl rfl ?_
    refine z_cV (pc' := 48) C hf (As := []) (fun hq => c_X9_change (a := a) (zc_i (o := 0) n_a0 rfl) (zc_i (o := 1) n_a1 rfl) hq) (fun q_45 => (zu h a [(0, .inr (9, [.int q_30.2, .ref (zo w + (a + 1)), .ref (zo w + (a + 2)), .ref (zo w + (a + 3)), .int q_45.1, .int q_45.2.1, .ref (zo w + (a + 4)), .int m_bytes, .int m_errorAt, .int m_size, .int m_next, .int m_error, .int m_place, .int m_began, .int m_nested, .int m_once, .ref (zo w + (a + 5))])), (1, .inl (w.2.2.1 1, 22500, .inr (.inl q_45.2.2)))])) (fun q_45 => []) (fun _ => zu_sh (d := 0) rfl rfl) (fun _ => rfl) zy_X9_change zw_1345 zw_1347 zv_42 (ci := 9) rfl (zc_i (o := 0) n_a0 rfl) ⟨rfl, rfl⟩ rfl rfl rfl rfl rfl dX9_withdrawLien_45 rfl (fun q_45 hf => ?_)
    refine z_aload_n (pc' := 49) C 1 dX9_withdrawLien_48 rfl rfl rfl ?_
    refine z_iload_n (pc' := 50) C 2 dX9_withdrawLien_49 rfl rfl rfl ?_
    refine z_cS (pc' := 53) C hf (As := [.int x1]) (fun hq => c_X9_lien  hq) (fun _ => (zu h a [(0, .inr (9, [.int q_30.2, .ref (zo w + (a + 1)), .ref (zo w + (a + 2)), .ref (zo w + (a + 3)), .int q_45.1, .int q_45.2.1, .ref (zo w + (a + 4)), .int m_bytes, .int m_errorAt, .int m_size, .int m_next, .int m_error, .int m_place, .int m_began, .int m_nested, .int m_once, .ref (zo w + (a + 5))])), (1, .inl (w.2.2.1 1, 22500, .inr (.inl q_45.2.2)))])) (fun q_50 => [.int q_50, .ref (zo w + a)]) (fun _ => rfl) (fun _ => rfl) zy_X9_lien zw_1610 zw_1611 ⟨rfl, rfl⟩ rfl rfl rfl rfl rfl dX9_withdrawLien_50 rfl (fun q_50 hf => ?_)
    refine z_iconst (pc' := 54) C dX9_withdrawLien_53 zk_iconst_3 rfl ?_
    refine z_iadd (pc' := 55) C dX9_withdrawLien_54 rfl ?_
    refine z_lconst (pc' := 56) C dX9_withdrawLien_55 zl_1 rfl ?_
    refine z_cV (pc' := 59) C hf (As := [.int (q_50 + (3 : Int32)), .long (1 : Int64)]) (fun hq => c_X9_put (a := a) (zc_i (o := 0) n_a0 rfl) (zc_i (o := 1) n_a1 rfl) hq) (fun q_56 => (zu h a [(0, .inr (9, [.int q_30.2, .ref (zo w + (a + 1)), .ref (zo w + (a + 2)), .ref (zo w + (a + 3)), .int q_45.1, .int q_45.2.1, .ref (zo w + (a + 4)), .int m_bytes, .int m_errorAt, .int m_size, .int m_next, .int m_error, .int m_place, .int m_began, .int m_nested, .int m_once, .ref (zo w + (a + 5))])), (1, .inl (w.2.2.1 1, 22500, .inr (.inl q_56)))])) (fun q_56 => []) (fun _ => zu_sh (d := 0) rfl rfl) (fun _ => rfl) zy_X9_put zw_1353 zw_1355 zv_44 (ci := 9) rfl (zc_i (o := 0) n_a0 rfl) ⟨rfl, rfl⟩ rfl rfl rfl rfl rfl dX9_withdrawLien_56 rfl (fun q_56 hf => ?_)
    refine z_lload_n (pc' := 60) C 0 dX9_withdrawLien_59 rfl rfl rfl ?_
    cases hf
    exact z_lret C rfl rfl dX9_withdrawLien_60
  · refine z_lconst (pc' := 37) C dX9_withdrawLien_36 zl_0 rfl ?_
    cases hf
    exact z_lret C rfl rfl dX9_withdrawLien_37
set_option maxRecDepth 20000 in
theorem c_X9_withdrawLien {w : zV} {N : Nat} {h : zH} {a : Nat} {m_thrown : Int32} {m_next : Int32} {m_error : Int32} {m_place : Int32} {m_began : Int32} {m_nested : Int32} {m_once : Int32} {m_now : Int32} {m_undoable : Int32} {m_bytes : Int32} {m_errorAt : Int32} {m_size : Int32} {m_rows : Nat → Int64} {p1 : Int32} (h_a0 : zc N h (a + 0) (.inr (9, [.int m_thrown, .ref (zo w + (a + 1)), .ref (zo w + (a + 2)), .ref (zo w + (a + 3)), .int m_now, .int m_undoable, .ref (zo w + (a + 4)), .int m_bytes, .int m_errorAt, .int m_size, .int m_next, .int m_error, .int m_place, .int m_began, .int m_nested, .int m_once, .ref (zo w + (a + 5))]))) (h_a1 : zc N h (a + 1) (.inl (w.2.2.1 1, 22500, .inr (.inl m_rows)))) {r : Int64 × Int32 × Int32 × Int32 × (Nat → Int64)} (hf : f_X9_withdrawLien m_thrown m_now m_undoable m_rows p1 = some r) : zM w yX9_withdrawLien cX9_withdrawLien 4 (some .long) (zr 5 150) false N N h [.ref (zo w + a), .int p1] (some (.long r.1)) (zu h a [(0, .inr (9, [.int r.2.1, .ref (zo w + (a + 1)), .ref (zo w + (a + 2)), .ref (zo w + (a + 3)), .int r.2.2.1, .int r.2.2.2.1, .ref (zo w + (a + 4)), .int m_bytes, .int m_errorAt, .int m_size, .int m_next, .int m_error, .int m_place, .int m_began, .int m_nested, .int m_once, .ref (zo w + (a + 5))])), (1, .inl (w.2.2.1 1, 22500, .inr (.inl r.2.2.2.2)))]) := by
  unfold f_X9_withdrawLien at hf
  refine zM_of (by decide) rfl (fun X C _ => ?_)
  refine z_eq (h' := (zu h a [(0, .inr (9, [.int m_thrown, .ref (zo w + (a + 1)), .ref (zo w + (a + 2)), .ref (zo w + (a + 3)), .int m_now, .int m_undoable, .ref (zo w + (a + 4)), .int m_bytes, .int m_errorAt, .int m_size, .int m_next, .int m_error, .int m_place, .int m_began, .int m_nested, .int m_once, .ref (zo w + (a + 5))])), (1, .inl (w.2.2.1 1, 22500, .inr (.inl m_rows)))])) (zu_s h_a0 (zu_s h_a1 zu_0)).symm ?_
  have n_a0 := h_a0.1
  have n_a1 := h_a1.1
  refine z_pick (lv' := [(0, .ref (zo w + a)), (1, .int p1)]) [0, 1] rfl ?_
  refine z_aload_n (pc' := 1) C 0 dX9_withdrawLien_0 rfl rfl rfl ?_
  refine z_iload_n (pc' := 2) C 1 dX9_withdrawLien_1 rfl rfl rfl ?_
  refine z_cV (pc' := 5) C hf (As := [.int p1]) (fun hq => c_X9_isLien (a := a) (zc_i (o := 0) n_a0 rfl) (zc_i (o := 1) n_a1 rfl) hq) (fun q_2 => (zu h a [(0, .inr (9, [.int q_2.2, .ref (zo w + (a + 1)), .ref (zo w + (a + 2)), .ref (zo w + (a + 3)), .int m_now, .int m_undoable, .ref (zo w + (a + 4)), .int m_bytes, .int m_errorAt, .int m_size, .int m_next, .int m_error, .int m_place, .int m_began, .int m_nested, .int m_once, .ref (zo w + (a + 5))])), (1, .inl (w.2.2.1 1, 22500, .inr (.inl m_rows)))])) (fun q_2 => [.int q_2.1]) (fun _ => zu_sh (d := 0) rfl rfl) (fun _ => rfl) zy_X9_isLien zw_1602 zw_1604 zv_72 (ci := 9) rfl (zc_i (o := 0) n_a0 rfl) ⟨rfl, rfl⟩ rfl rfl rfl rfl rfl dX9_withdrawLien_2 rfl (fun q_2 hf => ?_)
  refine z_if_eq (pc' := 8) C 36 hf dX9_withdrawLien_5 rfl rfl (fun g_5 hf => ?_) (fun g_5 hf => ?_)
  · refine z_lconst (pc' := 37) C dX9_withdrawLien_36 zl_0 rfl ?_
    cases hf
    exact z_lret C rfl rfl dX9_withdrawLien_37
  · refine z_aload_n (pc' := 9) C 0 dX9_withdrawLien_8 rfl rfl rfl ?_
    refine z_aload_n (pc' := 10) C 0 dX9_withdrawLien_9 rfl rfl rfl ?_
    refine z_iload_n (pc' := 11) C 1 dX9_withdrawLien_10 rfl rfl rfl ?_
    refine z_cS (pc' := 14) C hf (As := [.int p1]) (fun hq => c_X9_lien  hq) (fun _ => (zu h a [(0, .inr (9, [.int q_2.2, .ref (zo w + (a + 1)), .ref (zo w + (a + 2)), .ref (zo w + (a + 3)), .int m_now, .int m_undoable, .ref (zo w + (a + 4)), .int m_bytes, .int m_errorAt, .int m_size, .int m_next, .int m_error, .int m_place, .int m_began, .int m_nested, .int m_once, .ref (zo w + (a + 5))])), (1, .inl (w.2.2.1 1, 22500, .inr (.inl m_rows)))])) (fun q_11 => [.int q_11, .ref (zo w + a), .ref (zo w + a)]) (fun _ => rfl) (fun _ => rfl) zy_X9_lien zw_1610 zw_1611 ⟨rfl, rfl⟩ rfl rfl rfl rfl rfl dX9_withdrawLien_11 rfl (fun q_11 hf => ?_)
    refine z_iconst (pc' := 15) C dX9_withdrawLien_14 zk_iconst_3 rfl ?_
    refine z_iadd (pc' := 16) C dX9_withdrawLien_15 rfl ?_
    refine z_cV (pc' := 19) C hf (As := [.int (q_11 + (3 : Int32))]) (fun hq => c_X9_get (a := a) (zc_i (o := 0) n_a0 rfl) (zc_i (o := 1) n_a1 rfl) hq) (fun _ => (zu h a [(0, .inr (9, [.int q_2.2, .ref (zo w + (a + 1)), .ref (zo w + (a + 2)), .ref (zo w + (a + 3)), .int m_now, .int m_undoable, .ref (zo w + (a + 4)), .int m_bytes, .int m_errorAt, .int m_size, .int m_next, .int m_error, .int m_place, .int m_began, .int m_nested, .int m_once, .ref (zo w + (a + 5))])), (1, .inl (w.2.2.1 1, 22500, .inr (.inl m_rows)))])) (fun q_16 => [.long q_16, .ref (zo w + a)]) (fun _ => rfl) (fun _ => rfl) zy_X9_get zw_1349 zw_1351 zv_43 (ci := 9) rfl (zc_i (o := 0) n_a0 rfl) ⟨rfl, rfl⟩ rfl rfl rfl rfl rfl dX9_withdrawLien_16 rfl (fun q_16 hf => ?_)
    refine z_lconst (pc' := 20) C dX9_withdrawLien_19 zl_0 rfl ?_
    refine z_lcmp_ne (pc' := 24) C 28 hf dX9_withdrawLien_20 rfl dX9_withdrawLien_21 rfl rfl (fun g_20 hf => ?_) (fun g_20 hf => ?_)
    · refine z_iconst (pc' := 29) C dX9_withdrawLien_28 zk_iconst_0 rfl ?_
      exact w_X9_withdrawLien_29 C n_a0 n_a1  hf
    · refine z_iconst (pc' := 25) C dX9_withdrawLien_24 zk_iconst_1 rfl ?_
      refine z_goto C 29 dX9_withdrawLien_25 rfl ?_
      exact w_X9_withdrawLien_29 C n_a0 n_a1  hf
set_option maxRecDepth 20000 in
theorem c_X9_undo {w : zV} {N : Nat} {h : zH} {a : Nat} {m_thrown : Int32} {m_next : Int32} {m_error : Int32} {m_place : Int32} {m_began : Int32} {m_nested : Int32} {m_once : Int32} {m_now : Int32} {m_undoable : Int32} {m_bytes : Int32} {m_errorAt : Int32} {m_size : Int32} (h_a0 : zc N h (a + 0) (.inr (9, [.int m_thrown, .ref (zo w + (a + 1)), .ref (zo w + (a + 2)), .ref (zo w + (a + 3)), .int m_now, .int m_undoable, .ref (zo w + (a + 4)), .int m_bytes, .int m_errorAt, .int m_size, .int m_next, .int m_error, .int m_place, .int m_began, .int m_nested, .int m_once, .ref (zo w + (a + 5))]))) {r : Int32 × Int32 × Int32 × Int32} (hf : f_X9_undo m_thrown m_now m_undoable = some r) : zM w yX9_undo cX9_undo 1 (some .int) (zr 0 0) false N N h [.ref (zo w + a)] (some (.int r.1)) (zu h a [(0, .inr (9, [.int r.2.1, .ref (zo w + (a + 1)), .ref (zo w + (a + 2)), .ref (zo w + (a + 3)), .int r.2.2.1, .int r.2.2.2, .ref (zo w + (a + 4)), .int m_bytes, .int m_errorAt, .int m_size, .int m_next, .int m_error, .int m_place, .int m_began, .int m_nested, .int m_once, .ref (zo w + (a + 5))]))]) := by
  unfold f_X9_undo at hf
  refine zM_of (by decide) rfl (fun X C _ => ?_)
  refine z_eq (h' := (zu h a [(0, .inr (9, [.int m_thrown, .ref (zo w + (a + 1)), .ref (zo w + (a + 2)), .ref (zo w + (a + 3)), .int m_now, .int m_undoable, .ref (zo w + (a + 4)), .int m_bytes, .int m_errorAt, .int m_size, .int m_next, .int m_error, .int m_place, .int m_began, .int m_nested, .int m_once, .ref (zo w + (a + 5))]))])) (zu_s h_a0 zu_0).symm ?_
  have n_a0 := h_a0.1
  refine z_pick (lv' := [(0, .ref (zo w + a))]) [0] rfl ?_
  refine z_aload_n (pc' := 1) C 0 dX9_undo_0 rfl rfl rfl ?_
  refine z_iconst (pc' := 2) C dX9_undo_1 zk_iconst_0 rfl ?_
  refine z_putf (pc' := 5) C zci_9 zw_1184 (j := 0) rfl (zc_i (o := 0) n_a0 rfl) (fs' := [.int (0 : Int32), .ref (zo w + (a + 1)), .ref (zo w + (a + 2)), .ref (zo w + (a + 3)), .int m_now, .int m_undoable, .ref (zo w + (a + 4)), .int m_bytes, .int m_errorAt, .int m_size, .int m_next, .int m_error, .int m_place, .int m_began, .int m_nested, .int m_once, .ref (zo w + (a + 5))]) rfl rfl rfl rfl rfl (zu_put (o := 0) (L' := [(0, .inr (9, [.int (0 : Int32), .ref (zo w + (a + 1)), .ref (zo w + (a + 2)), .ref (zo w + (a + 3)), .int m_now, .int m_undoable, .ref (zo w + (a + 4)), .int m_bytes, .int m_errorAt, .int m_size, .int m_next, .int m_error, .int m_place, .int m_began, .int m_nested, .int m_once, .ref (zo w + (a + 5))]))]) rfl) dX9_undo_2 rfl ?_
  refine z_aload_n (pc' := 6) C 0 dX9_undo_5 rfl rfl rfl ?_
  refine z_getf (pc' := 9) C zci_9 zw_1189 (j := 5) rfl (zc_i (o := 0) n_a0 rfl) rfl rfl dX9_undo_6 rfl ?_
  refine z_if_ne (pc' := 12) C 14 hf dX9_undo_9 rfl rfl (fun g_9 hf => ?_) (fun g_9 hf => ?_)
  · refine z_aload_n (pc' := 15) C 0 dX9_undo_14 rfl rfl rfl ?_
    refine z_dup (pc' := 16) C dX9_undo_15 rfl rfl ?_
    refine z_getf (pc' := 19) C zci_9 zw_1189 (j := 5) rfl (zc_i (o := 0) n_a0 rfl) rfl rfl dX9_undo_16 rfl ?_
    refine z_iconst (pc' := 20) C dX9_undo_19 zk_iconst_1 rfl ?_
    refine z_isub (pc' := 21) C dX9_undo_20 rfl ?_
    refine z_putf (pc' := 24) C zci_9 zw_1189 (j := 5) rfl (zc_i (o := 0) n_a0 rfl) (fs' := [.int (0 : Int32), .ref (zo w + (a + 1)), .ref (zo w + (a + 2)), .ref (zo w + (a + 3)), .int m_now, .int (m_undoable - (1 : Int32)), .ref (zo w + (a + 4)), .int m_bytes, .int m_errorAt, .int m_size, .int m_next, .int m_error, .int m_place, .int m_began, .int m_nested, .int m_once, .ref (zo w + (a + 5))]) rfl rfl rfl rfl rfl (zu_put (o := 0) (L' := [(0, .inr (9, [.int (0 : Int32), .ref (zo w + (a + 1)), .ref (zo w + (a + 2)), .ref (zo w + (a + 3)), .int m_now, .int (m_undoable - (1 : Int32)), .ref (zo w + (a + 4)), .int m_bytes, .int m_errorAt, .int m_size, .int m_next, .int m_error, .int m_place, .int m_began, .int m_nested, .int m_once, .ref (zo w + (a + 5))]))]) rfl) dX9_undo_21 rfl ?_
    refine z_aload_n (pc' := 25) C 0 dX9_undo_24 rfl rfl rfl ?_
    refine z_aload_n (pc' := 26) C 0 dX9_undo_25 rfl rfl rfl ?_
    refine z_getf (pc' := 29) C zci_9 zw_1188 (j := 4) rfl (zc_i (o := 0) n_a0 rfl) rfl rfl dX9_undo_26 rfl ?_
    refine z_bipush (pc' := 31) C dX9_undo_29 zk_bipush_9 rfl ?_
    refine z_iadd (pc' := 32) C dX9_undo_31 rfl ?_
    refine z_iconst (pc' := 33) C dX9_undo_32 zk_iconst_1 rfl ?_
    refine z_isub (pc' := 34) C dX9_undo_33 rfl ?_
    refine z_bipush (pc' := 36) C dX9_undo_34 zk_bipush_9 rfl ?_
    refine z_irem (pc' := 37) C dX9_undo_36 (by decide) rfl ?_
    refine z_putf (pc' := 40) C zci_9 zw_1188 (j := 4) rfl (zc_i (o := 0) n_a0 rfl) (fs' := [.int (0 : Int32), .ref (zo w + (a + 1)), .ref (zo w + (a + 2)), .ref (zo w + (a + 3)), .int (((m_now + (9 : Int32)) - (1 : Int32)) - ((m_now + (9 : Int32)) - (1 : Int32)) / (9 : Int32) * (9 : Int32)), .int (m_undoable - (1 : Int32)), .ref (zo w + (a + 4)), .int m_bytes, .int m_errorAt, .int m_size, .int m_next, .int m_error, .int m_place, .int m_began, .int m_nested, .int m_once, .ref (zo w + (a + 5))]) rfl rfl rfl rfl rfl (zu_put (o := 0) (L' := [(0, .inr (9, [.int (0 : Int32), .ref (zo w + (a + 1)), .ref (zo w + (a + 2)), .ref (zo w + (a + 3)), .int (((m_now + (9 : Int32)) - (1 : Int32)) - ((m_now + (9 : Int32)) - (1 : Int32)) / (9 : Int32) * (9 : Int32)), .int (m_undoable - (1 : Int32)), .ref (zo w + (a + 4)), .int m_bytes, .int m_errorAt, .int m_size, .int m_next, .int m_error, .int m_place, .int m_began, .int m_nested, .int m_once, .ref (zo w + (a + 5))]))]) rfl) dX9_undo_37 rfl ?_
    refine z_aload_n (pc' := 41) C 0 dX9_undo_40 rfl rfl rfl ?_
    refine z_getf (pc' := 44) C zci_9 zw_1189 (j := 5) rfl (zc_i (o := 0) n_a0 rfl) rfl rfl dX9_undo_41 rfl ?_
    cases hf
    exact z_iret C rfl rfl dX9_undo_44
  · refine z_iconst (pc' := 13) C dX9_undo_12 zk_iconst_m1 rfl ?_
    cases hf
    exact z_iret C rfl rfl dX9_undo_13
set_option maxRecDepth 20000 in
theorem w_X9_checksum_134 {X : zC} {w : zV} {N : Nat} {h : zH} {a : Nat} {m_next : Int32} {m_error : Int32} {m_place : Int32} {m_began : Int32} {m_nested : Int32} {m_once : Int32} {m_now : Int32} {m_undoable : Int32} {m_bytes : Int32} {m_errorAt : Int32} {m_size : Int32} {m_rows : Nat → Int64} (C : zK X w RX9 cX9_checksum 4 (some .long) (zr 7 229)) (n_a0 : a + 0 < N) (h_a1 : zc N h (a + 1) (.inl (w.2.2.1 1, 22500, .inr (.inl m_rows)))) (n_a5 : a + 5 < N) {r : Int64 × Int32 × (Nat → Int64)} (n : Nat) : ∀ {m_thrown : Int32} {m_pile : Nat → Int64} {x1 : Int64} {x3 : Int32}, f_X9_checksum_134  n m_thrown m_now m_rows m_pile x1 x3 = some r → zZ X w (zQ X w (zr 7 229) (some (.long r.1)) false N (zu h a [(0, .inr (9, [.int r.2.1, .ref (zo w + (a + 1)), .ref (zo w + (a + 2)), .ref (zo w + (a + 3)), .int m_now, .int m_undoable, .ref (zo w + (a + 4)), .int m_bytes, .int m_errorAt, .int m_size, .int m_next, .int m_error, .int m_place, .int m_began, .int m_nested, .int m_once, .ref (zo w + (a + 5))])), (5, .inl (w.2.2.1 1, 128, .inr (.inl r.2.2)))])) 0 0 false N (zu h a [(0, .inr (9, [.int m_thrown, .ref (zo w + (a + 1)), .ref (zo w + (a + 2)), .ref (zo w + (a + 3)), .int m_now, .int m_undoable, .ref (zo w + (a + 4)), .int m_bytes, .int m_errorAt, .int m_size, .int m_next, .int m_error, .int m_place, .int m_began, .int m_nested, .int m_once, .ref (zo w + (a + 5))])), (5, .inl (w.2.2.1 1, 128, .inr (.inl m_pile)))]) 134 [(0, .ref (zo w + a)), (1, .long x1), (3, .int x3)] [] := by
  induction n with
  | zero =>
    intro m_thrown m_pile x1 x3 hf
    have hf : (none : Option (Int64 × Int32 × (Nat → Int64))) = some r := hf
    cases hf
  | succ z ih =>
    intro m_thrown m_pile x1 x3 hf
    rw [f_X9_checksum_134] at hf
    refine z_iload_n (pc' := 135) C 2 dX9_checksum_134 rfl rfl rfl ?_
    refine z_i2l (pc' := 136) C dX9_checksum_135 rfl ?_
    refine z_aload_n (pc' := 137) C 0 dX9_checksum_136 rfl rfl rfl ?_
    refine z_bipush (pc' := 139) C dX9_checksum_137 zk_bipush_6 rfl ?_
    refine z_cV (pc' := 142) C hf (As := [.int (6 : Int32)]) (fun hq => c_X9_get (a := a) (zc_i (o := 0) n_a0 rfl) (zc_o (o := 1) h_a1 rfl) hq) (fun _ => (zu h a [(0, .inr (9, [.int m_thrown, .ref (zo w + (a + 1)), .ref (zo w + (a + 2)), .ref (zo w + (a + 3)), .int m_now, .int m_undoable, .ref (zo w + (a + 4)), .int m_bytes, .int m_errorAt, .int m_size, .int m_next, .int m_error, .int m_place, .int m_began, .int m_nested, .int m_once, .ref (zo w + (a + 5))])), (5, .inl (w.2.2.1 1, 128, .inr (.inl m_pile)))])) (fun q_139 => [.long q_139, .long (x3).toInt64]) (fun _ => rfl) (fun _ => rfl) zy_X9_get zw_1349 zw_1351 zv_43 (ci := 9) rfl (zc_i (o := 0) n_a0 rfl) ⟨rfl, rfl⟩ rfl rfl rfl rfl rfl dX9_checksum_139 rfl (fun q_139 hf => ?_)
    refine z_lcmp_ge (pc' := 146) C 164 hf dX9_checksum_142 rfl dX9_checksum_143 rfl rfl (fun g_142 hf => ?_) (fun g_142 hf => ?_)
    · refine z_ldc2 (pc' := 167) C zw_1715 dX9_checksum_164 rfl ?_
      refine z_lload_n (pc' := 168) C 1 dX9_checksum_167 rfl rfl rfl ?_
      refine z_lmul (pc' := 169) C dX9_checksum_168 rfl ?_
      refine z_aload_n (pc' := 170) C 0 dX9_checksum_169 rfl rfl rfl ?_
      refine z_iconst (pc' := 171) C dX9_checksum_170 zk_iconst_4 rfl ?_
      refine z_cV (pc' := 174) C hf (As := [.int (4 : Int32)]) (fun hq => c_X9_get (a := a) (zc_i (o := 0) n_a0 rfl) (zc_o (o := 1) h_a1 rfl) hq) (fun _ => (zu h a [(0, .inr (9, [.int m_thrown, .ref (zo w + (a + 1)), .ref (zo w + (a + 2)), .ref (zo w + (a + 3)), .int m_now, .int m_undoable, .ref (zo w + (a + 4)), .int m_bytes, .int m_errorAt, .int m_size, .int m_next, .int m_error, .int m_place, .int m_began, .int m_nested, .int m_once, .ref (zo w + (a + 5))])), (5, .inl (w.2.2.1 1, 128, .inr (.inl m_pile)))])) (fun q_171 => [.long q_171, .long ((31 : Int64) * x1)]) (fun _ => rfl) (fun _ => rfl) zy_X9_get zw_1349 zw_1351 zv_43 (ci := 9) rfl (zc_i (o := 0) n_a0 rfl) ⟨rfl, rfl⟩ rfl rfl rfl rfl rfl dX9_checksum_171 rfl (fun q_171 hf => ?_)
      refine z_ladd (pc' := 175) C dX9_checksum_174 rfl ?_
      cases hf
      exact z_lret C rfl rfl dX9_checksum_175
    · refine z_ldc2 (pc' := 149) C zw_1715 dX9_checksum_146 rfl ?_
      refine z_lload_n (pc' := 150) C 1 dX9_checksum_149 rfl rfl rfl ?_
      refine z_lmul (pc' := 151) C dX9_checksum_150 rfl ?_
      refine z_aload_n (pc' := 152) C 0 dX9_checksum_151 rfl rfl rfl ?_
      refine z_iload_n (pc' := 153) C 2 dX9_checksum_152 rfl rfl rfl ?_
      refine z_cV (pc' := 156) C hf (As := [.int x3]) (fun hq => c_X9_claimOf (a := a) (zc_i (o := 0) n_a0 rfl) (zc_o (o := 1) h_a1 rfl) hq) (fun _ => (zu h a [(0, .inr (9, [.int m_thrown, .ref (zo w + (a + 1)), .ref (zo w + (a + 2)), .ref (zo w + (a + 3)), .int m_now, .int m_undoable, .ref (zo w + (a + 4)), .int m_bytes, .int m_errorAt, .int m_size, .int m_next, .int m_error, .int m_place, .int m_began, .int m_nested, .int m_once, .ref (zo w + (a + 5))])), (5, .inl (w.2.2.1 1, 128, .inr (.inl m_pile)))])) (fun q_153 => [.long q_153, .long ((31 : Int64) * x1)]) (fun _ => rfl) (fun _ => rfl) zy_X9_claimOf zw_1606 zw_1608 zv_73 (ci := 9) rfl (zc_i (o := 0) n_a0 rfl) ⟨rfl, rfl⟩ rfl rfl rfl rfl rfl dX9_checksum_153 rfl (fun q_153 hf => ?_)
      refine z_ladd (pc' := 157) C dX9_checksum_156 rfl ?_
      refine z_lstore_n (pc' := 158) C [(1, .long (((31 : Int64) * x1) + q_153)), (0, .ref (zo w + a)), (3, .int x3)] dX9_checksum_157 rfl rfl rfl rfl ?_
      refine z_iinc (pc' := 161) C 2 [(3, .int (x3 + (1 : Int32))), (1, .long (((31 : Int64) * x1) + q_153)), (0, .ref (zo w + a))] dX9_checksum_158 rfl zk_iconst_1 rfl rfl rfl ?_
      refine z_goto C 134 dX9_checksum_161 rfl ?_
      refine z_pick (lv' := [(0, .ref (zo w + a)), (1, .long (((31 : Int64) * x1) + q_153)), (3, .int (x3 + (1 : Int32)))]) [2, 1, 0] rfl ?_
      exact ih hf
set_option maxRecDepth 20000 in
theorem w_X9_checksum_103 {X : zC} {w : zV} {N : Nat} {h : zH} {a : Nat} {m_next : Int32} {m_error : Int32} {m_place : Int32} {m_began : Int32} {m_nested : Int32} {m_once : Int32} {m_now : Int32} {m_undoable : Int32} {m_bytes : Int32} {m_errorAt : Int32} {m_size : Int32} {m_rows : Nat → Int64} (C : zK X w RX9 cX9_checksum 4 (some .long) (zr 7 229)) (n_a0 : a + 0 < N) (h_a1 : zc N h (a + 1) (.inl (w.2.2.1 1, 22500, .inr (.inl m_rows)))) (n_a5 : a + 5 < N) {r : Int64 × Int32 × (Nat → Int64)} (n : Nat) : ∀ {m_thrown : Int32} {m_pile : Nat → Int64} {x1 : Int64} {x3 : Int32}, f_X9_checksum_103  n m_thrown m_now m_rows m_pile x1 x3 = some r → zZ X w (zQ X w (zr 7 229) (some (.long r.1)) false N (zu h a [(0, .inr (9, [.int r.2.1, .ref (zo w + (a + 1)), .ref (zo w + (a + 2)), .ref (zo w + (a + 3)), .int m_now, .int m_undoable, .ref (zo w + (a + 4)), .int m_bytes, .int m_errorAt, .int m_size, .int m_next, .int m_error, .int m_place, .int m_began, .int m_nested, .int m_once, .ref (zo w + (a + 5))])), (5, .inl (w.2.2.1 1, 128, .inr (.inl r.2.2)))])) 0 0 false N (zu h a [(0, .inr (9, [.int m_thrown, .ref (zo w + (a + 1)), .ref (zo w + (a + 2)), .ref (zo w + (a + 3)), .int m_now, .int m_undoable, .ref (zo w + (a + 4)), .int m_bytes, .int m_errorAt, .int m_size, .int m_next, .int m_error, .int m_place, .int m_began, .int m_nested, .int m_once, .ref (zo w + (a + 5))])), (5, .inl (w.2.2.1 1, 128, .inr (.inl m_pile)))]) 103 [(0, .ref (zo w + a)), (1, .long x1), (3, .int x3)] [] := by
  induction n with
  | zero =>
    intro m_thrown m_pile x1 x3 hf
    have hf : (none : Option (Int64 × Int32 × (Nat → Int64))) = some r := hf
    cases hf
  | succ z ih =>
    intro m_thrown m_pile x1 x3 hf
    rw [f_X9_checksum_103] at hf
    refine z_iload_n (pc' := 104) C 2 dX9_checksum_103 rfl rfl rfl ?_
    refine z_i2l (pc' := 105) C dX9_checksum_104 rfl ?_
    refine z_aload_n (pc' := 106) C 0 dX9_checksum_105 rfl rfl rfl ?_
    refine z_iconst (pc' := 107) C dX9_checksum_106 zk_iconst_5 rfl ?_
    refine z_cV (pc' := 110) C hf (As := [.int (5 : Int32)]) (fun hq => c_X9_get (a := a) (zc_i (o := 0) n_a0 rfl) (zc_o (o := 1) h_a1 rfl) hq) (fun _ => (zu h a [(0, .inr (9, [.int m_thrown, .ref (zo w + (a + 1)), .ref (zo w + (a + 2)), .ref (zo w + (a + 3)), .int m_now, .int m_undoable, .ref (zo w + (a + 4)), .int m_bytes, .int m_errorAt, .int m_size, .int m_next, .int m_error, .int m_place, .int m_began, .int m_nested, .int m_once, .ref (zo w + (a + 5))])), (5, .inl (w.2.2.1 1, 128, .inr (.inl m_pile)))])) (fun q_107 => [.long q_107, .long (x3).toInt64]) (fun _ => rfl) (fun _ => rfl) zy_X9_get zw_1349 zw_1351 zv_43 (ci := 9) rfl (zc_i (o := 0) n_a0 rfl) ⟨rfl, rfl⟩ rfl rfl rfl rfl rfl dX9_checksum_107 rfl (fun q_107 hf => ?_)
    refine z_lcmp_ge (pc' := 114) C 132 hf dX9_checksum_110 rfl dX9_checksum_111 rfl rfl (fun g_110 hf => ?_) (fun g_110 hf => ?_)
    · refine z_iconst (pc' := 133) C dX9_checksum_132 zk_iconst_0 rfl ?_
      refine z_istore_n (pc' := 134) C [(3, .int (0 : Int32)), (0, .ref (zo w + a)), (1, .long x1)] dX9_checksum_133 rfl rfl rfl rfl ?_
      refine z_pick (lv' := [(0, .ref (zo w + a)), (1, .long x1), (3, .int (0 : Int32))]) [1, 2, 0] rfl ?_
      exact w_X9_checksum_134 C n_a0 h_a1 n_a5  FU hf
    · refine z_ldc2 (pc' := 117) C zw_1715 dX9_checksum_114 rfl ?_
      refine z_lload_n (pc' := 118) C 1 dX9_checksum_117 rfl rfl rfl ?_
      refine z_lmul (pc' := 119) C dX9_checksum_118 rfl ?_
      refine z_aload_n (pc' := 120) C 0 dX9_checksum_119 rfl rfl rfl ?_
      refine z_iload_n (pc' := 121) C 2 dX9_checksum_120 rfl rfl rfl ?_
      refine z_cV (pc' := 124) C hf (As := [.int x3]) (fun hq => c_X9_openOf (a := a) (zc_i (o := 0) n_a0 rfl) (zc_o (o := 1) h_a1 rfl) hq) (fun _ => (zu h a [(0, .inr (9, [.int m_thrown, .ref (zo w + (a + 1)), .ref (zo w + (a + 2)), .ref (zo w + (a + 3)), .int m_now, .int m_undoable, .ref (zo w + (a + 4)), .int m_bytes, .int m_errorAt, .int m_size, .int m_next, .int m_error, .int m_place, .int m_began, .int m_nested, .int m_once, .ref (zo w + (a + 5))])), (5, .inl (w.2.2.1 1, 128, .inr (.inl m_pile)))])) (fun q_121 => [.long q_121, .long ((31 : Int64) * x1)]) (fun _ => rfl) (fun _ => rfl) zy_X9_openOf zw_1509 zw_1511 zv_63 (ci := 9) rfl (zc_i (o := 0) n_a0 rfl) ⟨rfl, rfl⟩ rfl rfl rfl rfl rfl dX9_checksum_121 rfl (fun q_121 hf => ?_)
      refine z_ladd (pc' := 125) C dX9_checksum_124 rfl ?_
      refine z_lstore_n (pc' := 126) C [(1, .long (((31 : Int64) * x1) + q_121)), (0, .ref (zo w + a)), (3, .int x3)] dX9_checksum_125 rfl rfl rfl rfl ?_
      refine z_iinc (pc' := 129) C 2 [(3, .int (x3 + (1 : Int32))), (1, .long (((31 : Int64) * x1) + q_121)), (0, .ref (zo w + a))] dX9_checksum_126 rfl zk_iconst_1 rfl rfl rfl ?_
      refine z_goto C 103 dX9_checksum_129 rfl ?_
      refine z_pick (lv' := [(0, .ref (zo w + a)), (1, .long (((31 : Int64) * x1) + q_121)), (3, .int (x3 + (1 : Int32)))]) [2, 1, 0] rfl ?_
      exact ih hf
set_option maxRecDepth 20000 in
theorem w_X9_checksum_26 {X : zC} {w : zV} {N : Nat} {h : zH} {a : Nat} {m_next : Int32} {m_error : Int32} {m_place : Int32} {m_began : Int32} {m_nested : Int32} {m_once : Int32} {m_now : Int32} {m_undoable : Int32} {m_bytes : Int32} {m_errorAt : Int32} {m_size : Int32} {m_rows : Nat → Int64} (C : zK X w RX9 cX9_checksum 4 (some .long) (zr 7 229)) (n_a0 : a + 0 < N) (h_a1 : zc N h (a + 1) (.inl (w.2.2.1 1, 22500, .inr (.inl m_rows)))) (n_a5 : a + 5 < N) {r : Int64 × Int32 × (Nat → Int64)} (n : Nat) : ∀ {m_thrown : Int32} {m_pile : Nat → Int64} {x1 : Int64} {x3 : Int32}, f_X9_checksum_26  n m_thrown m_now m_rows m_pile x1 x3 = some r → zZ X w (zQ X w (zr 7 229) (some (.long r.1)) false N (zu h a [(0, .inr (9, [.int r.2.1, .ref (zo w + (a + 1)), .ref (zo w + (a + 2)), .ref (zo w + (a + 3)), .int m_now, .int m_undoable, .ref (zo w + (a + 4)), .int m_bytes, .int m_errorAt, .int m_size, .int m_next, .int m_error, .int m_place, .int m_began, .int m_nested, .int m_once, .ref (zo w + (a + 5))])), (5, .inl (w.2.2.1 1, 128, .inr (.inl r.2.2)))])) 0 0 false N (zu h a [(0, .inr (9, [.int m_thrown, .ref (zo w + (a + 1)), .ref (zo w + (a + 2)), .ref (zo w + (a + 3)), .int m_now, .int m_undoable, .ref (zo w + (a + 4)), .int m_bytes, .int m_errorAt, .int m_size, .int m_next, .int m_error, .int m_place, .int m_began, .int m_nested, .int m_once, .ref (zo w + (a + 5))])), (5, .inl (w.2.2.1 1, 128, .inr (.inl m_pile)))]) 26 [(0, .ref (zo w + a)), (1, .long x1), (3, .int x3)] [] := by
  induction n with
  | zero =>
    intro m_thrown m_pile x1 x3 hf
    have hf : (none : Option (Int64 × Int32 × (Nat → Int64))) = some r := hf
    cases hf
  | succ z ih =>
    intro m_thrown m_pile x1 x3 hf
    rw [f_X9_checksum_26] at hf
    refine z_iload_n (pc' := 27) C 2 dX9_checksum_26 rfl rfl rfl ?_
    refine z_i2l (pc' := 28) C dX9_checksum_27 rfl ?_
    refine z_aload_n (pc' := 29) C 0 dX9_checksum_28 rfl rfl rfl ?_
    refine z_iconst (pc' := 30) C dX9_checksum_29 zk_iconst_0 rfl ?_
    refine z_cV (pc' := 33) C hf (As := [.int (0 : Int32)]) (fun hq => c_X9_get (a := a) (zc_i (o := 0) n_a0 rfl) (zc_o (o := 1) h_a1 rfl) hq) (fun _ => (zu h a [(0, .inr (9, [.int m_thrown, .ref (zo w + (a + 1)), .ref (zo w + (a + 2)), .ref (zo w + (a + 3)), .int m_now, .int m_undoable, .ref (zo w + (a + 4)), .int m_bytes, .int m_errorAt, .int m_size, .int m_next, .int m_error, .int m_place, .int m_began, .int m_nested, .int m_once, .ref (zo w + (a + 5))])), (5, .inl (w.2.2.1 1, 128, .inr (.inl m_pile)))])) (fun q_30 => [.long q_30, .long (x3).toInt64]) (fun _ => rfl) (fun _ => rfl) zy_X9_get zw_1349 zw_1351 zv_43 (ci := 9) rfl (zc_i (o := 0) n_a0 rfl) ⟨rfl, rfl⟩ rfl rfl rfl rfl rfl dX9_checksum_30 rfl (fun q_30 hf => ?_)
    refine z_lcmp_ge (pc' := 37) C 101 hf dX9_checksum_33 rfl dX9_checksum_34 rfl rfl (fun g_33 hf => ?_) (fun g_33 hf => ?_)
    · refine z_iconst (pc' := 102) C dX9_checksum_101 zk_iconst_0 rfl ?_
      refine z_istore_n (pc' := 103) C [(3, .int (0 : Int32)), (0, .ref (zo w + a)), (1, .long x1)] dX9_checksum_102 rfl rfl rfl rfl ?_
      refine z_pick (lv' := [(0, .ref (zo w + a)), (1, .long x1), (3, .int (0 : Int32))]) [1, 2, 0] rfl ?_
      exact w_X9_checksum_103 C n_a0 h_a1 n_a5  FU hf
    · refine z_ldc2 (pc' := 40) C zw_1715 dX9_checksum_37 rfl ?_
      refine z_lload_n (pc' := 41) C 1 dX9_checksum_40 rfl rfl rfl ?_
      refine z_lmul (pc' := 42) C dX9_checksum_41 rfl ?_
      refine z_aload_n (pc' := 43) C 0 dX9_checksum_42 rfl rfl rfl ?_
      refine z_bipush (pc' := 45) C dX9_checksum_43 zk_bipush_9 rfl ?_
      refine z_iload_n (pc' := 46) C 2 dX9_checksum_45 rfl rfl rfl ?_
      refine z_iadd (pc' := 47) C dX9_checksum_46 rfl ?_
      refine z_cV (pc' := 50) C hf (As := [.int ((9 : Int32) + x3)]) (fun hq => c_X9_get (a := a) (zc_i (o := 0) n_a0 rfl) (zc_o (o := 1) h_a1 rfl) hq) (fun _ => (zu h a [(0, .inr (9, [.int m_thrown, .ref (zo w + (a + 1)), .ref (zo w + (a + 2)), .ref (zo w + (a + 3)), .int m_now, .int m_undoable, .ref (zo w + (a + 4)), .int m_bytes, .int m_errorAt, .int m_size, .int m_next, .int m_error, .int m_place, .int m_began, .int m_nested, .int m_once, .ref (zo w + (a + 5))])), (5, .inl (w.2.2.1 1, 128, .inr (.inl m_pile)))])) (fun q_47 => [.long q_47, .long ((31 : Int64) * x1)]) (fun _ => rfl) (fun _ => rfl) zy_X9_get zw_1349 zw_1351 zv_43 (ci := 9) rfl (zc_i (o := 0) n_a0 rfl) ⟨rfl, rfl⟩ rfl rfl rfl rfl rfl dX9_checksum_47 rfl (fun q_47 hf => ?_)
      refine z_ladd (pc' := 51) C dX9_checksum_50 rfl ?_
      refine z_lstore_n (pc' := 52) C [(1, .long (((31 : Int64) * x1) + q_47)), (0, .ref (zo w + a)), (3, .int x3)] dX9_checksum_51 rfl rfl rfl rfl ?_
      refine z_ldc2 (pc' := 55) C zw_1715 dX9_checksum_52 rfl ?_
      refine z_lload_n (pc' := 56) C 0 dX9_checksum_55 rfl rfl rfl ?_
      refine z_lmul (pc' := 57) C dX9_checksum_56 rfl ?_
      refine z_aload_n (pc' := 58) C 1 dX9_checksum_57 rfl rfl rfl ?_
      refine z_aload_n (pc' := 59) C 1 dX9_checksum_58 rfl rfl rfl ?_
      refine z_iload_n (pc' := 60) C 2 dX9_checksum_59 rfl rfl rfl ?_
      refine z_cV (pc' := 63) C hf (As := [.int x3]) (fun hq => c_X9_at (a := a)  hq) (fun _ => (zu h a [(0, .inr (9, [.int m_thrown, .ref (zo w + (a + 1)), .ref (zo w + (a + 2)), .ref (zo w + (a + 3)), .int m_now, .int m_undoable, .ref (zo w + (a + 4)), .int m_bytes, .int m_errorAt, .int m_size, .int m_next, .int m_error, .int m_place, .int m_began, .int m_nested, .int m_once, .ref (zo w + (a + 5))])), (5, .inl (w.2.2.1 1, 128, .inr (.inl m_pile)))])) (fun q_60 => [.int q_60, .ref (zo w + a), .long ((31 : Int64) * (((31 : Int64) * x1) + q_47))]) (fun _ => rfl) (fun _ => rfl) zy_X9_at zw_1381 zw_1383 zv_47 (ci := 9) rfl (zc_i (o := 0) n_a0 rfl) ⟨rfl, rfl⟩ rfl rfl rfl rfl rfl dX9_checksum_60 rfl (fun q_60 hf => ?_)
      refine z_bipush (pc' := 65) C dX9_checksum_63 zk_bipush_6 rfl ?_
      refine z_iadd (pc' := 66) C dX9_checksum_65 rfl ?_
      refine z_cV (pc' := 69) C hf (As := [.int (q_60 + (6 : Int32))]) (fun hq => c_X9_get (a := a) (zc_i (o := 0) n_a0 rfl) (zc_o (o := 1) h_a1 rfl) hq) (fun _ => (zu h a [(0, .inr (9, [.int m_thrown, .ref (zo w + (a + 1)), .ref (zo w + (a + 2)), .ref (zo w + (a + 3)), .int m_now, .int m_undoable, .ref (zo w + (a + 4)), .int m_bytes, .int m_errorAt, .int m_size, .int m_next, .int m_error, .int m_place, .int m_began, .int m_nested, .int m_once, .ref (zo w + (a + 5))])), (5, .inl (w.2.2.1 1, 128, .inr (.inl m_pile)))])) (fun q_66 => [.long q_66, .long ((31 : Int64) * (((31 : Int64) * x1) + q_47))]) (fun _ => rfl) (fun _ => rfl) zy_X9_get zw_1349 zw_1351 zv_43 (ci := 9) rfl (zc_i (o := 0) n_a0 rfl) ⟨rfl, rfl⟩ rfl rfl rfl rfl rfl dX9_checksum_66 rfl (fun q_66 hf => ?_)
      refine z_ladd (pc' := 70) C dX9_checksum_69 rfl ?_
      refine z_lstore_n (pc' := 71) C [(1, .long (((31 : Int64) * (((31 : Int64) * x1) + q_47)) + q_66)), (0, .ref (zo w + a)), (3, .int x3)] dX9_checksum_70 rfl rfl rfl rfl ?_
      refine z_ldc2 (pc' := 74) C zw_1715 dX9_checksum_71 rfl ?_
      refine z_lload_n (pc' := 75) C 0 dX9_checksum_74 rfl rfl rfl ?_
      refine z_lmul (pc' := 76) C dX9_checksum_75 rfl ?_
      refine z_aload_n (pc' := 77) C 1 dX9_checksum_76 rfl rfl rfl ?_
      refine z_iload_n (pc' := 78) C 2 dX9_checksum_77 rfl rfl rfl ?_
      refine z_cV (pc' := 81) C hf (As := [.int x3]) (fun hq => c_X9_grossOf (a := a) (zc_i (o := 0) n_a0 rfl) (zc_o (o := 1) h_a1 rfl) (zc_i (o := 5) n_a5 rfl) hq) (fun q_78 => (zu h a [(0, .inr (9, [.int m_thrown, .ref (zo w + (a + 1)), .ref (zo w + (a + 2)), .ref (zo w + (a + 3)), .int m_now, .int m_undoable, .ref (zo w + (a + 4)), .int m_bytes, .int m_errorAt, .int m_size, .int m_next, .int m_error, .int m_place, .int m_began, .int m_nested, .int m_once, .ref (zo w + (a + 5))])), (5, .inl (w.2.2.1 1, 128, .inr (.inl q_78.2)))])) (fun q_78 => [.long q_78.1, .long ((31 : Int64) * (((31 : Int64) * (((31 : Int64) * x1) + q_47)) + q_66))]) (fun _ => zu_sh (d := 0) rfl rfl) (fun _ => rfl) zy_X9_grossOf zw_1461 zw_1463 zv_58 (ci := 9) rfl (zc_i (o := 0) n_a0 rfl) ⟨rfl, rfl⟩ rfl rfl rfl rfl rfl dX9_checksum_78 rfl (fun q_78 hf => ?_)
      refine z_ladd (pc' := 82) C dX9_checksum_81 rfl ?_
      refine z_lstore_n (pc' := 83) C [(1, .long (((31 : Int64) * (((31 : Int64) * (((31 : Int64) * x1) + q_47)) + q_66)) + q_78.1)), (0, .ref (zo w + a)), (3, .int x3)] dX9_checksum_82 rfl rfl rfl rfl ?_
      refine z_ldc2 (pc' := 86) C zw_1715 dX9_checksum_83 rfl ?_
      refine z_lload_n (pc' := 87) C 0 dX9_checksum_86 rfl rfl rfl ?_
      refine z_lmul (pc' := 88) C dX9_checksum_87 rfl ?_
      refine z_aload_n (pc' := 89) C 1 dX9_checksum_88 rfl rfl rfl ?_
      refine z_iload_n (pc' := 90) C 2 dX9_checksum_89 rfl rfl rfl ?_
      refine z_cV (pc' := 93) C hf (As := [.int x3]) (fun hq => c_X9_certifiedOf (a := a) (zc_i (o := 0) n_a0 rfl) (zc_o (o := 1) h_a1 rfl) hq) (fun _ => (zu h a [(0, .inr (9, [.int m_thrown, .ref (zo w + (a + 1)), .ref (zo w + (a + 2)), .ref (zo w + (a + 3)), .int m_now, .int m_undoable, .ref (zo w + (a + 4)), .int m_bytes, .int m_errorAt, .int m_size, .int m_next, .int m_error, .int m_place, .int m_began, .int m_nested, .int m_once, .ref (zo w + (a + 5))])), (5, .inl (w.2.2.1 1, 128, .inr (.inl q_78.2)))])) (fun q_90 => [.long q_90, .long ((31 : Int64) * (((31 : Int64) * (((31 : Int64) * (((31 : Int64) * x1) + q_47)) + q_66)) + q_78.1))]) (fun _ => rfl) (fun _ => rfl) zy_X9_certifiedOf zw_1490 zw_1492 zv_60 (ci := 9) rfl (zc_i (o := 0) n_a0 rfl) ⟨rfl, rfl⟩ rfl rfl rfl rfl rfl dX9_checksum_90 rfl (fun q_90 hf => ?_)
      refine z_ladd (pc' := 94) C dX9_checksum_93 rfl ?_
      refine z_lstore_n (pc' := 95) C [(1, .long (((31 : Int64) * (((31 : Int64) * (((31 : Int64) * (((31 : Int64) * x1) + q_47)) + q_66)) + q_78.1)) + q_90)), (0, .ref (zo w + a)), (3, .int x3)] dX9_checksum_94 rfl rfl rfl rfl ?_
      refine z_iinc (pc' := 98) C 2 [(3, .int (x3 + (1 : Int32))), (1, .long (((31 : Int64) * (((31 : Int64) * (((31 : Int64) * (((31 : Int64) * x1) + q_47)) + q_66)) + q_78.1)) + q_90)), (0, .ref (zo w + a))] dX9_checksum_95 rfl zk_iconst_1 rfl rfl rfl ?_
      refine z_goto C 26 dX9_checksum_98 rfl ?_
      refine z_pick (lv' := [(0, .ref (zo w + a)), (1, .long (((31 : Int64) * (((31 : Int64) * (((31 : Int64) * (((31 : Int64) * x1) + q_47)) + q_66)) + q_78.1)) + q_90)), (3, .int (x3 + (1 : Int32)))]) [2, 1, 0] rfl ?_
      exact ih hf
set_option maxRecDepth 20000 in
theorem c_X9_checksum {w : zV} {N : Nat} {h : zH} {a : Nat} {m_thrown : Int32} {m_next : Int32} {m_error : Int32} {m_place : Int32} {m_began : Int32} {m_nested : Int32} {m_once : Int32} {m_now : Int32} {m_undoable : Int32} {m_bytes : Int32} {m_errorAt : Int32} {m_size : Int32} {m_rows : Nat → Int64} {m_pile : Nat → Int64} (h_a0 : zc N h (a + 0) (.inr (9, [.int m_thrown, .ref (zo w + (a + 1)), .ref (zo w + (a + 2)), .ref (zo w + (a + 3)), .int m_now, .int m_undoable, .ref (zo w + (a + 4)), .int m_bytes, .int m_errorAt, .int m_size, .int m_next, .int m_error, .int m_place, .int m_began, .int m_nested, .int m_once, .ref (zo w + (a + 5))]))) (h_a1 : zc N h (a + 1) (.inl (w.2.2.1 1, 22500, .inr (.inl m_rows)))) (h_a5 : zc N h (a + 5) (.inl (w.2.2.1 1, 128, .inr (.inl m_pile)))) {r : Int64 × Int32 × (Nat → Int64)} (hf : f_X9_checksum m_thrown m_now m_rows m_pile = some r) : zM w yX9_checksum cX9_checksum 4 (some .long) (zr 7 229) false N N h [.ref (zo w + a)] (some (.long r.1)) (zu h a [(0, .inr (9, [.int r.2.1, .ref (zo w + (a + 1)), .ref (zo w + (a + 2)), .ref (zo w + (a + 3)), .int m_now, .int m_undoable, .ref (zo w + (a + 4)), .int m_bytes, .int m_errorAt, .int m_size, .int m_next, .int m_error, .int m_place, .int m_began, .int m_nested, .int m_once, .ref (zo w + (a + 5))])), (5, .inl (w.2.2.1 1, 128, .inr (.inl r.2.2)))]) := by
  unfold f_X9_checksum at hf
  refine zM_of (by decide) rfl (fun X C _ => ?_)
  refine z_eq (h' := (zu h a [(0, .inr (9, [.int m_thrown, .ref (zo w + (a + 1)), .ref (zo w + (a + 2)), .ref (zo w + (a + 3)), .int m_now, .int m_undoable, .ref (zo w + (a + 4)), .int m_bytes, .int m_errorAt, .int m_size, .int m_next, .int m_error, .int m_place, .int m_began, .int m_nested, .int m_once, .ref (zo w + (a + 5))])), (5, .inl (w.2.2.1 1, 128, .inr (.inl m_pile)))])) (zu_s h_a0 (zu_s h_a5 zu_0)).symm ?_
  have n_a0 := h_a0.1
  have n_a5 := h_a5.1
  refine z_pick (lv' := [(0, .ref (zo w + a))]) [0] rfl ?_
  refine z_aload_n (pc' := 1) C 0 dX9_checksum_0 rfl rfl rfl ?_
  refine z_iconst (pc' := 2) C dX9_checksum_1 zk_iconst_0 rfl ?_
  refine z_putf (pc' := 5) C zci_9 zw_1184 (j := 0) rfl (zc_i (o := 0) n_a0 rfl) (fs' := [.int (0 : Int32), .ref (zo w + (a + 1)), .ref (zo w + (a + 2)), .ref (zo w + (a + 3)), .int m_now, .int m_undoable, .ref (zo w + (a + 4)), .int m_bytes, .int m_errorAt, .int m_size, .int m_next, .int m_error, .int m_place, .int m_began, .int m_nested, .int m_once, .ref (zo w + (a + 5))]) rfl rfl rfl rfl rfl (zu_put (o := 0) (L' := [(0, .inr (9, [.int (0 : Int32), .ref (zo w + (a + 1)), .ref (zo w + (a + 2)), .ref (zo w + (a + 3)), .int m_now, .int m_undoable, .ref (zo w + (a + 4)), .int m_bytes, .int m_errorAt, .int m_size, .int m_next, .int m_error, .int m_place, .int m_began, .int m_nested, .int m_once, .ref (zo w + (a + 5))])), (5, .inl (w.2.2.1 1, 128, .inr (.inl m_pile)))]) rfl) dX9_checksum_2 rfl ?_
  refine z_aload_n (pc' := 6) C 0 dX9_checksum_5 rfl rfl rfl ?_
  refine z_iconst (pc' := 7) C dX9_checksum_6 zk_iconst_1 rfl ?_
  refine z_cV (pc' := 10) C hf (As := [.int (1 : Int32)]) (fun hq => c_X9_get (a := a) (zc_i (o := 0) n_a0 rfl) (zc_o (o := 1) h_a1 rfl) hq) (fun _ => (zu h a [(0, .inr (9, [.int (0 : Int32), .ref (zo w + (a + 1)), .ref (zo w + (a + 2)), .ref (zo w + (a + 3)), .int m_now, .int m_undoable, .ref (zo w + (a + 4)), .int m_bytes, .int m_errorAt, .int m_size, .int m_next, .int m_error, .int m_place, .int m_began, .int m_nested, .int m_once, .ref (zo w + (a + 5))])), (5, .inl (w.2.2.1 1, 128, .inr (.inl m_pile)))])) (fun q_7 => [.long q_7]) (fun _ => rfl) (fun _ => rfl) zy_X9_get zw_1349 zw_1351 zv_43 (ci := 9) rfl (zc_i (o := 0) n_a0 rfl) ⟨rfl, rfl⟩ rfl rfl rfl rfl rfl dX9_checksum_7 rfl (fun q_7 hf => ?_)
  refine z_lstore_n (pc' := 11) C [(1, .long q_7), (0, .ref (zo w + a))] dX9_checksum_10 rfl rfl rfl rfl ?_
  refine z_ldc2 (pc' := 14) C zw_1715 dX9_checksum_11 rfl ?_
  refine z_lload_n (pc' := 15) C 0 dX9_checksum_14 rfl rfl rfl ?_
  refine z_lmul (pc' := 16) C dX9_checksum_15 rfl ?_
  refine z_aload_n (pc' := 17) C 1 dX9_checksum_16 rfl rfl rfl ?_
  refine z_bipush (pc' := 19) C dX9_checksum_17 zk_bipush_8 rfl ?_
  refine z_cV (pc' := 22) C hf (As := [.int (8 : Int32)]) (fun hq => c_X9_get (a := a) (zc_i (o := 0) n_a0 rfl) (zc_o (o := 1) h_a1 rfl) hq) (fun _ => (zu h a [(0, .inr (9, [.int (0 : Int32), .ref (zo w + (a + 1)), .ref (zo w + (a + 2)), .ref (zo w + (a + 3)), .int m_now, .int m_undoable, .ref (zo w + (a + 4)), .int m_bytes, .int m_errorAt, .int m_size, .int m_next, .int m_error, .int m_place, .int m_began, .int m_nested, .int m_once, .ref (zo w + (a + 5))])), (5, .inl (w.2.2.1 1, 128, .inr (.inl m_pile)))])) (fun q_19 => [.long q_19, .long ((31 : Int64) * q_7)]) (fun _ => rfl) (fun _ => rfl) zy_X9_get zw_1349 zw_1351 zv_43 (ci := 9) rfl (zc_i (o := 0) n_a0 rfl) ⟨rfl, rfl⟩ rfl rfl rfl rfl rfl dX9_checksum_19 rfl (fun q_19 hf => ?_)
  refine z_ladd (pc' := 23) C dX9_checksum_22 rfl ?_
  refine z_lstore_n (pc' := 24) C [(1, .long (((31 : Int64) * q_7) + q_19)), (0, .ref (zo w + a))] dX9_checksum_23 rfl rfl rfl rfl ?_
  refine z_iconst (pc' := 25) C dX9_checksum_24 zk_iconst_0 rfl ?_
  refine z_istore_n (pc' := 26) C [(3, .int (0 : Int32)), (1, .long (((31 : Int64) * q_7) + q_19)), (0, .ref (zo w + a))] dX9_checksum_25 rfl rfl rfl rfl ?_
  refine z_pick (lv' := [(0, .ref (zo w + a)), (1, .long (((31 : Int64) * q_7) + q_19)), (3, .int (0 : Int32))]) [2, 1, 0] rfl ?_
  exact w_X9_checksum_26 C n_a0 h_a1 n_a5  FU hf
