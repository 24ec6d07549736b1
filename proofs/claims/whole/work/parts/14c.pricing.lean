theorem zdf_4 : ∀ j, j < 4 → defaultValue (tyX4 j) = vp_V [.int 0, .int 0, .null, .null] j
  | 0, _ => rfl
  | 1, _ => rfl
  | 2, _ => rfl
  | 3, _ => rfl
  | n + 4, h => absurd h (by omega)
abbrev pgL (w : zV) (a : Nat) (tb : Int32) : List (Nat × va_E) := [(0, .inr (4, [.int (25 : Int32), .int (0 : Int32), .ref (zo w + (a + 2)), .ref (zo w + (a + 1))])), (1, .inl (w.2.2.1 0, 16, .inl (fun _ => (0 : Int32)))), (2, .inl (w.2.2.1 0, (zpn tb), .inl (fun _ => (0 : Int32))))]
theorem zpn_room (tb : Int32) : (Nat.ble (0 + 1 + 1) 2 && Nat.ble (0 + 16 + zpn tb) 916) = true := by
  have := zpn_le tb
  rw [Bool.and_eq_true]
  exact ⟨rfl, Nat.ble_eq_true_of_le (by omega)⟩
theorem c_X4_init {w : zV} {a : Nat} {h : zH} {tb : Int32} (n_a0 : zc (a + 1) h a (.inr (4, [.int 0, .int 0, .null, .null]))) : zM w yX4_init cX4_init 2 none { frames := 1, cells := 2, slots := 916, locals := 40 } true (a + 1) (a + 3) h [.ref (zo w + a), .int tb] none (zu h a (pgL w a tb)) := by
  refine zM_of (by decide) rfl (fun X C hin => ?_)
  refine z_pick (lv' := [(0, .ref (zo w + a)), (1, .int tb)]) [0, 1] rfl ?_
  refine z_eq (h' := zu h a [(0, .inr (4, [.int 0, .int 0, .null, .null]))]) (zu_s (o := 0) n_a0 (zu_nil h a)).symm ?_
  refine z_aload_n (pc' := 1) C 0 dX4_init_0 rfl rfl rfl ?_
  refine z_objI (pc' := 4) C zw_95 zw_29 zw_30 rfl rfl dX4_init_1 rfl ?_
  refine z_aload_n (pc' := 5) C 0 dX4_init_4 rfl rfl rfl ?_
  refine z_bipush (pc' := 7) C dX4_init_5 zk_bipush_25 rfl ?_
  refine z_putf (pc' := 10) (h' := (zu h a [(0, .inr (4, [.int (25 : Int32), .int 0, .null, .null]))])) C zci_4 zw_102 (j := 0) rfl (zc_w (o := 0) (by omega) rfl) (fs' := [.int (25 : Int32), .int 0, .null, .null]) rfl rfl rfl rfl rfl (zu_put (o := 0) rfl) dX4_init_7 rfl ?_
  refine z_aload_n (pc' := 11) C 0 dX4_init_10 rfl rfl rfl ?_
  refine z_iconst (pc' := 12) C dX4_init_11 zk_iconst_0 rfl ?_
  refine z_putf (pc' := 15) (h' := (zu h a [(0, .inr (4, [.int (25 : Int32), .int (0 : Int32), .null, .null]))])) C zci_4 zw_104 (j := 1) rfl (zc_w (o := 0) (by omega) rfl) (fs' := [.int (25 : Int32), .int (0 : Int32), .null, .null]) rfl rfl rfl rfl rfl (zu_put (o := 0) rfl) dX4_init_12 rfl ?_
  refine z_aload_n (pc' := 16) C 0 dX4_init_15 rfl rfl rfl ?_
  refine z_bipush (pc' := 18) C dX4_init_16 zk_bipush_16 rfl ?_
  refine z_newa (pc' := 20) (atype := .int) (ty := .int) (j := 0) (L := 16) (a0 := (16, .inl (fun _ => 0))) (h' := (zu h a [(0, .inr (4, [.int (25 : Int32), .int (0 : Int32), .null, .null])), (1, .inl (w.2.2.1 0, 16, .inl (fun _ => (0 : Int32))))])) C zw_88 rfl rfl (fun _ _ h => h) (zna_0 16) (by decide) (by decide) rfl (zu_put (o := 1) rfl) rfl dX4_init_18 rfl ?_
  refine z_putF (pc' := 23) (h' := (zu h a [(0, .inr (4, [.int (25 : Int32), .int (0 : Int32), .null, .ref (zo w + (a + 1))])), (1, .inl (w.2.2.1 0, 16, .inl (fun _ => (0 : Int32))))])) C hin zci_4 zw_106 (j := 3) rfl (zc_w (o := 0) (by omega) rfl) (fs' := [.int (25 : Int32), .int (0 : Int32), .null, .ref (zo w + (a + 1))]) rfl rfl rfl rfl rfl (zu_put (o := 0) rfl) dX4_init_20 rfl ?_
  refine z_aload_n (pc' := 24) C 0 dX4_init_23 rfl rfl rfl ?_
  refine z_iconst (pc' := 25) C dX4_init_24 zk_iconst_0 rfl ?_
  refine z_iload_n (pc' := 26) C 1 dX4_init_25 rfl rfl rfl ?_
  refine z_sipush (pc' := 29) C dX4_init_26 zk_sipush_900 rfl ?_
  refine z_imin (pc' := 32) C zw_96 rfl rfl dX4_init_29 rfl ?_
  refine z_imax (pc' := 35) C zw_99 rfl rfl dX4_init_32 rfl ?_
  refine z_newa (pc' := 37) (atype := .int) (ty := .int) (j := 0) (L := zpn tb) (a0 := (zpn tb, .inl (fun _ => 0))) (h' := (zu h a [(0, .inr (4, [.int (25 : Int32), .int (0 : Int32), .null, .ref (zo w + (a + 1))])), (1, .inl (w.2.2.1 0, 16, .inl (fun _ => (0 : Int32)))), (2, .inl (w.2.2.1 0, (zpn tb), .inl (fun _ => (0 : Int32))))])) C zw_88 rfl rfl (fun _ _ h => h) (zna_0 _) (zpn_ok tb) rfl (Nat.ble_eq_true_of_le (by have := zpn_le tb; show zpn tb * 4 ≤ 536870912; omega)) (zu_put (o := 2) rfl) (zpn_room tb) dX4_init_35 rfl ?_
  refine z_widen (k' := 2) (n' := 916) (by omega) (by have := zpn_le tb; omega) ?_
  refine z_putF (pc' := 40) (h' := (zu h a [(0, .inr (4, [.int (25 : Int32), .int (0 : Int32), .ref (zo w + (a + 2)), .ref (zo w + (a + 1))])), (1, .inl (w.2.2.1 0, 16, .inl (fun _ => (0 : Int32)))), (2, .inl (w.2.2.1 0, (zpn tb), .inl (fun _ => (0 : Int32))))])) C hin zci_4 zw_105 (j := 2) rfl (zc_w (o := 0) (by omega) rfl) (fs' := [.int (25 : Int32), .int (0 : Int32), .ref (zo w + (a + 2)), .ref (zo w + (a + 1))]) rfl rfl rfl rfl rfl (zu_put (o := 0) rfl) dX4_init_37 rfl ?_
  exact z_vret C rfl rfl dX4_init_40
