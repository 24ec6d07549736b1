theorem zdf_9 : ∀ j, j < 17 → defaultValue (tyX9 j) = vp_V [.int 0, .null, .null, .null, .int 0, .int 0, .null, .int 0, .int 0, .int 0, .int 0, .int 0, .int 0, .int 0, .int 0, .int 0, .null] j
  | 0, _ => rfl
  | 1, _ => rfl
  | 2, _ => rfl
  | 3, _ => rfl
  | 4, _ => rfl
  | 5, _ => rfl
  | 6, _ => rfl
  | 7, _ => rfl
  | 8, _ => rfl
  | 9, _ => rfl
  | 10, _ => rfl
  | 11, _ => rfl
  | 12, _ => rfl
  | 13, _ => rfl
  | 14, _ => rfl
  | 15, _ => rfl
  | 16, _ => rfl
  | n + 17, h => absurd h (by omega)
theorem zdf_8 : ∀ j, j < 5 → defaultValue (tyX8 j) = vp_V [.null, .null, .int 0, .int 0, .null] j
  | 0, _ => rfl
  | 1, _ => rfl
  | 2, _ => rfl
  | 3, _ => rfl
  | 4, _ => rfl
  | n + 5, h => absurd h (by omega)
theorem z_refs {X : zC} {w : zV} {Q : State → Prop} {k n : Nat} {x : Bool} {N : Nat} {h h' : zH} {pc : Nat} {lv : List (Nat × Value)} {st : List Value} {b L : Nat} {f f' : Nat → Option Nat} (e : ∀ j, j ≠ b → h j = h' j) (e1 : h b = .inl (w.2.2.1 4, L, .inr (.inr (.inr (.inr f))))) (e2 : h' b = .inl (w.2.2.1 4, L, .inr (.inr (.inr (.inr f'))))) (hf : ∀ i, i < L → f i = f' i) (kk : zZ X w Q k n x N h' pc lv st) : zZ X w Q k n x N h pc lv st := by
  intro H locs ls hP hs hS hL
  refine kk H locs ls (zP_iff.mpr fun i hi hj => ?_) hs hS hL
  have hP' := zP_iff.mp hP i hi
  by_cases hib : i = b
  · subst hib
    rw [e1] at hP'
    have hP' := hP' rfl
    rw [e2]
    have h1 : H[zo w + i]? = some (vp_cell _ _) := hP'
    show H[zo w + i]? = some (vp_cell _ _)
    rw [h1, vp_cell_q, vp_cell_q]
    congr 1
    unfold arrV
    congr 2
    funext j
    exact congrArg va_rf (hf j.val j.isLt)
  · rw [e i hib] at hP'
    exact hP' hj

theorem c_X9_init {w : zV} {a : Nat} {h : zH} (n_a0 : zc (a + 1) h (a + 0) (.inr (9, [.int 0, .null, .null, .null, .int 0, .int 0, .null, .int 0, .int 0, .int 0, .int 0, .int 0, .int 0, .int 0, .int 0, .int 0, .null]))) : zM w yX9_init cX9_init 1 none { frames := 1, cells := 5, slots := 28528, locals := 20 } true (a + 1) (a + 6) h [.ref (zo w + a)] none (zu h a [(0, .inr (9, [.int 0, .ref (zo w + (a + 1)), .ref (zo w + (a + 2)), .ref (zo w + (a + 3)), .int 0, .int 0, .ref (zo w + (a + 4)), .int 0, .int (-1 : Int32), .int 0, .int 0, .int 0, .int 0, .int 0, .int 0, .int 0, .ref (zo w + (a + 5))])), (1, .inl (w.2.2.1 1, 22500, .inr (.inl (vp_updL (fun _ => 0) 2 25)))), (2, .inl (w.2.2.1 1, 2500, .inr (.inl (fun _ => 0)))), (3, .inl (w.2.2.1 1, 2500, .inr (.inl (fun _ => 0)))), (4, .inl (w.2.2.1 0, 900, .inl (fun _ => 0))), (5, .inl (w.2.2.1 1, 128, .inr (.inl (fun _ => 0))))]) := by
  refine zM_of (by decide) rfl (fun X C hin => ?_)
  refine z_pick (lv' := [(0, .ref (zo w + a))]) [0] rfl ?_
  refine z_eq (h' := zu h a [(0, .inr (9, [.int 0, .null, .null, .null, .int 0, .int 0, .null, .int 0, .int 0, .int 0, .int 0, .int 0, .int 0, .int 0, .int 0, .int 0, .null]))]) (zu_s (o := 0) n_a0 (zu_nil h a)).symm ?_
  refine z_aload_n (pc' := 1) C 0 dX9_init_0 rfl rfl rfl ?_
  refine z_objI (pc' := 4) C zw_1182 zw_29 zw_30 rfl rfl dX9_init_1 rfl ?_
  refine z_aload_n (pc' := 5) C 0 dX9_init_4 rfl rfl rfl ?_
  refine z_sipush (pc' := 8) C dX9_init_5 zk_sipush_22500 rfl ?_
  refine z_newa (pc' := 10) (atype := .long) (ty := .long) (j := 1) (L := 22500) (a0 := (22500, .inr (.inl (fun _ => 0)))) (h' := (zu h a [(0, .inr (9, [.int 0, .null, .null, .null, .int 0, .int 0, .null, .int 0, .int 0, .int 0, .int 0, .int 0, .int 0, .int 0, .int 0, .int 0, .null])), (1, .inl (w.2.2.1 1, 22500, .inr (.inl (fun _ => 0))))])) C zw_87 rfl rfl (fun _ _ h => h) (zna_1 22500) (by decide) (by decide) rfl (zu_put (o := 1) rfl) rfl dX9_init_8 rfl ?_
  refine z_putF (pc' := 13) (h' := (zu h a [(0, .inr (9, [.int 0, .ref (zo w + (a + 1)), .null, .null, .int 0, .int 0, .null, .int 0, .int 0, .int 0, .int 0, .int 0, .int 0, .int 0, .int 0, .int 0, .null])), (1, .inl (w.2.2.1 1, 22500, .inr (.inl (fun _ => 0))))])) C hin zci_9 zw_1185 (j := 1) rfl (zc_w (o := 0) (by omega) rfl) (fs' := [.int 0, .ref (zo w + (a + 1)), .null, .null, .int 0, .int 0, .null, .int 0, .int 0, .int 0, .int 0, .int 0, .int 0, .int 0, .int 0, .int 0, .null]) rfl rfl rfl rfl rfl (zu_put (o := 0) rfl) dX9_init_10 rfl ?_
  refine z_aload_n (pc' := 14) C 0 dX9_init_13 rfl rfl rfl ?_
  refine z_sipush (pc' := 17) C dX9_init_14 zk_sipush_2500 rfl ?_
  refine z_newa (pc' := 19) (atype := .long) (ty := .long) (j := 1) (L := 2500) (a0 := (2500, .inr (.inl (fun _ => 0)))) (h' := (zu h a [(0, .inr (9, [.int 0, .ref (zo w + (a + 1)), .null, .null, .int 0, .int 0, .null, .int 0, .int 0, .int 0, .int 0, .int 0, .int 0, .int 0, .int 0, .int 0, .null])), (1, .inl (w.2.2.1 1, 22500, .inr (.inl (fun _ => 0)))), (2, .inl (w.2.2.1 1, 2500, .inr (.inl (fun _ => 0))))])) C zw_87 rfl rfl (fun _ _ h => h) (zna_1 2500) (by decide) (by decide) rfl (zu_put (o := 2) rfl) rfl dX9_init_17 rfl ?_
  refine z_putF (pc' := 22) (h' := (zu h a [(0, .inr (9, [.int 0, .ref (zo w + (a + 1)), .ref (zo w + (a + 2)), .null, .int 0, .int 0, .null, .int 0, .int 0, .int 0, .int 0, .int 0, .int 0, .int 0, .int 0, .int 0, .null])), (1, .inl (w.2.2.1 1, 22500, .inr (.inl (fun _ => 0)))), (2, .inl (w.2.2.1 1, 2500, .inr (.inl (fun _ => 0))))])) C hin zci_9 zw_1186 (j := 2) rfl (zc_w (o := 0) (by omega) rfl) (fs' := [.int 0, .ref (zo w + (a + 1)), .ref (zo w + (a + 2)), .null, .int 0, .int 0, .null, .int 0, .int 0, .int 0, .int 0, .int 0, .int 0, .int 0, .int 0, .int 0, .null]) rfl rfl rfl rfl rfl (zu_put (o := 0) rfl) dX9_init_19 rfl ?_
  refine z_aload_n (pc' := 23) C 0 dX9_init_22 rfl rfl rfl ?_
  refine z_sipush (pc' := 26) C dX9_init_23 zk_sipush_2500 rfl ?_
  refine z_newa (pc' := 28) (atype := .long) (ty := .long) (j := 1) (L := 2500) (a0 := (2500, .inr (.inl (fun _ => 0)))) (h' := (zu h a [(0, .inr (9, [.int 0, .ref (zo w + (a + 1)), .ref (zo w + (a + 2)), .null, .int 0, .int 0, .null, .int 0, .int 0, .int 0, .int 0, .int 0, .int 0, .int 0, .int 0, .int 0, .null])), (1, .inl (w.2.2.1 1, 22500, .inr (.inl (fun _ => 0)))), (2, .inl (w.2.2.1 1, 2500, .inr (.inl (fun _ => 0)))), (3, .inl (w.2.2.1 1, 2500, .inr (.inl (fun _ => 0))))])) C zw_87 rfl rfl (fun _ _ h => h) (zna_1 2500) (by decide) (by decide) rfl (zu_put (o := 3) rfl) rfl dX9_init_26 rfl ?_
  refine z_putF (pc' := 31) (h' := (zu h a [(0, .inr (9, [.int 0, .ref (zo w + (a + 1)), .ref (zo w + (a + 2)), .ref (zo w + (a + 3)), .int 0, .int 0, .null, .int 0, .int 0, .int 0, .int 0, .int 0, .int 0, .int 0, .int 0, .int 0, .null])), (1, .inl (w.2.2.1 1, 22500, .inr (.inl (fun _ => 0)))), (2, .inl (w.2.2.1 1, 2500, .inr (.inl (fun _ => 0)))), (3, .inl (w.2.2.1 1, 2500, .inr (.inl (fun _ => 0))))])) C hin zci_9 zw_1187 (j := 3) rfl (zc_w (o := 0) (by omega) rfl) (fs' := [.int 0, .ref (zo w + (a + 1)), .ref (zo w + (a + 2)), .ref (zo w + (a + 3)), .int 0, .int 0, .null, .int 0, .int 0, .int 0, .int 0, .int 0, .int 0, .int 0, .int 0, .int 0, .null]) rfl rfl rfl rfl rfl (zu_put (o := 0) rfl) dX9_init_28 rfl ?_
  refine z_aload_n (pc' := 32) C 0 dX9_init_31 rfl rfl rfl ?_
  refine z_sipush (pc' := 35) C dX9_init_32 zk_sipush_900 rfl ?_
  refine z_newa (pc' := 37) (atype := .int) (ty := .int) (j := 0) (L := 900) (a0 := (900, .inl (fun _ => 0))) (h' := (zu h a [(0, .inr (9, [.int 0, .ref (zo w + (a + 1)), .ref (zo w + (a + 2)), .ref (zo w + (a + 3)), .int 0, .int 0, .null, .int 0, .int 0, .int 0, .int 0, .int 0, .int 0, .int 0, .int 0, .int 0, .null])), (1, .inl (w.2.2.1 1, 22500, .inr (.inl (fun _ => 0)))), (2, .inl (w.2.2.1 1, 2500, .inr (.inl (fun _ => 0)))), (3, .inl (w.2.2.1 1, 2500, .inr (.inl (fun _ => 0)))), (4, .inl (w.2.2.1 0, 900, .inl (fun _ => 0)))])) C zw_88 rfl rfl (fun _ _ h => h) (zna_0 900) (by decide) (by decide) rfl (zu_put (o := 4) rfl) rfl dX9_init_35 rfl ?_
  refine z_putF (pc' := 40) (h' := (zu h a [(0, .inr (9, [.int 0, .ref (zo w + (a + 1)), .ref (zo w + (a + 2)), .ref (zo w + (a + 3)), .int 0, .int 0, .ref (zo w + (a + 4)), .int 0, .int 0, .int 0, .int 0, .int 0, .int 0, .int 0, .int 0, .int 0, .null])), (1, .inl (w.2.2.1 1, 22500, .inr (.inl (fun _ => 0)))), (2, .inl (w.2.2.1 1, 2500, .inr (.inl (fun _ => 0)))), (3, .inl (w.2.2.1 1, 2500, .inr (.inl (fun _ => 0)))), (4, .inl (w.2.2.1 0, 900, .inl (fun _ => 0)))])) C hin zci_9 zw_1190 (j := 6) rfl (zc_w (o := 0) (by omega) rfl) (fs' := [.int 0, .ref (zo w + (a + 1)), .ref (zo w + (a + 2)), .ref (zo w + (a + 3)), .int 0, .int 0, .ref (zo w + (a + 4)), .int 0, .int 0, .int 0, .int 0, .int 0, .int 0, .int 0, .int 0, .int 0, .null]) rfl rfl rfl rfl rfl (zu_put (o := 0) rfl) dX9_init_37 rfl ?_
  refine z_aload_n (pc' := 41) C 0 dX9_init_40 rfl rfl rfl ?_
  refine z_iconst (pc' := 42) C dX9_init_41 zk_iconst_m1 rfl ?_
  refine z_putf (pc' := 45) (h' := (zu h a [(0, .inr (9, [.int 0, .ref (zo w + (a + 1)), .ref (zo w + (a + 2)), .ref (zo w + (a + 3)), .int 0, .int 0, .ref (zo w + (a + 4)), .int 0, .int (-1 : Int32), .int 0, .int 0, .int 0, .int 0, .int 0, .int 0, .int 0, .null])), (1, .inl (w.2.2.1 1, 22500, .inr (.inl (fun _ => 0)))), (2, .inl (w.2.2.1 1, 2500, .inr (.inl (fun _ => 0)))), (3, .inl (w.2.2.1 1, 2500, .inr (.inl (fun _ => 0)))), (4, .inl (w.2.2.1 0, 900, .inl (fun _ => 0)))])) C zci_9 zw_1192 (j := 8) rfl (zc_w (o := 0) (by omega) rfl) (fs' := [.int 0, .ref (zo w + (a + 1)), .ref (zo w + (a + 2)), .ref (zo w + (a + 3)), .int 0, .int 0, .ref (zo w + (a + 4)), .int 0, .int (-1 : Int32), .int 0, .int 0, .int 0, .int 0, .int 0, .int 0, .int 0, .null]) rfl rfl rfl rfl rfl (zu_put (o := 0) rfl) dX9_init_42 rfl ?_
  refine z_aload_n (pc' := 46) C 0 dX9_init_45 rfl rfl rfl ?_
  refine z_sipush (pc' := 49) C dX9_init_46 zk_sipush_128 rfl ?_
  refine z_newa (pc' := 51) (atype := .long) (ty := .long) (j := 1) (L := 128) (a0 := (128, .inr (.inl (fun _ => 0)))) (h' := (zu h a [(0, .inr (9, [.int 0, .ref (zo w + (a + 1)), .ref (zo w + (a + 2)), .ref (zo w + (a + 3)), .int 0, .int 0, .ref (zo w + (a + 4)), .int 0, .int (-1 : Int32), .int 0, .int 0, .int 0, .int 0, .int 0, .int 0, .int 0, .null])), (1, .inl (w.2.2.1 1, 22500, .inr (.inl (fun _ => 0)))), (2, .inl (w.2.2.1 1, 2500, .inr (.inl (fun _ => 0)))), (3, .inl (w.2.2.1 1, 2500, .inr (.inl (fun _ => 0)))), (4, .inl (w.2.2.1 0, 900, .inl (fun _ => 0))), (5, .inl (w.2.2.1 1, 128, .inr (.inl (fun _ => 0))))])) C zw_87 rfl rfl (fun _ _ h => h) (zna_1 128) (by decide) (by decide) rfl (zu_put (o := 5) rfl) rfl dX9_init_49 rfl ?_
  refine z_putF (pc' := 54) (h' := (zu h a [(0, .inr (9, [.int 0, .ref (zo w + (a + 1)), .ref (zo w + (a + 2)), .ref (zo w + (a + 3)), .int 0, .int 0, .ref (zo w + (a + 4)), .int 0, .int (-1 : Int32), .int 0, .int 0, .int 0, .int 0, .int 0, .int 0, .int 0, .ref (zo w + (a + 5))])), (1, .inl (w.2.2.1 1, 22500, .inr (.inl (fun _ => 0)))), (2, .inl (w.2.2.1 1, 2500, .inr (.inl (fun _ => 0)))), (3, .inl (w.2.2.1 1, 2500, .inr (.inl (fun _ => 0)))), (4, .inl (w.2.2.1 0, 900, .inl (fun _ => 0))), (5, .inl (w.2.2.1 1, 128, .inr (.inl (fun _ => 0))))])) C hin zci_9 zw_1200 (j := 16) rfl (zc_w (o := 0) (by omega) rfl) (fs' := [.int 0, .ref (zo w + (a + 1)), .ref (zo w + (a + 2)), .ref (zo w + (a + 3)), .int 0, .int 0, .ref (zo w + (a + 4)), .int 0, .int (-1 : Int32), .int 0, .int 0, .int 0, .int 0, .int 0, .int 0, .int 0, .ref (zo w + (a + 5))]) rfl rfl rfl rfl rfl (zu_put (o := 0) rfl) dX9_init_51 rfl ?_
  refine z_aload_n (pc' := 55) C 0 dX9_init_54 rfl rfl rfl ?_
  refine z_getf (pc' := 58) C zci_9 zw_1185 (j := 1) rfl (zc_w (o := 0) (by omega) rfl) rfl rfl dX9_init_55 rfl ?_
  refine z_iconst (pc' := 59) C dX9_init_58 zk_iconst_2 rfl ?_
  refine z_ldc2 (pc' := 62) C zw_1183 dX9_init_59 rfl ?_
  refine z_last (pc' := 63) C (K := fun g => some g) (r := vp_updL (fun _ => 0) 2 25) rfl (zc_w (o := 1) (by omega) rfl) (h' := fun g => zu h a [(0, .inr (9, [.int 0, .ref (zo w + (a + 1)), .ref (zo w + (a + 2)), .ref (zo w + (a + 3)), .int 0, .int 0, .ref (zo w + (a + 4)), .int 0, .int (-1 : Int32), .int 0, .int 0, .int 0, .int 0, .int 0, .int 0, .int 0, .ref (zo w + (a + 5))])), (1, .inl (w.2.2.1 1, 22500, .inr (.inl g))), (2, .inl (w.2.2.1 1, 2500, .inr (.inl (fun _ => 0)))), (3, .inl (w.2.2.1 1, 2500, .inr (.inl (fun _ => 0)))), (4, .inl (w.2.2.1 0, 900, .inl (fun _ => 0))), (5, .inl (w.2.2.1 1, 128, .inr (.inl (fun _ => 0))))]) (fun g => zu_put (o := 1) rfl) dX9_init_62 rfl (fun g hg => ?_)
  cases hg
  exact z_vret C rfl rfl dX9_init_63
