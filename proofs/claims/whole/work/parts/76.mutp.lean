section MUTP
variable {ok : PgT → Prop} {t : Nat} {σ : LgT} {ρ : MdT} {q : Nat → Int32}
theorem lq_36 (h : lw_J ok t σ ρ) : lw_LS (lw_J ok (t + 1)) (lw_JL ok (t + 1)) σ ρ q 36 := by
  obtain ⟨w, hw, h1, h2, hR⟩ := JJ_use h
  have h8 := hR.2.2.1.2.1
  have h20 := hR.2.2.2.2.1.2.1
  rcases idx_d (q 1) (n := nco (σ.2.2.2.2.2 w)) (by omega) with ⟨c, hc, e⟩ | ⟨e1, e2⟩
  have h6 := (hR.2.2.2.1 c hc).1.2.1
  rcases idx_d (q 2) (n := nit (σ.2.2.2.2.2 w) c) (by omega) with ⟨i, hi, ei⟩ | ⟨e1, e2⟩
  · obtain ⟨i1, i2⟩ := idx_ok hi (by omega)
    have bad2 : f_X9_propose_32 0 (jI w) (md_undoable ρ) (md_rows ρ) (jI c) (jI i) (q 3) = some (0, 2, jI w, md_undoable ρ, md_rows ρ) := by
      unfold f_X9_propose_32 f_X9_propose_33
      rw [right_f2, zB1_s, if_pos rfl]
    have bad3 : f_X9_propose_58 0 (jI w) (md_undoable ρ) (md_rows ρ) (jI c) (jI i) (q 3) 0 = some (0, 3, jI w, md_undoable ρ, md_rows ρ) := by
      unfold f_X9_propose_58
      rw [right_f3, zB1_s, if_pos rfl]
    rcases rng_d (q 3) (-999) 999 with ⟨r1, r2, r3, r4⟩ | ⟨r1, r2⟩
    · by_cases h0 : q 3 = 0
      · have f8 : f_X8_propose σ (q 1) (q 2) (q 3) = some (.inl ("java/lang/IllegalArgumentException", σ)) := by
          rw [e, ei]
          unfold f_X8_propose
          rw [chk_I hw h1 hR hc, i1, X1_r, r1, X1_r, if_pos h0]
        have f9 : f_X9_propose (md_thrown ρ) (md_now ρ) (md_undoable ρ) (md_rows ρ) (q 1) (q 2) (q 3) = some (0, 2, jI w, md_undoable ρ, md_rows ρ) := by
          rw [e, ei, h2]
          unfold f_X9_propose
          rw [is_I hw hR hc i2 (Or.inr rfl), if_neg one_ne, zB1_s, if_neg one_ne, show (-999 : Int64) = (-999 : Int32).toInt64 from rfl, show (999 : Int64) = (999 : Int32).toInt64 from rfl, r2, zB1_s, if_neg one_ne, if_pos h0, bad2]
        exact Or.inr (Or.inr (Or.inl ⟨_, _, _, f8, g_of f9, rfl, by have hJ := JJ_up h; rw [h2] at hJ; exact hJ⟩))
      · have v4 : zrow w (md_rows ρ) 4 = jL (nva (σ.2.2.2.2.2 w)) := hR.2.2.2.2.1.2.2.1
        have pre9 : f_X9_propose (md_thrown ρ) (md_now ρ) (md_undoable ρ) (md_rows ρ) (q 1) (q 2) (q 3) = (if 20 ≤ nva (σ.2.2.2.2.2 w) then some (0, 3, jI w, md_undoable ρ, md_rows ρ) else f_X9_propose_58 0 (jI w) (md_undoable ρ) (md_rows ρ) (jI c) (jI i) (q 3) 1) := by
          rw [e, ei, h2]
          unfold f_X9_propose
          rw [is_I hw hR hc i2 (Or.inr rfl), if_neg one_ne, zB1_s, if_neg one_ne, show (-999 : Int64) = (-999 : Int32).toInt64 from rfl, show (999 : Int64) = (999 : Int32).toInt64 from rfl, r2, zB1_s, if_neg one_ne, if_neg h0]
          unfold f_X9_propose_33
          rw [right_t, zB1_s, if_neg one_ne, jI_4, X9_get hw (by omega), zB1_s, v4, show (20 : Int64) = jL 20 from rfl]
          by_cases hh : 20 ≤ nva (σ.2.2.2.2.2 w)
          · rw [if_pos hh, if_pos ((jL_le (by omega) (by omega)).mpr hh), bad3]
          · rw [if_neg hh, if_neg (fun z => hh ((jL_le (by omega) (by omega)).mp z))]
        by_cases hh : 20 ≤ nva (σ.2.2.2.2.2 w)
        · rw [if_pos hh] at pre9
          have f8 : f_X8_propose σ (q 1) (q 2) (q 3) = some (.inl ("java/lang/IllegalStateException", σ)) := by
            rw [e, ei]
            unfold f_X8_propose
            rw [chk_I hw h1 hR hc, i1, X1_r, r1, X1_r, if_neg h0, zG1_t (gd_w h1 hw), nw_w h1 hw, hR.2.2.2.2.1.1, jI_20, if_pos ((jI_le (by omega) (by omega)).mpr hh), st_0, X1_l]
          exact Or.inr (Or.inr (Or.inr ⟨_, _, _, f8, g_of pre9, rfl, by have hJ := JJ_up h; rw [h2] at hJ; exact hJ⟩))
        · rw [if_neg hh] at pre9
          obtain ⟨P', rows1, hb, hch, hR1, hA, hz, hz'⟩ := begin2 hw h1 h2 hR
          have hw1 : (w + 1) % 9 < 9 := by omega
          have env : nva P' = nva (σ.2.2.2.2.2 w) := by unfold nva; rw [hA.2.2.2.2.1.1]
          have hc' : c < nco P' := by
            have : nco P' = nco (σ.2.2.2.2.2 w) := by unfold nco; rw [hA.2.1.1]
            omega
          have hi' : i < nit P' c := by
            have : nit P' c = nit (σ.2.2.2.2.2 w) c := by unfold nit; rw [hA.2.2.2.1.1 c (by omega)]
            omega
          have vc' : pj_va_count P' = jI (nva P') := hR1.2.2.2.2.1.1
          have v4' : zrow ((w + 1) % 9) rows1 4 = jL (nva P') := hR1.2.2.2.2.1.2.2.1
          have f8 : f_X8_propose σ (q 1) (q 2) (q 3) = some (.inr (jI (nva P'), (jI ((w + 1) % 9), (if (8 : Int32) < σ.2.1 + (1 : Int32) then (8 : Int32) else σ.2.1 + (1 : Int32)), σ.2.2.1, σ.2.2.2.1, σ.2.2.2.2.1, va_up (va_up σ.2.2.2.2.2 ((w + 1) % 9) P') ((w + 1) % 9) (pm_3 P' (jI (nva P' + 1)) (upd (pj_va_slot P') (nva P') (jI (c * 6 + i))) (upd (pj_va_change P') (nva P') (q 3)) (upd (pj_va_approved P') (nva P') 0))))) := by
            rw [e, ei]
            unfold f_X8_propose
            rw [chk_I hw h1 hR hc, i1, X1_r, r1, X1_r, if_neg h0, zG1_t (gd_w h1 hw), nw_w h1 hw, hR.2.2.2.2.1.1, jI_20, if_neg (fun z => hh ((jI_le (by omega) (by omega)).mp z)), st_1, X1_r, hb, zB1_s]
            dsimp only
            rw [zG1_t (jI_in hw1 (by omega)), jI_nat (by omega), va_same, k_slotOf, zB1_s]
            unfold f_X7_add
            rw [vc', jI_20, if_pos ((jI_lt (by omega) (by omega)).mpr (by omega)), zSi_n (by omega) (by omega), zSi_n (by omega) (by omega), zSi_n (by omega) (by omega), jI_1, jI_add, jI_sub (by omega), Nat.add_sub_cancel, zB1_s]
            rfl
          obtain ⟨rows2, f9, z1, z2⟩ : ∃ rows2, f_X9_propose (md_thrown ρ) (md_now ρ) (md_undoable ρ) (md_rows ρ) (q 1) (q 2) (q 3) = some (jI (nva P'), 0, jI ((w + 1) % 9), (if (8 : Int32) ≤ md_undoable ρ then md_undoable ρ else md_undoable ρ + (1 : Int32)), rows2) ∧ zrow ((w + 1) % 9) rows2 = vp_updL (vp_updL (vp_updL (vp_updL (vp_updL (zrow ((w + 1) % 9) rows1) (230 + 4 * nva P') (jL c)) (230 + 4 * nva P' + 1) (jL i)) (230 + 4 * nva P' + 2) ((q 3).toInt64)) (230 + 4 * nva P' + 3) (0)) (4) (jL (nva P' + 1)) ∧ ∀ i, i ≠ ((w + 1) % 9) → ∀ q, q < 2500 → zrow i rows2 q = zrow i rows1 q := by
            refine ⟨vp_updL (vp_updL (vp_updL (vp_updL (vp_updL (rows1) (2500 * ((w + 1) % 9) + (230 + 4 * nva P')) (jL c)) (2500 * ((w + 1) % 9) + (230 + 4 * nva P' + 1)) (jL i)) (2500 * ((w + 1) % 9) + (230 + 4 * nva P' + 2)) ((q 3).toInt64)) (2500 * ((w + 1) % 9) + (230 + 4 * nva P' + 3)) (0)) (2500 * ((w + 1) % 9) + (4)) (jL (nva P' + 1)), ?_, by simp only [zrow_put], fun i hi q hq => ?_⟩
            · rw [pre9]
              unfold f_X9_propose_58
              rw [right_t, zB1_s, if_neg one_ne, hch, zB1_s]
              dsimp only
              rw [jI_4, X9_small hw1 (by omega), zB1_s, v4', jL_I, jI_230, jI_mul, jI_add, X9_put hw1 (by omega), zB1_s, jI_1, jI_add, X9_put hw1 (by omega), zB1_s, jI_2, jI_add, X9_put hw1 (by omega), zB1_s, jI_3, jI_add, X9_put hw1 (by omega), zB1_s, X9_get hw1 (by omega), zB1_s, X9_put hw1 (by omega), zB1_s, X9_small hw1 (by omega), zB1_s, zrow_put, updL_same, zrow_put, updL_ne (by omega), zrow_put, updL_ne (by omega), zrow_put, updL_ne (by omega), zrow_put, updL_ne (by omega), v4', jL_1, jL_add, jL_I, jI_sub (by omega), Nat.add_sub_cancel, jI_L (by omega), jI_L (by omega)]
            · rw [put_o (by omega) i hi q hq, put_o (by omega) i hi q hq, put_o (by omega) i hi q hq, put_o (by omega) i hi q hq, put_o (by omega) i hi q hq]
          have y0 : zrow ((w + 1) % 9) rows2 (230 + 4 * nva P') = jL c := by rw [z1, updL_ne (by omega), updL_ne (by omega), updL_ne (by omega), updL_ne (by omega), updL_same]
          have y1 : zrow ((w + 1) % 9) rows2 (230 + 4 * nva P' + 1) = jL i := by rw [z1, updL_ne (by omega), updL_ne (by omega), updL_ne (by omega), updL_same]
          have y2 : zrow ((w + 1) % 9) rows2 (230 + 4 * nva P' + 2) = (q 3).toInt64 := by rw [z1, updL_ne (by omega), updL_ne (by omega), updL_same]
          have y3 : zrow ((w + 1) % 9) rows2 (230 + 4 * nva P' + 3) = 0 := by rw [z1, updL_ne (by omega), updL_same]
          have y4 : zrow ((w + 1) % 9) rows2 (4) = jL (nva P' + 1) := by rw [z1, updL_same]
          exact Or.inl ⟨_, _, _, _, f8, g_of f9, rfl, rfl, fin2 hw h1 h hz' z2 (Rl_mono (Bt_le t) (Rl_propose hR1 (by omega) hc' hi' r3 r4 (fun q' hq1 hq2 => by rw [z1, updL_ne (by omega), updL_ne (by omega), updL_ne (by omega), updL_ne (by omega), updL_ne (by omega)]) y4 y0 y1 y2 y3))⟩
    · have f8 : f_X8_propose σ (q 1) (q 2) (q 3) = some (.inl ("java/lang/IllegalArgumentException", σ)) := by
        rw [e, ei]
        unfold f_X8_propose
        rw [chk_I hw h1 hR hc, i1, X1_r, r1, X1_l]
      have f9 : f_X9_propose (md_thrown ρ) (md_now ρ) (md_undoable ρ) (md_rows ρ) (q 1) (q 2) (q 3) = some (0, 2, jI w, md_undoable ρ, md_rows ρ) := by
        rw [e, ei, h2]
        unfold f_X9_propose
        rw [is_I hw hR hc i2 (Or.inr rfl), if_neg one_ne, zB1_s, if_neg one_ne, show (-999 : Int64) = (-999 : Int32).toInt64 from rfl, show (999 : Int64) = (999 : Int32).toInt64 from rfl, r2, zB1_s, if_pos rfl, bad2]
      exact Or.inr (Or.inr (Or.inl ⟨_, _, _, f8, g_of f9, rfl, by have hJ := JJ_up h; rw [h2] at hJ; exact hJ⟩))
  · have f8 : f_X8_propose σ (q 1) (q 2) (q 3) = some (.inl ("java/lang/IndexOutOfBoundsException", σ)) := by
      rw [e]
      unfold f_X8_propose
      rw [chk_I hw h1 hR hc, e1, X1_l]
    have f9 : f_X9_propose (md_thrown ρ) (md_now ρ) (md_undoable ρ) (md_rows ρ) (q 1) (q 2) (q 3) = some (0, 1, jI w, md_undoable ρ, md_rows ρ) := by
      rw [e, h2]
      unfold f_X9_propose
      rw [is_I hw hR hc e2 (Or.inl rfl), if_pos rfl, zB1_s, if_pos rfl]
    exact Or.inr (Or.inl ⟨_, _, _, f8, g_of f9, rfl, by have hJ := JJ_up h; rw [h2] at hJ; exact hJ⟩)
  · have f8 : f_X8_propose σ (q 1) (q 2) (q 3) = some (.inl ("java/lang/IndexOutOfBoundsException", σ)) := by
      unfold f_X8_propose
      rw [chk_I0 hw h1 hR e1, X1_l]
    have f9 : f_X9_propose (md_thrown ρ) (md_now ρ) (md_undoable ρ) (md_rows ρ) (q 1) (q 2) (q 3) = some (0, 1, jI w, md_undoable ρ, md_rows ρ) := by
      rw [h2]
      unfold f_X9_propose
      rw [is_I0 hw hR e2, zB1_s, if_pos rfl]
    exact Or.inr (Or.inl ⟨_, _, _, f8, g_of f9, rfl, by have hJ := JJ_up h; rw [h2] at hJ; exact hJ⟩)
theorem lq_37 (h : lw_J ok t σ ρ) : lw_LS (lw_J ok (t + 1)) (lw_JL ok (t + 1)) σ ρ q 37 := by
  obtain ⟨w, hw, h1, h2, hR⟩ := JJ_use h
  have h8 := hR.2.2.1.2.1
  have hbd := hR.2.2.2.2.1.2.1
  have k1 := chk_V hw h1 hR (q 1)
  rcases idx_d (q 1) (n := nva (σ.2.2.2.2.2 w)) (by omega) with ⟨c, hc, e⟩ | ⟨e1, e2⟩
  · obtain ⟨i1, i2⟩ := idx_ok hc (by omega)
    rw [e, i1] at k1
    have k2 := is_V (t := md_thrown ρ) hw hR i2 (Or.inr rfl)
    rw [if_neg one_ne] at k2
    obtain ⟨-, -, ⟨a3, a0, a1⟩⟩ := hR.2.2.2.2.1.2.2.2 c hc
    obtain ⟨cc, ii, hcc, hii, evs, eslot, -, -, c8', i6'⟩ := va_f hR hc
    have qw := qw_bd hR hc
    have bad : f_X9_approve_41 0 (jI w) (md_undoable ρ) (md_rows ρ) (jI c) = some (0, 2, jI w, md_undoable ρ, md_rows ρ) := by
      unfold f_X9_approve_41 f_X9_approve_42
      rw [right_f2, zB1_s, if_pos rfl]
    have no8 : f_X8_approve σ (q 1) = some (.inl ("java/lang/IllegalStateException", σ)) → f_X9_approve (md_thrown ρ) (md_now ρ) (md_undoable ρ) (md_rows ρ) (q 1) = some (0, 2, jI w, md_undoable ρ, md_rows ρ) → lw_LS (lw_J ok (t + 1)) (lw_JL ok (t + 1)) σ ρ q 37 := fun f8 f9 => Or.inr (Or.inr ⟨_, _, _, f8, g_of f9, rfl, by have hJ := JJ_up h; rw [h2] at hJ; exact hJ⟩)
    have pre9 : f_X9_approve (md_thrown ρ) (md_now ρ) (md_undoable ρ) (md_rows ρ) (q 1) = (if pj_va_approved (σ.2.2.2.2.2 w) c = 0 then (if vQW (σ.2.2.2.2.2 w) c < 0 then some (0, 2, jI w, md_undoable ρ, md_rows ρ) else f_X9_approve_42 0 (jI w) (md_undoable ρ) (md_rows ρ) (jI c) 1) else some (0, 2, jI w, md_undoable ρ, md_rows ρ)) := by
      rw [e, h2]
      unfold f_X9_approve
      rw [k2, zB1_s, if_neg one_ne, jI_230, jI_4, jI_mul, jI_add, jI_3, jI_add, X9_get hw (by omega), zB1_s, a3]
      simp only [L_z]
      by_cases hh : pj_va_approved (σ.2.2.2.2.2 w) c = 0
      · rw [if_pos hh, if_pos hh, r_quantityBy hw hR hc, zB1_s, show (0 : Int64) = (0 : Int32).toInt64 from rfl]
        simp only [L_lt]
        by_cases h3 : vQW (σ.2.2.2.2.2 w) c < 0
        · rw [if_pos h3, if_pos h3, bad]
        · rw [if_neg h3, if_neg h3]
      · rw [if_neg hh, if_neg hh, bad]
    by_cases hh : pj_va_approved (σ.2.2.2.2.2 w) c = 0
    · rw [if_pos hh] at pre9
      by_cases h3 : vQW (σ.2.2.2.2.2 w) c < 0
      · rw [if_pos h3] at pre9
        refine no8 ?_ pre9
        rw [e]
        unfold f_X8_approve
        rw [k1, X1_r, zG1_t (gd_w h1 hw), nw_w h1 hw, zR_n (by omega) (by omega), if_pos hh, st_1, X1_r, k_quantityWith hR hc, zB1_s, if_pos h3, st_0, X1_l]
      · rw [if_neg h3] at pre9
        have h3' : ¬ (vQW (σ.2.2.2.2.2 w) c).toInt < (0 : Int32).toInt := fun z => h3 (Int32.lt_iff_toInt_lt.mpr z)
        have e00 : (0 : Int32).toInt = 0 := rfl
        obtain ⟨P', rows1, hb, hch, hR1, hA, hz, hz'⟩ := begin2 hw h1 h2 hR
        have hw1 : (w + 1) % 9 < 9 := by omega
        have hv' : c < nva P' := by
          have : nva P' = nva (σ.2.2.2.2.2 w) := by unfold nva; rw [hA.2.2.2.2.1.1]
          omega
        have hc' : cc < nco P' := by
          have : nco P' = nco (σ.2.2.2.2.2 w) := by unfold nco; rw [hA.2.1.1]
          omega
        have hi' : ii < nit P' cc := by
          have : nit P' cc = nit (σ.2.2.2.2.2 w) cc := by unfold nit; rw [hA.2.2.2.1.1 cc (by omega)]
          omega
        obtain ⟨s1, s2, s3⟩ := hA.2.2.2.2.1.2 c hc
        obtain ⟨-, -, s4, -⟩ := hA.2.2.2.1.2 (cc * 6 + ii) (by omega)
        have f8 : f_X8_approve σ (q 1) = some (.inr (vQW (σ.2.2.2.2.2 w) c, (jI ((w + 1) % 9), (if (8 : Int32) < σ.2.1 + (1 : Int32) then (8 : Int32) else σ.2.1 + (1 : Int32)), σ.2.2.1, σ.2.2.2.1, σ.2.2.2.2.1, va_up (va_up σ.2.2.2.2.2 ((w + 1) % 9) P') ((w + 1) % 9) (ps_it_quantity (ps_va_approved P' (upd (pj_va_approved P') c 1)) (upd (pj_it_quantity P') (cc * 6 + ii) (vQW (σ.2.2.2.2.2 w) c)))))) := by
          rw [e]
          unfold f_X8_approve
          rw [k1, X1_r, zG1_t (gd_w h1 hw), nw_w h1 hw, zR_n (by omega) (by omega), if_pos hh, st_1, X1_r, k_quantityWith hR hc, zB1_s, if_neg h3, X1_r, hb, zB1_s]
          dsimp only
          rw [zG1_t (jI_in hw1 (by omega)), jI_nat (by omega), va_same, zSi_n (by omega) (by omega), zR_n (by omega) (by omega), s1, eslot, zSi_n (by omega) (by omega)]
          rfl
        have f9 : f_X9_approve (md_thrown ρ) (md_now ρ) (md_undoable ρ) (md_rows ρ) (q 1) = some (vQW (σ.2.2.2.2.2 w) c, 0, jI ((w + 1) % 9), (if (8 : Int32) ≤ md_undoable ρ then md_undoable ρ else md_undoable ρ + (1 : Int32)), vp_updL rows1 (2500 * ((w + 1) % 9) + (230 + 4 * c + 3)) 1) := by
          rw [pre9]
          unfold f_X9_approve_42
          rw [right_t, zB1_s, if_neg one_ne, r_quantityBy hw hR hc, zB1_s, hch, zB1_s]
          dsimp only
          rw [jI_230, jI_4, jI_mul, jI_add, jI_3, jI_add, X9_put hw1 (by omega), zB1_s, Int32.toInt32_toInt64]
        refine Or.inl ⟨_, _, _, _, f8, g_of f9, rfl, rfl, fin2 hw h1 h hz' (put_o (by omega)) ?_⟩
        rw [zrow_put]
        refine Rl_mono (Bt_le t) (Rl_approve hR1 hv' (s3.trans hh) hc' hi' (s1.trans eslot) (by omega) ?_)
        rw [s4, s2, qw.2.1, evs]
    · rw [if_neg hh] at pre9
      refine no8 ?_ pre9
      rw [e]
      unfold f_X8_approve
      rw [k1, X1_r, zG1_t (gd_w h1 hw), nw_w h1 hw, zR_n (by omega) (by omega), if_neg hh, st_0, X1_l]
  · rw [e1] at k1
    have k2 := is_V (t := md_thrown ρ) hw hR e2 (Or.inl rfl)
    rw [if_pos rfl] at k2
    have f8 : f_X8_approve σ (q 1) = some (.inl ("java/lang/IndexOutOfBoundsException", σ)) := by
      unfold f_X8_approve
      rw [k1, X1_l]
    have f9 : f_X9_approve (md_thrown ρ) (md_now ρ) (md_undoable ρ) (md_rows ρ) (q 1) = some (0, 1, jI w, md_undoable ρ, md_rows ρ) := by
      rw [h2]
      unfold f_X9_approve
      rw [k2, zB1_s, if_pos rfl]
    exact Or.inr (Or.inl ⟨_, _, _, f8, g_of f9, rfl, by have hJ := JJ_up h; rw [h2] at hJ; exact hJ⟩)
theorem lq_38 (h : lw_J ok t σ ρ) (ht : t < 512) : lw_LS (lw_J ok (t + 1)) (lw_JL ok (t + 1)) σ ρ q 38 := by
  obtain ⟨w, hw, h1, h2, hR⟩ := JJ_use h
  have h8 := hR.2.2.1.2.1
  have hbd := hR.2.2.1.2.1
  have k1 := chk_C hw h1 hR (q 1)
  rcases idx_d (q 1) (n := nco (σ.2.2.2.2.2 w)) (by omega) with ⟨c, hc, e⟩ | ⟨e1, e2⟩
  · obtain ⟨i1, i2⟩ := idx_ok hc (by omega)
    rw [e, i1] at k1
    have k2 := is_C (t := md_thrown ρ) hw hR i2 (Or.inr rfl)
    rw [if_neg one_ne] at k2
    have h40 := hR.2.2.2.2.2.1.2.1
    obtain ⟨st', eg⟩ := k_grossOf hR hc (rj_rd_stk σ.2.2.1)
    have kA : f_X5_amountToCertify (pj_co_retentionPercent (σ.2.2.2.2.2 w)) (pj_co_limitPercent (σ.2.2.2.2.2 w)) (pj_co_stage (σ.2.2.2.2.2 w)) (pj_pg_threshold (σ.2.2.2.2.2 w)) (pj_pg_length (σ.2.2.2.2.2 w)) (pj_pg_clen (σ.2.2.2.2.2 w)) (pj_pg_code (σ.2.2.2.2.2 w)) (rj_rd_stk σ.2.2.1) (pj_it_count (σ.2.2.2.2.2 w)) (pj_it_first (σ.2.2.2.2.2 w)) (pj_it_price (σ.2.2.2.2.2 w)) (pj_it_quantity (σ.2.2.2.2.2 w)) (pj_it_progress (σ.2.2.2.2.2 w)) (pj_ce_count (σ.2.2.2.2.2 w)) (pj_ce_contract (σ.2.2.2.2.2 w)) (pj_ce_amount (σ.2.2.2.2.2 w)) (jI c) = some ((vGross (σ.2.2.2.2.2 w) c - vHeld (σ.2.2.2.2.2 w) c - v_cert (σ.2.2.2.2.2 w) (jI c)), st') := by
      unfold f_X5_amountToCertify
      rw [eg, zB1_s, k_retentionOf hR hc, zB1_s, k_certifiedOf hw hR, zB1_s]
    have pre8 : f_X8_certify σ (q 1) = (if (vGross (σ.2.2.2.2.2 w) c - vHeld (σ.2.2.2.2.2 w) c - v_cert (σ.2.2.2.2.2 w) (jI c)) ≤ 0 then some (.inl ("java/lang/IllegalStateException", (σ.1, σ.2.1, rs_rd_stk σ.2.2.1 st', σ.2.2.2.1, σ.2.2.2.2.1, σ.2.2.2.2.2))) else if 40 ≤ nce (σ.2.2.2.2.2 w) then some (.inl ("java/lang/IllegalStateException", (σ.1, σ.2.1, rs_rd_stk σ.2.2.1 st', σ.2.2.2.1, σ.2.2.2.2.1, σ.2.2.2.2.2))) else zB1 (f_X8_beginChange (σ.1, σ.2.1, rs_rd_stk σ.2.2.1 st', σ.2.2.2.1, σ.2.2.2.2.1, σ.2.2.2.2.2)) fun q_44 => zG1 (¬ (q_44.1 < 0 ∨ 9 ≤ q_44.1.toNatClampNeg)) (zR 8 (pj_co_paymentDays (q_44.2.2.2.2.2 (q_44.1.toNatClampNeg))) (jI c) fun v_63 => zB1 (f_X0_add (pj_ce_count (q_44.2.2.2.2.2 (q_44.1.toNatClampNeg))) (pj_ce_contract (q_44.2.2.2.2.2 (q_44.1.toNatClampNeg))) (pj_ce_amount (q_44.2.2.2.2.2 (q_44.1.toNatClampNeg))) (pj_ce_open (q_44.2.2.2.2.2 (q_44.1.toNatClampNeg))) (pj_ce_issued (q_44.2.2.2.2.2 (q_44.1.toNatClampNeg))) (pj_ce_due (q_44.2.2.2.2.2 (q_44.1.toNatClampNeg))) (jI c) (vGross (σ.2.2.2.2.2 w) c - vHeld (σ.2.2.2.2.2 w) c - v_cert (σ.2.2.2.2.2 w) (jI c)) (pj_pr_day (q_44.2.2.2.2.2 (q_44.1.toNatClampNeg))) ((pj_pr_day (q_44.2.2.2.2.2 (q_44.1.toNatClampNeg))) + v_63)) fun q_81 => some (.inr (q_81.1, (q_44.1, q_44.2.1, q_44.2.2.1, q_44.2.2.2.1, q_44.2.2.2.2.1, (va_up q_44.2.2.2.2.2 (q_44.1.toNatClampNeg) (pm_6 (q_44.2.2.2.2.2 (q_44.1.toNatClampNeg)) q_81.2.1 q_81.2.2.1 q_81.2.2.2.1 q_81.2.2.2.2.1 q_81.2.2.2.2.2.1 q_81.2.2.2.2.2.2))))))) := by
      rw [e]
      unfold f_X8_certify
      rw [k1, X1_r, zG1_t (gd_w h1 hw), nw_w h1 hw, kA, zB1_s, hR.2.2.2.2.2.1.1, jI_40]
      dsimp only
      by_cases g1 : (vGross (σ.2.2.2.2.2 w) c - vHeld (σ.2.2.2.2.2 w) c - v_cert (σ.2.2.2.2.2 w) (jI c)) ≤ 0
      · rw [if_pos g1, if_pos g1, st_0, X1_l]
      · rw [if_neg g1, if_neg g1]
        by_cases g2 : 40 ≤ nce (σ.2.2.2.2.2 w)
        · rw [if_pos g2, if_pos ((jI_le (by omega) (by omega)).mpr g2), st_0, X1_l]
        · rw [if_neg g2, if_neg (fun z => g2 ((jI_le (by omega) (by omega)).mp z)), st_1, X1_r]
    obtain ⟨pl1, eg1⟩ := r_grossOf hw hR hc (md_pile ρ)
    obtain ⟨pl2, eg2⟩ := r_heldOf hw hR hc pl1
    have bad : f_X9_certify_51 0 (jI w) (md_undoable ρ) (md_rows ρ) pl2 (jI c) (vGross (σ.2.2.2.2.2 w) c - vHeld (σ.2.2.2.2.2 w) c - v_cert (σ.2.2.2.2.2 w) (jI c)) = some (0, 2, jI w, md_undoable ρ, md_rows ρ, pl2) := by
      unfold f_X9_certify_51 f_X9_certify_52
      rw [right_f2, zB1_s, if_pos rfl]
    have v5 : zrow w (md_rows ρ) 5 = jL (nce (σ.2.2.2.2.2 w)) := hR.2.2.2.2.2.1.2.2.1
    have pre9 : f_X9_certify (md_thrown ρ) (md_now ρ) (md_undoable ρ) (md_rows ρ) (md_pile ρ) (q 1) = (if (vGross (σ.2.2.2.2.2 w) c - vHeld (σ.2.2.2.2.2 w) c - v_cert (σ.2.2.2.2.2 w) (jI c)) ≤ 0 then some (0, 2, jI w, md_undoable ρ, md_rows ρ, pl2) else if 40 ≤ nce (σ.2.2.2.2.2 w) then some (0, 2, jI w, md_undoable ρ, md_rows ρ, pl2) else f_X9_certify_52 0 (jI w) (md_undoable ρ) (md_rows ρ) pl2 (jI c) (vGross (σ.2.2.2.2.2 w) c - vHeld (σ.2.2.2.2.2 w) c - v_cert (σ.2.2.2.2.2 w) (jI c)) 1) := by
      rw [e, h2]
      unfold f_X9_certify
      rw [k2, zB1_s, if_neg one_ne, eg1, zB1_s, eg2, zB1_s, r_certifiedOf hw hR, zB1_s]
      dsimp only
      rw [bad]
      by_cases g1 : (vGross (σ.2.2.2.2.2 w) c - vHeld (σ.2.2.2.2.2 w) c - v_cert (σ.2.2.2.2.2 w) (jI c)) ≤ 0
      · rw [if_pos g1, if_pos g1]
      · rw [if_neg g1, if_neg g1, jI_5, X9_get hw (by omega), zB1_s, v5, show (40 : Int64) = jL 40 from rfl]
        by_cases g2 : 40 ≤ nce (σ.2.2.2.2.2 w)
        · rw [if_pos g2, if_pos ((jL_le (by omega) (by omega)).mpr g2)]
        · rw [if_neg g2, if_neg (fun z => g2 ((jL_le (by omega) (by omega)).mp z))]
    have hJ0 : lw_J ok t (σ.1, σ.2.1, rs_rd_stk σ.2.2.1 st', σ.2.2.2.1, σ.2.2.2.2.1, σ.2.2.2.2.2) ρ := JJ_st0 h st'
    have UPs : JJ ok (t + 1) σ.1 σ.2.1 (rs_rd_stk σ.2.2.1 st') σ.2.2.2.2.2 (jI w) (md_undoable ρ) (md_rows ρ) (md_bytes ρ) (md_errorAt ρ) (md_text ρ) := by have hJ := JJ_up hJ0; rw [h2] at hJ; exact hJ
    by_cases g1 : (vGross (σ.2.2.2.2.2 w) c - vHeld (σ.2.2.2.2.2 w) c - v_cert (σ.2.2.2.2.2 w) (jI c)) ≤ 0
    · rw [if_pos g1] at pre8 pre9
      exact Or.inr (Or.inr ⟨_, _, _, pre8, g_of pre9, rfl, UPs⟩)
    · rw [if_neg g1] at pre8 pre9
      by_cases g2 : 40 ≤ nce (σ.2.2.2.2.2 w)
      · rw [if_pos g2] at pre8 pre9
        exact Or.inr (Or.inr ⟨_, _, _, pre8, g_of pre9, rfl, UPs⟩)
      · rw [if_neg g2] at pre8 pre9
        have hRs : Rl (Bt t) ((σ.1, σ.2.1, rs_rd_stk σ.2.2.1 st', σ.2.2.2.1, σ.2.2.2.2.1, σ.2.2.2.2.2).2.2.2.2.2 w) (zrow w (md_rows ρ)) := by
          exact hR
        obtain ⟨P', rows1, hb, hch, hR1, hA, hz, hz'⟩ := begin2 (σ := (σ.1, σ.2.1, rs_rd_stk σ.2.2.1 st', σ.2.2.2.1, σ.2.2.2.2.1, σ.2.2.2.2.2)) hw h1 h2 hRs
        have hA : Ag P' (σ.2.2.2.2.2 w) := hA
        have hw1 : (w + 1) % 9 < 9 := by omega
        have ece : nce P' = nce (σ.2.2.2.2.2 w) := by unfold nce; rw [hA.2.2.2.2.2.1.1]
        have hc' : c < nco P' := by
          have : nco P' = nco (σ.2.2.2.2.2 w) := by unfold nco; rw [hA.2.1.1]
          omega
        have cc' : pj_ce_count P' = jI (nce P') := hR1.2.2.2.2.2.1.1
        have v5' : zrow ((w + 1) % 9) rows1 5 = jL (nce P') := hR1.2.2.2.2.2.1.2.2.1
        have v1' : zrow ((w + 1) % 9) rows1 1 = (pj_pr_day P').toInt64 := hR1.1.1
        have v3' : zrow ((w + 1) % 9) rows1 (20 + 26 * c + 3) = (pj_co_paymentDays P' c).toInt64 := (hR1.2.2.1.2.2.2 c hc').2.2.2.1.1
        have f8 : f_X8_certify σ (q 1) = some (.inr (jI (nce P'), (jI ((w + 1) % 9), (if (8 : Int32) < σ.2.1 + (1 : Int32) then (8 : Int32) else σ.2.1 + (1 : Int32)), rs_rd_stk σ.2.2.1 st', σ.2.2.2.1, σ.2.2.2.2.1, va_up (va_up σ.2.2.2.2.2 ((w + 1) % 9) P') ((w + 1) % 9) (pm_6 P' (jI (nce P' + 1)) (upd (pj_ce_contract P') (nce P') (jI c)) (vp_updL (pj_ce_amount P') (nce P') (vGross (σ.2.2.2.2.2 w) c - vHeld (σ.2.2.2.2.2 w) c - v_cert (σ.2.2.2.2.2 w) (jI c))) (vp_updL (pj_ce_open P') (nce P') (vGross (σ.2.2.2.2.2 w) c - vHeld (σ.2.2.2.2.2 w) c - v_cert (σ.2.2.2.2.2 w) (jI c))) (upd (pj_ce_issued P') (nce P') (pj_pr_day P')) (upd (pj_ce_due P') (nce P') (pj_pr_day P' + pj_co_paymentDays P' c)))))) := by
          rw [pre8, hb, zB1_s]
          dsimp only
          rw [zG1_t (jI_in hw1 (by omega)), jI_nat (by omega), va_same, zR_n (by omega) (by omega)]
          unfold f_X0_add
          rw [cc', jI_40, if_pos ((jI_lt (by omega) (by omega)).mpr (by omega)), zSi_n (by omega) (by omega), zSl_n (by omega) (by omega), zSl_n (by omega) (by omega), zSi_n (by omega) (by omega), zSi_n (by omega) (by omega), jI_1, jI_add, jI_sub (by omega), Nat.add_sub_cancel, zB1_s]
        obtain ⟨rows2, f9, z1, z2⟩ : ∃ rows2, f_X9_certify (md_thrown ρ) (md_now ρ) (md_undoable ρ) (md_rows ρ) (md_pile ρ) (q 1) = some (jI (nce P'), 0, jI ((w + 1) % 9), (if (8 : Int32) ≤ md_undoable ρ then md_undoable ρ else md_undoable ρ + (1 : Int32)), rows2, pl2) ∧ zrow ((w + 1) % 9) rows2 = vp_updL (vp_updL (vp_updL (vp_updL (vp_updL (vp_updL (zrow ((w + 1) % 9) rows1) (320 + 5 * nce P') ((jI c).toInt64)) (320 + 5 * nce P' + 1) ((vGross (σ.2.2.2.2.2 w) c - vHeld (σ.2.2.2.2.2 w) c - v_cert (σ.2.2.2.2.2 w) (jI c)))) (320 + 5 * nce P' + 2) (0)) (320 + 5 * nce P' + 3) ((pj_pr_day P').toInt64)) (320 + 5 * nce P' + 4) ((pj_pr_day P').toInt64 + (pj_co_paymentDays P' c).toInt64)) (5) (jL (nce P' + 1)) ∧ ∀ i, i ≠ ((w + 1) % 9) → ∀ q, q < 2500 → zrow i rows2 q = zrow i rows1 q := by
          refine ⟨vp_updL (vp_updL (vp_updL (vp_updL (vp_updL (vp_updL (rows1) (2500 * ((w + 1) % 9) + (320 + 5 * nce P')) ((jI c).toInt64)) (2500 * ((w + 1) % 9) + (320 + 5 * nce P' + 1)) ((vGross (σ.2.2.2.2.2 w) c - vHeld (σ.2.2.2.2.2 w) c - v_cert (σ.2.2.2.2.2 w) (jI c)))) (2500 * ((w + 1) % 9) + (320 + 5 * nce P' + 2)) (0)) (2500 * ((w + 1) % 9) + (320 + 5 * nce P' + 3)) ((pj_pr_day P').toInt64)) (2500 * ((w + 1) % 9) + (320 + 5 * nce P' + 4)) ((pj_pr_day P').toInt64 + (pj_co_paymentDays P' c).toInt64)) (2500 * ((w + 1) % 9) + (5)) (jL (nce P' + 1)), ?_, by simp only [zrow_put], fun i hi q hq => ?_⟩
          · rw [pre9]
            unfold f_X9_certify_52
            rw [right_t, zB1_s, if_neg one_ne, hch, zB1_s]
            dsimp only
            rw [jI_5, X9_small hw1 (by omega), zB1_s, v5', jL_I, X9_bill, zB1_s, X9_put hw1 (by omega), zB1_s, jI_1, jI_add, X9_put hw1 (by omega), zB1_s, jI_2, jI_add, X9_put hw1 (by omega), zB1_s, X9_get hw1 (by omega), zB1_s, zrow_put, updL_ne (by omega), zrow_put, updL_ne (by omega), zrow_put, updL_ne (by omega), v1', jI_3, jI_add, X9_put hw1 (by omega), zB1_s, X9_get hw1 (by omega), zB1_s, zrow_put, updL_ne (by omega), zrow_put, updL_ne (by omega), zrow_put, updL_ne (by omega), zrow_put, updL_ne (by omega), v1', X9_at, zB1_s, jI_add, X9_get hw1 (by omega), zB1_s, zrow_put, updL_ne (by omega), zrow_put, updL_ne (by omega), zrow_put, updL_ne (by omega), zrow_put, updL_ne (by omega), v3', jI_4, jI_add, X9_put hw1 (by omega), zB1_s, X9_get hw1 (by omega), zB1_s, zrow_put, updL_ne (by omega), zrow_put, updL_ne (by omega), zrow_put, updL_ne (by omega), zrow_put, updL_ne (by omega), zrow_put, updL_ne (by omega), v5', jL_1, jL_add, X9_put hw1 (by omega), zB1_s, X9_small hw1 (by omega), zB1_s, zrow_put, updL_same, jL_I, jI_sub (by omega), Nat.add_sub_cancel]
          · rw [put_o (by omega) i hi q hq, put_o (by omega) i hi q hq, put_o (by omega) i hi q hq, put_o (by omega) i hi q hq, put_o (by omega) i hi q hq, put_o (by omega) i hi q hq]
        obtain ⟨b1, b2⟩ := gross_bd hR hc
        obtain ⟨b3, b4⟩ := held_bd hR hc
        obtain ⟨b5, b6⟩ := cert_bd hR (jI c)
        have j1 := J_sub (a := vGross (σ.2.2.2.2.2 w) c) (b := vHeld (σ.2.2.2.2.2 w) c) (by omega) (by omega)
        have j2 := J_sub (a := vGross (σ.2.2.2.2.2 w) c - vHeld (σ.2.2.2.2.2 w) c) (b := v_cert (σ.2.2.2.2.2 w) (jI c)) (by omega) (by omega)
        have g1' : 0 < (vGross (σ.2.2.2.2.2 w) c - vHeld (σ.2.2.2.2.2 w) c - v_cert (σ.2.2.2.2.2 w) (jI c)).toInt := by
          have : ¬ (vGross (σ.2.2.2.2.2 w) c - vHeld (σ.2.2.2.2.2 w) c - v_cert (σ.2.2.2.2.2 w) (jI c)).toInt ≤ (0 : Int64).toInt := fun z => g1 (J_le.mpr z)
          rw [J_0] at this
          omega
        have y0 : zrow ((w + 1) % 9) rows2 (320 + 5 * nce P') = (jI c).toInt64 := by rw [z1, updL_ne (by omega), updL_ne (by omega), updL_ne (by omega), updL_ne (by omega), updL_ne (by omega), updL_same]
        have y1 : zrow ((w + 1) % 9) rows2 (320 + 5 * nce P' + 1) = (vGross (σ.2.2.2.2.2 w) c - vHeld (σ.2.2.2.2.2 w) c - v_cert (σ.2.2.2.2.2 w) (jI c)) := by rw [z1, updL_ne (by omega), updL_ne (by omega), updL_ne (by omega), updL_ne (by omega), updL_same]
        have y2 : zrow ((w + 1) % 9) rows2 (320 + 5 * nce P' + 2) = 0 := by rw [z1, updL_ne (by omega), updL_ne (by omega), updL_ne (by omega), updL_same]
        have y3 : zrow ((w + 1) % 9) rows2 (320 + 5 * nce P' + 3) = (pj_pr_day P').toInt64 := by rw [z1, updL_ne (by omega), updL_ne (by omega), updL_same]
        have y4 : zrow ((w + 1) % 9) rows2 (320 + 5 * nce P' + 4) = (pj_pr_day P').toInt64 + (pj_co_paymentDays P' c).toInt64 := by rw [z1, updL_ne (by omega), updL_same]
        have y5 : zrow ((w + 1) % 9) rows2 (5) = jL (nce P' + 1) := by rw [z1, updL_same]
        exact Or.inl ⟨_, _, _, _, f8, g_of f9, rfl, rfl, fin2 (σ := (σ.1, σ.2.1, rs_rd_stk σ.2.2.1 st', σ.2.2.2.1, σ.2.2.2.2.1, σ.2.2.2.2.2)) hw h1 hJ0 hz' z2 (Rl_mono (Bt_le t) (Rl_certify hR1 (by unfold Bt; omega) (by omega) hc' g1' (by omega) (fun q' hq1 hq2 => by rw [z1, updL_ne (by omega), updL_ne (by omega), updL_ne (by omega), updL_ne (by omega), updL_ne (by omega), updL_ne (by omega)]) y5 y0 y1 y2 y3 y4))⟩
  · rw [e1] at k1
    have k2 := is_C (t := md_thrown ρ) hw hR e2 (Or.inl rfl)
    rw [if_pos rfl] at k2
    have f8 : f_X8_certify σ (q 1) = some (.inl ("java/lang/IndexOutOfBoundsException", σ)) := by
      unfold f_X8_certify
      rw [k1, X1_l]
    have f9 : f_X9_certify (md_thrown ρ) (md_now ρ) (md_undoable ρ) (md_rows ρ) (md_pile ρ) (q 1) = some (0, 1, jI w, md_undoable ρ, md_rows ρ, md_pile ρ) := by
      rw [h2]
      unfold f_X9_certify
      rw [k2, zB1_s, if_pos rfl]
    exact Or.inr (Or.inl ⟨_, _, _, f8, g_of f9, rfl, by have hJ := JJ_up h; rw [h2] at hJ; exact hJ⟩)
theorem lq_44 (h : lw_J ok t σ ρ) (ht : t < 512) : lw_LS (lw_J ok (t + 1)) (lw_JL ok (t + 1)) σ ρ q 44 := by
  obtain ⟨w, hw, h1, h2, hR⟩ := JJ_use h
  have h8 := hR.2.2.1.2.1
  have hbd := hR.2.2.1.2.1
  have k1 := chk_C hw h1 hR (q 1)
  rcases idx_d (q 1) (n := nco (σ.2.2.2.2.2 w)) (by omega) with ⟨c, hc, e⟩ | ⟨e1, e2⟩
  · obtain ⟨i1, i2⟩ := idx_ok hc (by omega)
    rw [e, i1] at k1
    have k2 := is_C (t := md_thrown ρ) hw hR i2 (Or.inr rfl)
    rw [if_neg one_ne] at k2
    have h12 := hR.2.2.2.2.2.2.1.2.1
    have kO : f_X5_overdueOf (pj_pr_day (σ.2.2.2.2.2 w)) (pj_ce_count (σ.2.2.2.2.2 w)) (pj_ce_contract (σ.2.2.2.2.2 w)) (pj_ce_open (σ.2.2.2.2.2 w)) (pj_ce_due (σ.2.2.2.2.2 w)) (jI c) = some (v_ovd (σ.2.2.2.2.2 w) (jI c) (pj_pr_day (σ.2.2.2.2.2 w))) := by
      unfold f_X5_overdueOf
      rw [k_overdueOf hw hR, zB1_s]
    have bad : f_X9_fileLien_53 0 (jI w) (md_undoable ρ) (md_rows ρ) (jI c) (v_ovd (σ.2.2.2.2.2 w) (jI c) (pj_pr_day (σ.2.2.2.2.2 w))) = some (0, 2, jI w, md_undoable ρ, md_rows ρ) := by
      unfold f_X9_fileLien_53 f_X9_fileLien_54
      rw [right_f2, zB1_s, if_pos rfl]
    have v6 : zrow w (md_rows ρ) 6 = jL (nli (σ.2.2.2.2.2 w)) := hR.2.2.2.2.2.2.1.2.2.1
    have no8 : f_X8_fileLien σ (q 1) = some (.inl ("java/lang/IllegalStateException", σ)) → f_X9_fileLien (md_thrown ρ) (md_now ρ) (md_undoable ρ) (md_rows ρ) (q 1) = some (0, 2, jI w, md_undoable ρ, md_rows ρ) → lw_LS (lw_J ok (t + 1)) (lw_JL ok (t + 1)) σ ρ q 44 := fun f8 f9 => Or.inr (Or.inr ⟨_, _, _, f8, g_of f9, rfl, by have hJ := JJ_up h; rw [h2] at hJ; exact hJ⟩)
    have pre9 : f_X9_fileLien (md_thrown ρ) (md_now ρ) (md_undoable ρ) (md_rows ρ) (q 1) = (if (v_ovd (σ.2.2.2.2.2 w) (jI c) (pj_pr_day (σ.2.2.2.2.2 w))) ≤ 0 then some (0, 2, jI w, md_undoable ρ, md_rows ρ) else if v_has (σ.2.2.2.2.2 w) (jI c) = true then some (0, 2, jI w, md_undoable ρ, md_rows ρ) else if 12 ≤ nli (σ.2.2.2.2.2 w) then some (0, 2, jI w, md_undoable ρ, md_rows ρ) else f_X9_fileLien_54 0 (jI w) (md_undoable ρ) (md_rows ρ) (jI c) (v_ovd (σ.2.2.2.2.2 w) (jI c) (pj_pr_day (σ.2.2.2.2.2 w))) 1) := by
      rw [e, h2]
      unfold f_X9_fileLien
      rw [k2, zB1_s, if_neg one_ne, jI_1, X9_get hw (by omega), zB1_s, hR.1.1, r_openBefore hw hR, zB1_s]
      dsimp only
      rw [bad]
      by_cases g1 : (v_ovd (σ.2.2.2.2.2 w) (jI c) (pj_pr_day (σ.2.2.2.2.2 w))) ≤ 0
      · rw [if_pos g1, if_pos g1]
      · rw [if_neg g1, if_neg g1, r_hasClaim hw hR, zB1_s]
        by_cases g3 : v_has (σ.2.2.2.2.2 w) (jI c) = true
        · rw [if_pos g3, if_pos g3, if_neg one_ne]
        · rw [if_neg g3, if_neg g3, if_pos rfl, jI_6, X9_get hw (by omega), zB1_s, v6, show (12 : Int64) = jL 12 from rfl]
          by_cases g2 : 12 ≤ nli (σ.2.2.2.2.2 w)
          · rw [if_pos g2, if_pos ((jL_le (by omega) (by omega)).mpr g2)]
          · rw [if_neg g2, if_neg (fun z => g2 ((jL_le (by omega) (by omega)).mp z))]
    by_cases g1 : (v_ovd (σ.2.2.2.2.2 w) (jI c) (pj_pr_day (σ.2.2.2.2.2 w))) ≤ 0
    · rw [if_pos g1] at pre9
      refine no8 ?_ pre9
      rw [e]
      unfold f_X8_fileLien
      rw [k1, X1_r, zG1_t (gd_w h1 hw), nw_w h1 hw, kO, zB1_s, if_pos g1, st_0, X1_l]
    rw [if_neg g1] at pre9
    by_cases g3 : v_has (σ.2.2.2.2.2 w) (jI c) = true
    · rw [if_pos g3] at pre9
      refine no8 ?_ pre9
      rw [e]
      unfold f_X8_fileLien
      rw [k1, X1_r, zG1_t (gd_w h1 hw), nw_w h1 hw, kO, zB1_s, if_neg g1, k_hasClaim hw hR, zB1_s, if_pos g3, if_neg one_ne, st_0, X1_l]
    rw [if_neg g3] at pre9
    by_cases g2 : 12 ≤ nli (σ.2.2.2.2.2 w)
    · rw [if_pos g2] at pre9
      refine no8 ?_ pre9
      rw [e]
      unfold f_X8_fileLien
      rw [k1, X1_r, zG1_t (gd_w h1 hw), nw_w h1 hw, kO, zB1_s, if_neg g1, k_hasClaim hw hR, zB1_s, if_neg g3, if_pos rfl, st_1, X1_r, hR.2.2.2.2.2.2.1.1, show (12 : Int32) = jI 12 from rfl, if_pos ((jI_le (by omega) (by omega)).mpr g2), st_0, X1_l]
    · rw [if_neg g2] at pre9
      obtain ⟨P', rows1, hb, hch, hR1, hA, hz, hz'⟩ := begin2 hw h1 h2 hR
      have hw1 : (w + 1) % 9 < 9 := by omega
      have eli : nli P' = nli (σ.2.2.2.2.2 w) := by unfold nli; rw [hA.2.2.2.2.2.2.1]
      have hc' : c < nco P' := by
        have : nco P' = nco (σ.2.2.2.2.2 w) := by unfold nco; rw [hA.2.1.1]
        omega
      have cc' : pj_li_count P' = jI (nli P') := hR1.2.2.2.2.2.2.1.1
      have v6' : zrow ((w + 1) % 9) rows1 6 = jL (nli P') := hR1.2.2.2.2.2.2.1.2.2.1
      have v1' : zrow ((w + 1) % 9) rows1 1 = (pj_pr_day P').toInt64 := hR1.1.1
      have f8 : f_X8_fileLien σ (q 1) = some (.inr (jI (nli P'), (jI ((w + 1) % 9), (if (8 : Int32) < σ.2.1 + (1 : Int32) then (8 : Int32) else σ.2.1 + (1 : Int32)), σ.2.2.1, σ.2.2.2.1, σ.2.2.2.2.1, va_up (va_up σ.2.2.2.2.2 ((w + 1) % 9) P') ((w + 1) % 9) (pm_11 P' (jI (nli P' + 1)) (upd (pj_li_contract P') (nli P') (jI c)) (vp_updL (pj_li_amount P') (nli P') (v_ovd (σ.2.2.2.2.2 w) (jI c) (pj_pr_day (σ.2.2.2.2.2 w)))) (upd (pj_li_filed P') (nli P') (pj_pr_day P')) (upd (pj_li_withdrawn P') (nli P') 0))))) := by
        rw [e]
        unfold f_X8_fileLien
        rw [k1, X1_r, zG1_t (gd_w h1 hw), nw_w h1 hw, kO, zB1_s, if_neg g1, k_hasClaim hw hR, zB1_s, if_neg g3, if_pos rfl, st_1, X1_r, hR.2.2.2.2.2.2.1.1, show (12 : Int32) = jI 12 from rfl, if_neg (fun z => g2 ((jI_le (by omega) (by omega)).mp z)), X1_r, hb, zB1_s]
        dsimp only
        rw [zG1_t (jI_in hw1 (by omega)), jI_nat (by omega), va_same]
        unfold f_X3_add
        rw [cc', show (12 : Int32) = jI 12 from rfl, if_pos ((jI_lt (by omega) (by omega)).mpr (by omega)), zSi_n (by omega) (by omega), zSl_n (by omega) (by omega), zSi_n (by omega) (by omega), zSi_n (by omega) (by omega), jI_1, jI_add, jI_sub (by omega), Nat.add_sub_cancel, zB1_s]
        rfl
      obtain ⟨rows2, f9, z1, z2⟩ : ∃ rows2, f_X9_fileLien (md_thrown ρ) (md_now ρ) (md_undoable ρ) (md_rows ρ) (q 1) = some (jI (nli P'), 0, jI ((w + 1) % 9), (if (8 : Int32) ≤ md_undoable ρ then md_undoable ρ else md_undoable ρ + (1 : Int32)), rows2) ∧ zrow ((w + 1) % 9) rows2 = vp_updL (vp_updL (vp_updL (vp_updL (vp_updL (zrow ((w + 1) % 9) rows1) (530 + 4 * nli P') ((jI c).toInt64)) (530 + 4 * nli P' + 1) ((v_ovd (σ.2.2.2.2.2 w) (jI c) (pj_pr_day (σ.2.2.2.2.2 w))))) (530 + 4 * nli P' + 2) ((pj_pr_day P').toInt64)) (530 + 4 * nli P' + 3) (0)) (6) (jL (nli P' + 1)) ∧ ∀ i, i ≠ ((w + 1) % 9) → ∀ q, q < 2500 → zrow i rows2 q = zrow i rows1 q := by
        refine ⟨vp_updL (vp_updL (vp_updL (vp_updL (vp_updL (rows1) (2500 * ((w + 1) % 9) + (530 + 4 * nli P')) ((jI c).toInt64)) (2500 * ((w + 1) % 9) + (530 + 4 * nli P' + 1)) ((v_ovd (σ.2.2.2.2.2 w) (jI c) (pj_pr_day (σ.2.2.2.2.2 w))))) (2500 * ((w + 1) % 9) + (530 + 4 * nli P' + 2)) ((pj_pr_day P').toInt64)) (2500 * ((w + 1) % 9) + (530 + 4 * nli P' + 3)) (0)) (2500 * ((w + 1) % 9) + (6)) (jL (nli P' + 1)), ?_, by simp only [zrow_put], fun i hi q hq => ?_⟩
        · rw [pre9]
          unfold f_X9_fileLien_54
          rw [right_t, zB1_s, if_neg one_ne, hch, zB1_s]
          dsimp only
          rw [jI_6, X9_small hw1 (by omega), zB1_s, v6', jL_I, X9_lien, zB1_s, X9_put hw1 (by omega), zB1_s, jI_1, jI_add, X9_put hw1 (by omega), zB1_s, X9_get hw1 (by omega), zB1_s, zrow_put, updL_ne (by omega), zrow_put, updL_ne (by omega), v1', jI_2, jI_add, X9_put hw1 (by omega), zB1_s, jI_3, jI_add, X9_put hw1 (by omega), zB1_s, X9_get hw1 (by omega), zB1_s, zrow_put, updL_ne (by omega), zrow_put, updL_ne (by omega), zrow_put, updL_ne (by omega), zrow_put, updL_ne (by omega), v6', jL_1, jL_add, X9_put hw1 (by omega), zB1_s, X9_small hw1 (by omega), zB1_s, zrow_put, updL_same, jL_I, jI_sub (by omega), Nat.add_sub_cancel]
        · rw [put_o (by omega) i hi q hq, put_o (by omega) i hi q hq, put_o (by omega) i hi q hq, put_o (by omega) i hi q hq, put_o (by omega) i hi q hq]
      obtain ⟨b1, b2⟩ := ovd_bd hR (jI c) (pj_pr_day (σ.2.2.2.2.2 w))
      have y0 : zrow ((w + 1) % 9) rows2 (530 + 4 * nli P') = (jI c).toInt64 := by rw [z1, updL_ne (by omega), updL_ne (by omega), updL_ne (by omega), updL_ne (by omega), updL_same]
      have y1 : zrow ((w + 1) % 9) rows2 (530 + 4 * nli P' + 1) = (v_ovd (σ.2.2.2.2.2 w) (jI c) (pj_pr_day (σ.2.2.2.2.2 w))) := by rw [z1, updL_ne (by omega), updL_ne (by omega), updL_ne (by omega), updL_same]
      have y2 : zrow ((w + 1) % 9) rows2 (530 + 4 * nli P' + 2) = (pj_pr_day P').toInt64 := by rw [z1, updL_ne (by omega), updL_ne (by omega), updL_same]
      have y3 : zrow ((w + 1) % 9) rows2 (530 + 4 * nli P' + 3) = 0 := by rw [z1, updL_ne (by omega), updL_same]
      have y4 : zrow ((w + 1) % 9) rows2 (6) = jL (nli P' + 1) := by rw [z1, updL_same]
      exact Or.inl ⟨_, _, _, _, f8, g_of f9, rfl, rfl, fin2 hw h1 h hz' z2 (Rl_mono (Bt_le t) (Rl_file hR1 (by unfold Bt; omega) (by omega) hc' b1 b2 (fun q' hq1 hq2 => by rw [z1, updL_ne (by omega), updL_ne (by omega), updL_ne (by omega), updL_ne (by omega), updL_ne (by omega)]) y4 y0 y1 y2 y3))⟩
  · rw [e1] at k1
    have k2 := is_C (t := md_thrown ρ) hw hR e2 (Or.inl rfl)
    rw [if_pos rfl] at k2
    have f8 : f_X8_fileLien σ (q 1) = some (.inl ("java/lang/IndexOutOfBoundsException", σ)) := by
      unfold f_X8_fileLien
      rw [k1, X1_l]
    have f9 : f_X9_fileLien (md_thrown ρ) (md_now ρ) (md_undoable ρ) (md_rows ρ) (q 1) = some (0, 1, jI w, md_undoable ρ, md_rows ρ) := by
      rw [h2]
      unfold f_X9_fileLien
      rw [k2, zB1_s, if_pos rfl]
    exact Or.inr (Or.inl ⟨_, _, _, f8, g_of f9, rfl, by have hJ := JJ_up h; rw [h2] at hJ; exact hJ⟩)
end MUTP
