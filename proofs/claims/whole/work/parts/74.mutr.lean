section MUTR
variable {ok : PgT → Prop} {t : Nat} {σ : LgT} {ρ : MdT} {q : Nat → Int32}
theorem lq_45 (h : lw_J ok t σ ρ) : lw_LS (lw_J ok (t + 1)) (lw_JL ok (t + 1)) σ ρ q 45 := by
  obtain ⟨w, hw, h1, h2, hR⟩ := JJ_use h
  have h8 := hR.2.2.1.2.1
  have hbd := hR.2.2.2.2.2.2.1.2.1
  have k1 := chk_L hw h1 hR (q 1)
  rcases idx_d (q 1) (n := nli (σ.2.2.2.2.2 w)) (by omega) with ⟨c, hc, e⟩ | ⟨e1, e2⟩
  · obtain ⟨i1, i2⟩ := idx_ok hc (by omega)
    rw [e, i1] at k1
    have k2 := is_L (t := md_thrown ρ) hw hR i2 (Or.inr rfl)
    rw [if_neg one_ne] at k2
    obtain ⟨-, -, -, ⟨w3, w0, w1⟩⟩ := hR.2.2.2.2.2.2.1.2.2.2 c hc
    rcases I_01 w0 w1 with hh | hh
    · obtain ⟨P', rows1, hb, hch, hR1, hA, hz, hz'⟩ := begin2 hw h1 h2 hR
      have hw1 : (w + 1) % 9 < 9 := by omega
      have hc' : c < nli P' := by
        have : nli P' = nli (σ.2.2.2.2.2 w) := by unfold nli; rw [hA.2.2.2.2.2.2.1]
        omega
      have f8 : f_X8_withdrawLien σ (q 1) = some (.inr (v_claim (σ.2.2.2.2.2 w) c, (jI ((w + 1) % 9), (if (8 : Int32) < σ.2.1 + (1 : Int32) then (8 : Int32) else σ.2.1 + (1 : Int32)), σ.2.2.1, σ.2.2.2.1, σ.2.2.2.2.1, va_up (va_up σ.2.2.2.2.2 ((w + 1) % 9) P') ((w + 1) % 9) (ps_li_withdrawn P' (upd (pj_li_withdrawn P') c 1))))) := by
        rw [e]
        unfold f_X8_withdrawLien
        rw [k1, X1_r, zG1_t (gd_w h1 hw), nw_w h1 hw, zR_n (by omega) (by omega), if_pos hh, st_1, X1_r, k_claimOf hw hR hc, zB1_s, hb, zB1_s]
        dsimp only
        rw [zG1_t (jI_in hw1 (by omega)), jI_nat (by omega), va_same, zSi_n (by omega) (by omega)]
        rfl
      have f9 : f_X9_withdrawLien (md_thrown ρ) (md_now ρ) (md_undoable ρ) (md_rows ρ) (q 1) = some (v_claim (σ.2.2.2.2.2 w) c, 0, jI ((w + 1) % 9), (if (8 : Int32) ≤ md_undoable ρ then md_undoable ρ else md_undoable ρ + (1 : Int32)), vp_updL rows1 (2500 * ((w + 1) % 9) + (530 + 4 * c + 3)) 1) := by
        rw [e, h2]
        unfold f_X9_withdrawLien
        rw [k2, zB1_s, if_neg one_ne, X9_lien, zB1_s, jI_3, jI_add, X9_get hw (by omega), zB1_s, w3, hh, if_pos (by decide)]
        unfold f_X9_withdrawLien_29
        rw [right_t, zB1_s, if_neg one_ne, r_claimOf hw hR hc, zB1_s, hch, zB1_s, X9_lien, zB1_s]
        dsimp only
        rw [jI_3, jI_add, X9_put hw1 (by omega), zB1_s]
      exact Or.inl ⟨_, _, _, _, f8, g_of f9, rfl, rfl, fin2 hw h1 h hz' (put_o (by omega)) (by rw [zrow_put]; exact Rl_mono (Bt_le t) (Rl_withdraw hR1 hc'))⟩
    · have f8 : f_X8_withdrawLien σ (q 1) = some (.inl ("java/lang/IllegalStateException", σ)) := by
        rw [e]
        unfold f_X8_withdrawLien
        rw [k1, X1_r, zG1_t (gd_w h1 hw), nw_w h1 hw, zR_n (by omega) (by omega), hh, if_neg one_ne, st_0, X1_l]
      have f9 : f_X9_withdrawLien (md_thrown ρ) (md_now ρ) (md_undoable ρ) (md_rows ρ) (q 1) = some (0, 2, jI w, md_undoable ρ, md_rows ρ) := by
        rw [e, h2]
        unfold f_X9_withdrawLien
        rw [k2, zB1_s, if_neg one_ne, X9_lien, zB1_s, jI_3, jI_add, X9_get hw (by omega), zB1_s, w3, hh, if_neg (by decide)]
        unfold f_X9_withdrawLien_29
        rw [right_f2, zB1_s, if_pos rfl]
      exact Or.inr (Or.inr ⟨_, _, _, f8, g_of f9, rfl, by have hJ := JJ_up h; rw [h2] at hJ; exact hJ⟩)
  · rw [e1] at k1
    have k2 := is_L (t := md_thrown ρ) hw hR e2 (Or.inl rfl)
    rw [if_pos rfl] at k2
    have f8 : f_X8_withdrawLien σ (q 1) = some (.inl ("java/lang/IndexOutOfBoundsException", σ)) := by
      unfold f_X8_withdrawLien
      rw [k1, X1_l]
    have f9 : f_X9_withdrawLien (md_thrown ρ) (md_now ρ) (md_undoable ρ) (md_rows ρ) (q 1) = some (0, 1, jI w, md_undoable ρ, md_rows ρ) := by
      rw [h2]
      unfold f_X9_withdrawLien
      rw [k2, zB1_s, if_pos rfl]
    exact Or.inr (Or.inl ⟨_, _, _, f8, g_of f9, rfl, by have hJ := JJ_up h; rw [h2] at hJ; exact hJ⟩)
theorem lq_39 (h : lw_J ok t σ ρ) : lw_LS (lw_J ok (t + 1)) (lw_JL ok (t + 1)) σ ρ q 39 := by
  obtain ⟨w, hw, h1, h2, hR⟩ := JJ_use h
  have h8 := hR.2.2.1.2.1
  have hbd := hR.2.2.1.2.1
  have k1 := chk_C hw h1 hR (q 1)
  rcases idx_d (q 1) (n := nco (σ.2.2.2.2.2 w)) (by omega) with ⟨c, hc, e⟩ | ⟨e1, e2⟩
  · obtain ⟨i1, i2⟩ := idx_ok hc (by omega)
    rw [e, i1] at k1
    have k2 := is_C (t := md_thrown ρ) hw hR i2 (Or.inr rfl)
    rw [if_neg one_ne] at k2
    obtain ⟨-, -, -, -, -, -, ⟨c6, c0, c2⟩⟩ := hR.2.2.1.2.2.2 c hc
    have z2 : (2 : Int32).toInt = 2 := rfl
    have z0 : (0 : Int32).toInt = 0 := rfl
    have z1 : (1 : Int32).toInt = 1 := rfl
    have okk : ¬ (2 : Int32) ≤ pj_co_stage (σ.2.2.2.2.2 w) c → ((0 : Int32) < pj_co_stage (σ.2.2.2.2.2 w) c ∨ v_open1 (σ.2.2.2.2.2 w) c = false) → lw_LS (lw_J ok (t + 1)) (lw_JL ok (t + 1)) σ ρ q 39 := by
      intro g1 g2
      have g1' : ¬ (2 : Int32).toInt ≤ (pj_co_stage (σ.2.2.2.2.2 w) c).toInt := fun z => g1 (Int32.le_iff_toInt_le.mpr z)
      have ev := I_add (a := pj_co_stage (σ.2.2.2.2.2 w) c) (b := 1) (by omega) (by omega)
      obtain ⟨P', rows1, hb, hch, hR1, hA, hz, hz'⟩ := begin2 hw h1 h2 hR
      have hw1 : (w + 1) % 9 < 9 := by omega
      have hc' : c < nco P' := by
        have : nco P' = nco (σ.2.2.2.2.2 w) := by unfold nco; rw [hA.2.1.1]
        omega
      have f8 : f_X8_nextStage σ (q 1) = some (.inr (pj_co_stage (σ.2.2.2.2.2 w) c + 1, (jI ((w + 1) % 9), (if (8 : Int32) < σ.2.1 + (1 : Int32) then (8 : Int32) else σ.2.1 + (1 : Int32)), σ.2.2.1, σ.2.2.2.1, σ.2.2.2.2.1, va_up (va_up σ.2.2.2.2.2 ((w + 1) % 9) P') ((w + 1) % 9) (ps_co_stage P' (upd (pj_co_stage P') c (pj_co_stage (σ.2.2.2.2.2 w) c + 1)))))) := by
        rw [e]
        unfold f_X8_nextStage
        rw [k1, X1_r, zG1_t (gd_w h1 hw), nw_w h1 hw, zR_n (by omega) (by omega), if_neg g1, st_1, X1_r]
        by_cases g3 : (0 : Int32) < pj_co_stage (σ.2.2.2.2.2 w) c
        · rw [if_pos g3, X1_r, hb, zB1_s]
          dsimp only
          rw [zG1_t (jI_in hw1 (by omega)), jI_nat (by omega), va_same, zSi_n (by omega) (by omega)]
        · rw [if_neg g3, k_areComplete hR hc, zB1_s, g2.resolve_left g3, show (if false = true then (0:Int32) else 1) = 1 from rfl, if_neg one_ne, X1_r, hb, zB1_s]
          dsimp only
          rw [zG1_t (jI_in hw1 (by omega)), jI_nat (by omega), va_same, zSi_n (by omega) (by omega)]
      have f9 : f_X9_nextStage (md_thrown ρ) (md_now ρ) (md_undoable ρ) (md_rows ρ) (q 1) = some (pj_co_stage (σ.2.2.2.2.2 w) c + 1, 0, jI ((w + 1) % 9), (if (8 : Int32) ≤ md_undoable ρ then md_undoable ρ else md_undoable ρ + (1 : Int32)), vp_updL rows1 (2500 * ((w + 1) % 9) + (20 + 26 * c + 6)) (pj_co_stage (σ.2.2.2.2.2 w) c + 1).toInt64) := by
        rw [e, h2]
        unfold f_X9_nextStage
        rw [k2, zB1_s, if_neg one_ne, X9_at, zB1_s, jI_6, jI_add, X9_get hw (by omega), zB1_s, c6, show (2 : Int64) = (2 : Int32).toInt64 from rfl, show (0 : Int64) = (0 : Int32).toInt64 from rfl]
        simp only [L_le, L_lt]
        have last : f_X9_nextStage_46 0 (jI w) (md_undoable ρ) (md_rows ρ) (jI c) (pj_co_stage (σ.2.2.2.2.2 w) c).toInt64 = some (pj_co_stage (σ.2.2.2.2.2 w) c + 1, 0, jI ((w + 1) % 9), (if (8 : Int32) ≤ md_undoable ρ then md_undoable ρ else md_undoable ρ + (1 : Int32)), vp_updL rows1 (2500 * ((w + 1) % 9) + (20 + 26 * c + 6)) (pj_co_stage (σ.2.2.2.2.2 w) c + 1).toInt64) := by
          unfold f_X9_nextStage_46 f_X9_nextStage_51
          rw [right_t, zB1_s, if_neg one_ne, hch, zB1_s, X9_at, zB1_s]
          dsimp only
          rw [jI_6, jI_add, X9_put hw1 (by omega), zB1_s, Int32.toInt32_toInt64, C_add (by omega) (by omega)]
          rfl
        rw [if_neg g1]
        by_cases g3 : (0 : Int32) < pj_co_stage (σ.2.2.2.2.2 w) c
        · rw [if_pos g3]
          exact last
        · rw [if_neg g3, r_isDone hw hR hc, zB1_s, g2.resolve_left g3, show (if false = true then (0:Int32) else 1) = 1 from rfl, if_neg one_ne]
          exact last
      exact Or.inl ⟨_, _, _, _, f8, g_of f9, rfl, rfl, fin2 hw h1 h hz' (put_o (by omega)) (by rw [zrow_put]; exact Rl_mono (Bt_le t) (Rl_stage hR1 hc' (by omega) (by omega)))⟩
    have no8 : f_X8_nextStage σ (q 1) = some (.inl ("java/lang/IllegalStateException", σ)) → f_X9_nextStage (md_thrown ρ) (md_now ρ) (md_undoable ρ) (md_rows ρ) (q 1) = some (0, 2, jI w, md_undoable ρ, md_rows ρ) → lw_LS (lw_J ok (t + 1)) (lw_JL ok (t + 1)) σ ρ q 39 := fun f8 f9 => Or.inr (Or.inr ⟨_, _, _, f8, g_of f9, rfl, by have hJ := JJ_up h; rw [h2] at hJ; exact hJ⟩)
    have bad : f_X9_nextStage_50 0 (jI w) (md_undoable ρ) (md_rows ρ) (jI c) (pj_co_stage (σ.2.2.2.2.2 w) c).toInt64 = some (0, 2, jI w, md_undoable ρ, md_rows ρ) := by
      unfold f_X9_nextStage_50 f_X9_nextStage_51
      rw [right_f2, zB1_s, if_pos rfl]
    by_cases g1 : (2 : Int32) ≤ pj_co_stage (σ.2.2.2.2.2 w) c
    · refine no8 ?_ ?_
      · rw [e]
        unfold f_X8_nextStage
        rw [k1, X1_r, zG1_t (gd_w h1 hw), nw_w h1 hw, zR_n (by omega) (by omega), if_pos g1, st_0, X1_l]
      · rw [e, h2]
        unfold f_X9_nextStage
        rw [k2, zB1_s, if_neg one_ne, X9_at, zB1_s, jI_6, jI_add, X9_get hw (by omega), zB1_s, c6, show (2 : Int64) = (2 : Int32).toInt64 from rfl]
        simp only [L_le]
        rw [if_pos g1]
        exact bad
    · by_cases g3 : (0 : Int32) < pj_co_stage (σ.2.2.2.2.2 w) c
      · exact okk g1 (Or.inl g3)
      · cases g4 : v_open1 (σ.2.2.2.2.2 w) c with
        | false => exact okk g1 (Or.inr g4)
        | true =>
          refine no8 ?_ ?_
          · rw [e]
            unfold f_X8_nextStage
            rw [k1, X1_r, zG1_t (gd_w h1 hw), nw_w h1 hw, zR_n (by omega) (by omega), if_neg g1, st_1, X1_r, if_neg g3, k_areComplete hR hc, zB1_s, g4, show (if true = true then (0:Int32) else 1) = 0 from rfl, if_pos rfl, st_0, X1_l]
          · rw [e, h2]
            unfold f_X9_nextStage
            rw [k2, zB1_s, if_neg one_ne, X9_at, zB1_s, jI_6, jI_add, X9_get hw (by omega), zB1_s, c6, show (2 : Int64) = (2 : Int32).toInt64 from rfl, show (0 : Int64) = (0 : Int32).toInt64 from rfl]
            simp only [L_le, L_lt]
            rw [if_neg g1, if_neg g3, r_isDone hw hR hc, zB1_s, g4, show (if true = true then (0:Int32) else 1) = 0 from rfl, if_pos rfl]
            exact bad
  · rw [e1] at k1
    have k2 := is_C (t := md_thrown ρ) hw hR e2 (Or.inl rfl)
    rw [if_pos rfl] at k2
    have f8 : f_X8_nextStage σ (q 1) = some (.inl ("java/lang/IndexOutOfBoundsException", σ)) := by
      unfold f_X8_nextStage
      rw [k1, X1_l]
    have f9 : f_X9_nextStage (md_thrown ρ) (md_now ρ) (md_undoable ρ) (md_rows ρ) (q 1) = some (0, 1, jI w, md_undoable ρ, md_rows ρ) := by
      rw [h2]
      unfold f_X9_nextStage
      rw [k2, zB1_s, if_pos rfl]
    exact Or.inr (Or.inl ⟨_, _, _, f8, g_of f9, rfl, by have hJ := JJ_up h; rw [h2] at hJ; exact hJ⟩)
theorem chk_P {w : Nat} {B : Int} {rows : Nat → Int64} (hw : w < 9) (h1 : σ.1 = jI w) (hR : Rl B (σ.2.2.2.2.2 w) (zrow w rows)) : f_X8_checkProject σ = (if nco (σ.2.2.2.2.2 w) = 0 then some (.inl "java/lang/IllegalStateException") else some (.inr ())) := by
  have h8 := hR.2.2.1.2.1
  unfold f_X8_checkProject
  rw [zG1_t (gd_w h1 hw), nw_w h1 hw, hR.2.2.1.1]
  by_cases h : nco (σ.2.2.2.2.2 w) = 0
  · rw [if_pos h, h, if_pos (by decide), st_0, X1_l]
  · rw [if_neg h, if_neg (fun z => h (by have := (jI_le (a := nco (σ.2.2.2.2.2 w)) (b := 0) (by omega) (by omega)).mp z; omega)), st_1, X1_r]
theorem zR_0 {α β : Type} {n : Nat} {f : Nat → α} {K : α → Option β} (h : 0 < n) (hn : n ≤ 2147483648) : zR n f (0 : Int32) K = K (f 0) := zR_n (k := 0) h hn
theorem zSl_0 {β : Type} {n : Nat} {f : Nat → Int64} {x : Int64} {K : (Nat → Int64) → Option β} (h : 0 < n) (hn : n ≤ 2147483648) : zSl n f (0 : Int32) x K = K (vp_updL f 0 x) := zSl_n (k := 0) h hn
theorem nco_z {P : PrT} (h8 : nco P ≤ 8) : (jL (nco P) ≤ (0 : Int64)) ↔ nco P = 0 := by
  rw [jL_0, jL_le (by omega) (by omega)]
  omega
theorem lq_41 (h : lw_J ok t σ ρ) (ht : t < 512) : lw_LS (lw_J ok (t + 1)) (lw_JL ok (t + 1)) σ ρ q 41 := by
  obtain ⟨w, hw, h1, h2, hR⟩ := JJ_use h
  have h8 := hR.2.2.1.2.1
  have hcp := chk_P hw h1 hR
  rcases rng_d (q 1) 1 9999999 with ⟨r1, r2, r3, r4⟩ | ⟨r1, r2⟩
  · have bad : f_X9_deposit_53 0 (jI w) (md_undoable ρ) (md_rows ρ) (q 1) = some (0, 2, jI w, md_undoable ρ, md_rows ρ) := by
      unfold f_X9_deposit_53 f_X9_deposit_54
      rw [right_f2, zB1_s, if_pos rfl]
    have pre : f_X9_deposit (md_thrown ρ) (md_now ρ) (md_undoable ρ) (md_rows ρ) (q 1) = (if nco (σ.2.2.2.2.2 w) = 0 then some (0, 2, jI w, md_undoable ρ, md_rows ρ) else if (999999999 : Int64) < pj_pr_accounts (σ.2.2.2.2.2 w) 0 + (q 1).toInt64 then some (0, 2, jI w, md_undoable ρ, md_rows ρ) else f_X9_deposit_54 0 (jI w) (md_undoable ρ) (md_rows ρ) (q 1) 1) := by
      have e0 : f_X9_get (jI w) (md_rows ρ) (0 : Int32) = some (jL (nco (σ.2.2.2.2.2 w))) := by rw [jI_0, X9_get hw (by omega), hR.2.2.1.2.2.1]
      rw [h2]
      unfold f_X9_deposit
      rw [show (1 : Int64) = (1 : Int32).toInt64 from rfl, show (9999999 : Int64) = (9999999 : Int32).toInt64 from rfl, r2, zB1_s, right_t, zB1_s, if_neg one_ne, e0, zB1_s]
      dsimp only
      rw [bad]
      by_cases hz : nco (σ.2.2.2.2.2 w) = 0
      · rw [if_pos ((nco_z h8).mpr hz), if_pos hz]
      · rw [if_neg (fun z => hz ((nco_z h8).mp z)), if_neg hz, jI_8, X9_get hw (by omega), zB1_s, (hR.2.2.2.2.2.2.2.1.1 0 (by omega)).1]
    by_cases hz : nco (σ.2.2.2.2.2 w) = 0
    · rw [if_pos hz] at hcp pre
      have f8 : f_X8_deposit σ (q 1) = some (.inl ("java/lang/IllegalStateException", σ)) := by
        unfold f_X8_deposit
        rw [r1, X1_r, hcp, X1_l]
      exact Or.inr (Or.inr ⟨_, _, _, f8, g_of pre, rfl, by have hJ := JJ_up h; rw [h2] at hJ; exact hJ⟩)
    · rw [if_neg hz] at hcp pre
      by_cases hs : (999999999 : Int64) < pj_pr_accounts (σ.2.2.2.2.2 w) 0 + (q 1).toInt64
      · rw [if_pos hs] at pre
        have f8 : f_X8_deposit σ (q 1) = some (.inl ("java/lang/IllegalStateException", σ)) := by
          unfold f_X8_deposit
          rw [r1, X1_r, hcp, X1_r, zG1_t (gd_w h1 hw), nw_w h1 hw, zR_0 (by omega) (by omega), if_pos hs, st_0, X1_l]
        exact Or.inr (Or.inr ⟨_, _, _, f8, g_of pre, rfl, by have hJ := JJ_up h; rw [h2] at hJ; exact hJ⟩)
      · rw [if_neg hs] at pre
        obtain ⟨P', rows1, hb, hch, hR1, hA, hzz, hz'⟩ := begin2 hw h1 h2 hR
        have hw1 : (w + 1) % 9 < 9 := by omega
        have ea := hA.1.2 0 (by omega)
        have a1 := (hR1.2.2.2.2.2.2.2.1.1 0 (by omega)).1
        have z1 : (1 : Int32).toInt = 1 := rfl
        have z9 : (9999999 : Int32).toInt = 9999999 := rfl
        have zq : (q 1).toInt64.toInt = (q 1).toInt := Int32.toInt_toInt64 _
        have n0 := (hR.2.2.2.2.2.2.2.1.1 0 (by omega)).2
        have hBt : Bt t + 9999999 ≤ Bt (t + 1) := by unfold Bt; omega
        have hs9 : ¬ (999999999 : Int64).toInt < (pj_pr_accounts (σ.2.2.2.2.2 w) 0 + (q 1).toInt64).toInt := fun z => hs (J_lt.mpr z)
        have hle : (pj_pr_accounts (σ.2.2.2.2.2 w) 0).toInt ≤ Bt t := by
          obtain ⟨g1, g2⟩ := hR.2.2.2.2.2.2.2.1
          have e9 : aS (pj_pr_accounts (σ.2.2.2.2.2 w)) 9 = (pj_pr_accounts (σ.2.2.2.2.2 w) 0).toInt + (pj_pr_accounts (σ.2.2.2.2.2 w) 1).toInt + (pj_pr_accounts (σ.2.2.2.2.2 w) 2).toInt + (pj_pr_accounts (σ.2.2.2.2.2 w) 3).toInt + (pj_pr_accounts (σ.2.2.2.2.2 w) 4).toInt + (pj_pr_accounts (σ.2.2.2.2.2 w) 5).toInt + (pj_pr_accounts (σ.2.2.2.2.2 w) 6).toInt + (pj_pr_accounts (σ.2.2.2.2.2 w) 7).toInt + (pj_pr_accounts (σ.2.2.2.2.2 w) 8).toInt := by simp [aS]
          have := (g1 1 (by omega)).2
          have := (g1 2 (by omega)).2
          have := (g1 3 (by omega)).2
          have := (g1 4 (by omega)).2
          have := (g1 5 (by omega)).2
          have := (g1 6 (by omega)).2
          have := (g1 7 (by omega)).2
          have := (g1 8 (by omega)).2
          omega
        have hB3 : Bt t ≤ 6000000000 := by unfold Bt; omega
        have es := J_add (a := pj_pr_accounts (σ.2.2.2.2.2 w) 0) (b := (q 1).toInt64) (by omega) (by omega)
        have f8 : f_X8_deposit σ (q 1) = some (.inr (pj_pr_accounts (σ.2.2.2.2.2 w) 0 + (q 1).toInt64, (jI ((w + 1) % 9), (if (8 : Int32) < σ.2.1 + (1 : Int32) then (8 : Int32) else σ.2.1 + (1 : Int32)), σ.2.2.1, σ.2.2.2.1, σ.2.2.2.2.1, va_up (va_up σ.2.2.2.2.2 ((w + 1) % 9) P') ((w + 1) % 9) (ps_pr_accounts P' (vp_updL (pj_pr_accounts P') 0 (pj_pr_accounts (σ.2.2.2.2.2 w) 0 + (q 1).toInt64)))))) := by
          unfold f_X8_deposit
          rw [r1, X1_r, hcp, X1_r, zG1_t (gd_w h1 hw), nw_w h1 hw, zR_0 (by omega) (by omega), if_neg hs, st_1, X1_r, hb, zB1_s]
          dsimp only
          rw [zG1_t (jI_in hw1 (by omega)), jI_nat (by omega), va_same, zSl_0 (by omega) (by omega)]
        have f9 : f_X9_deposit (md_thrown ρ) (md_now ρ) (md_undoable ρ) (md_rows ρ) (q 1) = some (pj_pr_accounts (σ.2.2.2.2.2 w) 0 + (q 1).toInt64, 0, jI ((w + 1) % 9), (if (8 : Int32) ≤ md_undoable ρ then md_undoable ρ else md_undoable ρ + (1 : Int32)), vp_updL rows1 (2500 * ((w + 1) % 9) + 8) (pj_pr_accounts (σ.2.2.2.2.2 w) 0 + (q 1).toInt64)) := by
          rw [pre]
          unfold f_X9_deposit_54
          rw [right_t, zB1_s, if_neg one_ne, hch, zB1_s]
          dsimp only
          rw [jI_8, X9_get hw1 (by omega), zB1_s, X9_put hw1 (by omega), zB1_s, X9_get hw1 (by omega), zB1_s, zrow_put, updL_same, a1, ea]
        refine Or.inl ⟨_, _, _, _, f8, g_of f9, rfl, rfl, fin2 hw h1 h hz' (put_o (by omega)) ?_⟩
        rw [zrow_put]
        exact Rl_acc0 hR1 (by omega) (Bt_le t) (by rw [ea, es]; omega)
  · have f8 : f_X8_deposit σ (q 1) = some (.inl ("java/lang/IllegalArgumentException", σ)) := by
      unfold f_X8_deposit
      rw [r1, X1_l]
    have f9 : f_X9_deposit (md_thrown ρ) (md_now ρ) (md_undoable ρ) (md_rows ρ) (q 1) = some (0, 1, jI w, md_undoable ρ, md_rows ρ) := by
      rw [h2]
      unfold f_X9_deposit
      rw [show (1 : Int64) = (1 : Int32).toInt64 from rfl, show (9999999 : Int64) = (9999999 : Int32).toInt64 from rfl, r2, zB1_s, right_f1, zB1_s, if_pos rfl]
    exact Or.inr (Or.inl ⟨_, _, _, f8, g_of f9, rfl, by have hJ := JJ_up h; rw [h2] at hJ; exact hJ⟩)
theorem lq_42 (h : lw_J ok t σ ρ) : lw_LS (lw_J ok (t + 1)) (lw_JL ok (t + 1)) σ ρ q 42 := by
  obtain ⟨w, hw, h1, h2, hR⟩ := JJ_use h
  have h8 := hR.2.2.1.2.1
  have hcp := chk_P hw h1 hR
  obtain ⟨d1, d2, d3⟩ := hR.1
  have dh := dB_hi (Bt t)
  have dl := dB_lo (Bt t)
  have z1 : (1 : Int32).toInt = 1 := rfl
  have z9 : (365 : Int32).toInt = 365 := rfl
  have zk : (100000 : Int32).toInt = 100000 := rfl
  rcases rng_d (q 1) 1 365 with ⟨r1, r2, r3, r4⟩ | ⟨r1, r2⟩
  · have ed := I_add (a := pj_pr_day (σ.2.2.2.2.2 w)) (b := q 1) (by omega) (by omega)
    have bad : f_X9_pass_52 0 (jI w) (md_undoable ρ) (md_rows ρ) (q 1) = some (0, 2, jI w, md_undoable ρ, md_rows ρ) := by
      unfold f_X9_pass_52 f_X9_pass_53
      rw [right_f2, zB1_s, if_pos rfl]
    have pre : f_X9_pass (md_thrown ρ) (md_now ρ) (md_undoable ρ) (md_rows ρ) (q 1) = (if nco (σ.2.2.2.2.2 w) = 0 then some (0, 2, jI w, md_undoable ρ, md_rows ρ) else if (100000 : Int32) < pj_pr_day (σ.2.2.2.2.2 w) + q 1 then some (0, 2, jI w, md_undoable ρ, md_rows ρ) else f_X9_pass_53 0 (jI w) (md_undoable ρ) (md_rows ρ) (q 1) 1) := by
      have e0 : f_X9_get (jI w) (md_rows ρ) (0 : Int32) = some (jL (nco (σ.2.2.2.2.2 w))) := by rw [jI_0, X9_get hw (by omega), hR.2.2.1.2.2.1]
      rw [h2]
      unfold f_X9_pass
      rw [show (1 : Int64) = (1 : Int32).toInt64 from rfl, show (365 : Int64) = (365 : Int32).toInt64 from rfl, r2, zB1_s, right_t, zB1_s, if_neg one_ne, e0, zB1_s]
      dsimp only
      rw [bad]
      by_cases hz : nco (σ.2.2.2.2.2 w) = 0
      · rw [if_pos ((nco_z h8).mpr hz), if_pos hz]
      · rw [if_neg (fun z => hz ((nco_z h8).mp z)), if_neg hz, jI_1, X9_get hw (by omega), zB1_s, d1, ← C_add (by omega) (by omega), show (100000 : Int64) = (100000 : Int32).toInt64 from rfl]
        simp only [L_lt]
    by_cases hz : nco (σ.2.2.2.2.2 w) = 0
    · rw [if_pos hz] at hcp pre
      have f8 : f_X8_pass σ (q 1) = some (.inl ("java/lang/IllegalStateException", σ)) := by
        unfold f_X8_pass
        rw [r1, X1_r, hcp, X1_l]
      exact Or.inr (Or.inr ⟨_, _, _, f8, g_of pre, rfl, by have hJ := JJ_up h; rw [h2] at hJ; exact hJ⟩)
    · rw [if_neg hz] at hcp pre
      by_cases hs : (100000 : Int32) < pj_pr_day (σ.2.2.2.2.2 w) + q 1
      · rw [if_pos hs] at pre
        have f8 : f_X8_pass σ (q 1) = some (.inl ("java/lang/IllegalStateException", σ)) := by
          unfold f_X8_pass
          rw [r1, X1_r, hcp, X1_r, zG1_t (gd_w h1 hw), nw_w h1 hw, if_pos hs, st_0, X1_l]
        exact Or.inr (Or.inr ⟨_, _, _, f8, g_of pre, rfl, by have hJ := JJ_up h; rw [h2] at hJ; exact hJ⟩)
      · rw [if_neg hs] at pre
        have hs' : ¬ (100000 : Int32).toInt < (pj_pr_day (σ.2.2.2.2.2 w) + q 1).toInt := fun z => hs (Int32.lt_iff_toInt_lt.mpr z)
        obtain ⟨P', rows1, hb, hch, hR1, hA, hzz, hz'⟩ := begin2 hw h1 h2 hR
        have hw1 : (w + 1) % 9 < 9 := by omega
        have a1 := hR1.1.1
        rw [hA.1.1] at a1
        have f8 : f_X8_pass σ (q 1) = some (.inr (pj_pr_day (σ.2.2.2.2.2 w) + q 1, (jI ((w + 1) % 9), (if (8 : Int32) < σ.2.1 + (1 : Int32) then (8 : Int32) else σ.2.1 + (1 : Int32)), σ.2.2.1, σ.2.2.2.1, σ.2.2.2.2.1, va_up (va_up σ.2.2.2.2.2 ((w + 1) % 9) P') ((w + 1) % 9) (ps_pr_day P' (pj_pr_day (σ.2.2.2.2.2 w) + q 1))))) := by
          unfold f_X8_pass
          rw [r1, X1_r, hcp, X1_r, zG1_t (gd_w h1 hw), nw_w h1 hw, if_neg hs, st_1, X1_r, hb, zB1_s]
          dsimp only
          rw [zG1_t (jI_in hw1 (by omega)), jI_nat (by omega), va_same]
        have f9 : f_X9_pass (md_thrown ρ) (md_now ρ) (md_undoable ρ) (md_rows ρ) (q 1) = some (pj_pr_day (σ.2.2.2.2.2 w) + q 1, 0, jI ((w + 1) % 9), (if (8 : Int32) ≤ md_undoable ρ then md_undoable ρ else md_undoable ρ + (1 : Int32)), vp_updL rows1 (2500 * ((w + 1) % 9) + 1) (pj_pr_day (σ.2.2.2.2.2 w) + q 1).toInt64) := by
          rw [pre]
          unfold f_X9_pass_53
          rw [right_t, zB1_s, if_neg one_ne, hch, zB1_s]
          dsimp only
          rw [jI_1, X9_get hw1 (by omega), zB1_s, X9_put hw1 (by omega), zB1_s, X9_small hw1 (by omega), zB1_s, zrow_put, updL_same, a1, ← C_add (by omega) (by omega), Int32.toInt32_toInt64]
        refine Or.inl ⟨_, _, _, _, f8, g_of f9, rfl, rfl, fin2 hw h1 h hz' (put_o (by omega)) ?_⟩
        rw [zrow_put]
        exact Rl_mono (Bt_le t) (Rl_day hR1 (by omega) (by omega))
  · have f8 : f_X8_pass σ (q 1) = some (.inl ("java/lang/IllegalArgumentException", σ)) := by
      unfold f_X8_pass
      rw [r1, X1_l]
    have f9 : f_X9_pass (md_thrown ρ) (md_now ρ) (md_undoable ρ) (md_rows ρ) (q 1) = some (0, 1, jI w, md_undoable ρ, md_rows ρ) := by
      rw [h2]
      unfold f_X9_pass
      rw [show (1 : Int64) = (1 : Int32).toInt64 from rfl, show (365 : Int64) = (365 : Int32).toInt64 from rfl, r2, zB1_s, right_f1, zB1_s, if_pos rfl]
    exact Or.inr (Or.inl ⟨_, _, _, f8, g_of f9, rfl, by have hJ := JJ_up h; rw [h2] at hJ; exact hJ⟩)
theorem lq_40 (h : lw_J ok t σ ρ) (ht : t < 512) : lw_LS (lw_J ok (t + 1)) (lw_JL ok (t + 1)) σ ρ q 40 := by
  obtain ⟨w, hw, h1, h2, hR⟩ := JJ_use h
  have h8 := hR.2.2.1.2.1
  have hbd := hR.2.2.2.2.2.1.2.1
  have k1 := chk_B hw h1 hR (q 1)
  rcases idx_d (q 1) (n := nce (σ.2.2.2.2.2 w)) (by omega) with ⟨c, hc, e⟩ | ⟨e1, e2⟩
  · obtain ⟨i1, i2⟩ := idx_ok hc (by omega)
    rw [e, i1] at k1
    have k2 := is_B (t := md_thrown ρ) hw hR i2 (Or.inr rfl)
    rw [if_neg one_ne] at k2
    obtain ⟨-, -, ⟨o1, o2, o3⟩, -⟩ := hR.2.2.2.2.2.1.2.2.2 c hc
    obtain ⟨cc, pi, hcc, hpi, hc8, ec, epar, kP, rP, -⟩ := k_payerHolds (b := w) hR hc
    have hpa := (hR.2.2.2.2.2.2.2.1.1 pi (by omega)).1
    have zq : (q 2).toInt64.toInt = (q 2).toInt := Int32.toInt_toInt64 _
    have z1 : (1 : Int32).toInt = 1 := rfl
    have z1' : (1 : Int64).toInt = 1 := rfl
    have pre8 : f_X8_pay σ (q 1) (q 2) = (if q 2 < (1 : Int32) then some (.inl ("java/lang/IllegalArgumentException", σ)) else if (q 2).toInt64 ≤ pj_ce_open (σ.2.2.2.2.2 w) c then (if v_held (σ.2.2.2.2.2 w) c = true then some (.inl ("java/lang/IllegalStateException", σ)) else if pj_pr_accounts (σ.2.2.2.2.2 w) pi < (q 2).toInt64 then some (.inl ("java/lang/IllegalStateException", σ)) else zB1 (f_X8_beginChange σ) fun q_81 => zG1 (¬ (q_81.1 < 0 ∨ 9 ≤ q_81.1.toNatClampNeg)) (zB1 (f_X5_transfer (pj_pr_accounts (q_81.2.2.2.2.2 (q_81.1.toNatClampNeg))) (pj_co_parent (q_81.2.2.2.2.2 (q_81.1.toNatClampNeg))) (pj_ce_contract (q_81.2.2.2.2.2 (q_81.1.toNatClampNeg))) (pj_ce_open (q_81.2.2.2.2.2 (q_81.1.toNatClampNeg))) (jI c) (q 2).toInt64) fun q_89 => zR 40 q_89.2 (jI c) fun v_100 => some (.inr (v_100, (q_81.1, q_81.2.1, q_81.2.2.1, q_81.2.2.2.1, q_81.2.2.2.2.1, (va_up q_81.2.2.2.2.2 (q_81.1.toNatClampNeg) (pm_8 (q_81.2.2.2.2.2 (q_81.1.toNatClampNeg)) q_89.1 q_89.2))))))) else some (.inl ("java/lang/IllegalArgumentException", σ))) := by
      rw [e]
      unfold f_X8_pay
      rw [k1, X1_r]
      by_cases g1 : q 2 < (1 : Int32)
      · rw [if_pos g1, if_pos g1]
      · rw [if_neg g1, if_neg g1, zG1_t (gd_w h1 hw), nw_w h1 hw, zR_n (by omega) (by omega)]
        by_cases g2 : (q 2).toInt64 ≤ pj_ce_open (σ.2.2.2.2.2 w) c
        · rw [if_pos g2, if_pos g2, k_isHeldBack hw hR hc, zB1_s]
          by_cases g3 : v_held (σ.2.2.2.2.2 w) c = true
          · rw [if_pos g3, if_pos g3, if_neg one_ne, st_0, X1_l]
          · rw [if_neg g3, if_neg g3, if_pos rfl, st_1, X1_r, kP, zB1_s]
            by_cases g4 : pj_pr_accounts (σ.2.2.2.2.2 w) pi < (q 2).toInt64
            · rw [if_pos g4, if_pos g4, st_0, X1_l]
            · rw [if_neg g4, if_neg g4, X1_r]
        · rw [if_neg g2, if_neg g2]
    have bad : f_X9_pay_55 0 (jI w) (md_undoable ρ) (md_rows ρ) (jI c) (q 2) = some (0, 3, jI w, md_undoable ρ, md_rows ρ) := by
      unfold f_X9_pay_55 f_X9_pay_56
      rw [right_f3, zB1_s, if_pos rfl]
    have pre9 : f_X9_pay (md_thrown ρ) (md_now ρ) (md_undoable ρ) (md_rows ρ) (q 1) (q 2) = (if q 2 < (1 : Int32) then some (0, 2, jI w, md_undoable ρ, md_rows ρ) else if (q 2).toInt64 ≤ pj_ce_open (σ.2.2.2.2.2 w) c then (if v_held (σ.2.2.2.2.2 w) c = true then some (0, 3, jI w, md_undoable ρ, md_rows ρ) else if pj_pr_accounts (σ.2.2.2.2.2 w) pi < (q 2).toInt64 then some (0, 3, jI w, md_undoable ρ, md_rows ρ) else f_X9_pay_56 0 (jI w) (md_undoable ρ) (md_rows ρ) (jI c) (q 2) 1) else some (0, 2, jI w, md_undoable ρ, md_rows ρ)) := by
      rw [e, h2]
      unfold f_X9_pay
      rw [k2, zB1_s, if_neg one_ne, X9_openOf hw (by omega), zB1_s, o1]
      unfold f_X9_isIn
      by_cases g1 : q 2 < (1 : Int32)
      · have g1' := Int32.lt_iff_toInt_lt.mp g1
        rw [if_pos g1, if_pos (J_lt.mpr (by omega)), zB1_s, right_f2, zB1_s, if_pos rfl]
      · have g1' : ¬ (q 2).toInt < (1 : Int32).toInt := fun z => g1 (Int32.lt_iff_toInt_lt.mpr z)
        rw [if_neg g1, if_neg (fun z => by have := J_lt.mp z; omega)]
        by_cases g2 : (q 2).toInt64 ≤ pj_ce_open (σ.2.2.2.2.2 w) c
        · rw [if_pos g2, if_neg (L_nlt.mpr g2), zB1_s, right_t, zB1_s, if_neg one_ne, r_isHeld hw hR hc, zB1_s, bad]
          by_cases g3 : v_held (σ.2.2.2.2.2 w) c = true
          · rw [if_pos g3, if_pos g3, if_neg one_ne]
          · rw [if_neg g3, if_neg g3, if_pos rfl, rP hw, zB1_s, X9_get hw (by omega), zB1_s, hpa]
        · rw [if_neg g2, if_pos (L_nle.mp g2), zB1_s, right_f2, zB1_s, if_pos rfl]
    by_cases g1 : q 2 < (1 : Int32)
    · rw [if_pos g1] at pre8 pre9
      exact Or.inr (Or.inr (Or.inl ⟨_, _, _, pre8, g_of pre9, rfl, by have hJ := JJ_up h; rw [h2] at hJ; exact hJ⟩))
    · rw [if_neg g1] at pre8 pre9
      have g1' : ¬ (q 2).toInt < (1 : Int32).toInt := fun z => g1 (Int32.lt_iff_toInt_lt.mpr z)
      by_cases g2 : (q 2).toInt64 ≤ pj_ce_open (σ.2.2.2.2.2 w) c
      · rw [if_pos g2] at pre8 pre9
        have g2' := J_le.mp g2
        by_cases g3 : v_held (σ.2.2.2.2.2 w) c = true
        · rw [if_pos g3] at pre8 pre9
          exact Or.inr (Or.inr (Or.inr ⟨_, _, _, pre8, g_of pre9, rfl, by have hJ := JJ_up h; rw [h2] at hJ; exact hJ⟩))
        · rw [if_neg g3] at pre8 pre9
          by_cases g4 : pj_pr_accounts (σ.2.2.2.2.2 w) pi < (q 2).toInt64
          · rw [if_pos g4] at pre8 pre9
            exact Or.inr (Or.inr (Or.inr ⟨_, _, _, pre8, g_of pre9, rfl, by have hJ := JJ_up h; rw [h2] at hJ; exact hJ⟩))
          · rw [if_neg g4] at pre8 pre9
            have g4' : ¬ (pj_pr_accounts (σ.2.2.2.2.2 w) pi).toInt < (q 2).toInt64.toInt := fun z => g4 (J_lt.mpr z)
            obtain ⟨P', rows1, hb, hch, hR1, hA, hzz, hz'⟩ := begin2 hw h1 h2 hR
            have hw1 : (w + 1) % 9 < 9 := by omega
            have ece : nce P' = nce (σ.2.2.2.2.2 w) := by unfold nce; rw [hA.2.2.2.2.2.1.1]
            have hc' : c < nce P' := by omega
            obtain ⟨c2, pi2, hc2, hpi2, hc28, ec2, epar2, -, rP2, kT⟩ := k_payerHolds (b := (w + 1) % 9) hR1 hc'
            obtain ⟨x1, x2, x3, x4, x5⟩ := hA.2.2.2.2.2.1.2 c hc
            have e1c : c2 = cc := by
              have := ec2.symm.trans (x1.trans ec)
              exact (jI_eq (by omega) (by omega)).mp this
            subst e1c
            have e1p : pi2 = pi := by
              rw [(hA.2.1.2 c2 hcc).1] at epar2
              omega
            subst e1p
            have eacc := hA.1.2
            obtain ⟨rows2, p1, p2, p3⟩ := r_pays hw1 hR1 hc' ec2 hc28 hpi2 (rP2 hw1) (q 2).toInt64
            have hB3 : Bt t < 1000000000000 := by unfold Bt; omega
            have hT := Rl_transfer hR1 hc' ec2 hc2 epar2 (s := (q 2).toInt64) (by omega) (by rw [eacc pi2 (by omega)]; omega) (by rw [x3]; omega) hB3
            rw [← p2] at hT
            have o1' := hT.2.2.2.2.2.1.2.2.2 c hc'
            have f8 : f_X8_pay σ (q 1) (q 2) = some (.inr (pj_ce_open P' c - (q 2).toInt64, (jI ((w + 1) % 9), (if (8 : Int32) < σ.2.1 + (1 : Int32) then (8 : Int32) else σ.2.1 + (1 : Int32)), σ.2.2.1, σ.2.2.2.1, σ.2.2.2.2.1, va_up (va_up σ.2.2.2.2.2 ((w + 1) % 9) P') ((w + 1) % 9) (ps_ce_open (ps_pr_accounts P' (vp_updL (vp_updL (pj_pr_accounts P') pi2 (pj_pr_accounts P' pi2 - (q 2).toInt64)) (c2 + 1) (pj_pr_accounts P' (c2 + 1) + (q 2).toInt64))) (vp_updL (pj_ce_open P') c (pj_ce_open P' c - (q 2).toInt64)))))) := by
              rw [pre8, hb, zB1_s]
              dsimp only
              rw [zG1_t (jI_in hw1 (by omega)), jI_nat (by omega), va_same, kT, zB1_s]
              dsimp only
              rw [zR_n (by omega) (by omega), updL_same]
            have f9 : f_X9_pay (md_thrown ρ) (md_now ρ) (md_undoable ρ) (md_rows ρ) (q 1) (q 2) = some (pj_ce_open P' c - (q 2).toInt64, 0, jI ((w + 1) % 9), (if (8 : Int32) ≤ md_undoable ρ then md_undoable ρ else md_undoable ρ + (1 : Int32)), rows2) := by
              rw [pre9]
              unfold f_X9_pay_56
              rw [right_t, zB1_s, if_neg one_ne, hch, zB1_s]
              dsimp only
              rw [p1, zB1_s, X9_openOf hw1 (by omega), zB1_s]
              have : zrow ((w + 1) % 9) rows2 (320 + 5 * c + 1) - zrow ((w + 1) % 9) rows2 (320 + 5 * c + 2) = vp_updL (pj_ce_open P') c (pj_ce_open P' c - (q 2).toInt64) c := o1'.2.2.1.1
              rw [this, updL_same]
            exact Or.inl ⟨_, _, _, _, f8, g_of f9, rfl, rfl, fin2 hw h1 h hz' p3 (Rl_mono (Bt_le t) hT)⟩
      · rw [if_neg g2] at pre8 pre9
        exact Or.inr (Or.inr (Or.inl ⟨_, _, _, pre8, g_of pre9, rfl, by have hJ := JJ_up h; rw [h2] at hJ; exact hJ⟩))
  · rw [e1] at k1
    have k2 := is_B (t := md_thrown ρ) hw hR e2 (Or.inl rfl)
    rw [if_pos rfl] at k2
    have f8 : f_X8_pay σ (q 1) (q 2) = some (.inl ("java/lang/IndexOutOfBoundsException", σ)) := by
      unfold f_X8_pay
      rw [k1, X1_l]
    have f9 : f_X9_pay (md_thrown ρ) (md_now ρ) (md_undoable ρ) (md_rows ρ) (q 1) (q 2) = some (0, 1, jI w, md_undoable ρ, md_rows ρ) := by
      rw [h2]
      unfold f_X9_pay
      rw [k2, zB1_s, if_pos rfl]
    exact Or.inr (Or.inl ⟨_, _, _, f8, g_of f9, rfl, by have hJ := JJ_up h; rw [h2] at hJ; exact hJ⟩)
end MUTR
