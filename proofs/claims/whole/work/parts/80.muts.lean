section MUTS
variable {ok : PgT → Prop} {t : Nat} {σ : LgT} {ρ : MdT} {q : Nat → Int32}
theorem lq_43 (h : lw_J ok t σ ρ) (ht : t < 512) : lw_LS (lw_J ok (t + 1)) (lw_JL ok (t + 1)) σ ρ q 43 := by
  obtain ⟨w, hw, h1, h2, hR⟩ := JJ_use h
  have h8 := hR.2.2.1.2.1
  have hcp := chk_P hw h1 hR
  obtain ⟨d1, d2, d3⟩ := hR.1
  have dh := dB_hi (Bt t)
  have dl := dB_lo (Bt t)
  have z1 : (1 : Int32).toInt = 1 := rfl
  have z9 : (100 : Int32).toInt = 100 := rfl
  have zk : (100000 : Int32).toInt = 100000 := rfl
  rcases rng_d (q 1) 1 100 with ⟨r1, r2, r3, r4⟩ | ⟨r1, r2⟩
  · have ed := I_add (a := pj_pr_day (σ.2.2.2.2.2 w)) (b := q 1) (by omega) (by omega)
    have bad : f_X9_settle_52 0 (jI w) (md_undoable ρ) (md_rows ρ) (q 1) = some (0, 2, jI w, md_undoable ρ, md_rows ρ) := by
      unfold f_X9_settle_52 f_X9_settle_53
      rw [right_f2, zB1_s, if_pos rfl]
    have pre : f_X9_settle (md_thrown ρ) (md_now ρ) (md_undoable ρ) (md_rows ρ) (q 1) = (if nco (σ.2.2.2.2.2 w) = 0 then some (0, 2, jI w, md_undoable ρ, md_rows ρ) else if (100000 : Int32) < pj_pr_day (σ.2.2.2.2.2 w) + q 1 then some (0, 2, jI w, md_undoable ρ, md_rows ρ) else f_X9_settle_53 0 (jI w) (md_undoable ρ) (md_rows ρ) (q 1) 1) := by
      have e0 : f_X9_get (jI w) (md_rows ρ) (0 : Int32) = some (jL (nco (σ.2.2.2.2.2 w))) := by rw [jI_0, X9_get hw (by omega), hR.2.2.1.2.2.1]
      rw [h2]
      unfold f_X9_settle
      rw [show (1 : Int64) = (1 : Int32).toInt64 from rfl, show (100 : Int64) = (100 : Int32).toInt64 from rfl, r2, zB1_s, right_t, zB1_s, if_neg one_ne, e0, zB1_s]
      dsimp only
      rw [bad]
      by_cases hz : nco (σ.2.2.2.2.2 w) = 0
      · rw [if_pos ((nco_z h8).mpr hz), if_pos hz]
      · rw [if_neg (fun z => hz ((nco_z h8).mp z)), if_neg hz, jI_1, X9_get hw (by omega), zB1_s, d1, ← C_add (by omega) (by omega), show (100000 : Int64) = (100000 : Int32).toInt64 from rfl]
        simp only [L_lt]
    by_cases hz : nco (σ.2.2.2.2.2 w) = 0
    · rw [if_pos hz] at hcp pre
      have f8 : f_X8_settle σ (q 1) = some (.inl ("java/lang/IllegalStateException", σ)) := by
        unfold f_X8_settle
        rw [r1, X1_r, hcp, X1_l]
      exact Or.inr (Or.inr ⟨_, _, _, f8, g_of pre, rfl, by have hJ := JJ_up h; rw [h2] at hJ; exact hJ⟩)
    · rw [if_neg hz] at hcp pre
      by_cases hs : (100000 : Int32) < pj_pr_day (σ.2.2.2.2.2 w) + q 1
      · rw [if_pos hs] at pre
        have f8 : f_X8_settle σ (q 1) = some (.inl ("java/lang/IllegalStateException", σ)) := by
          unfold f_X8_settle
          rw [r1, X1_r, hcp, X1_r, zG1_t (gd_w h1 hw), nw_w h1 hw, if_pos hs, st_0, X1_l]
        exact Or.inr (Or.inr ⟨_, _, _, f8, g_of pre, rfl, by have hJ := JJ_up h; rw [h2] at hJ; exact hJ⟩)
      · rw [if_neg hs] at pre
        have hs' : ¬ (100000 : Int32).toInt < (pj_pr_day (σ.2.2.2.2.2 w) + q 1).toInt := fun z => hs (Int32.lt_iff_toInt_lt.mpr z)
        obtain ⟨P', rows1, hb, hch, hR1, hA, hzz, hz'⟩ := begin2 hw h1 h2 hR
        have hw1 : (w + 1) % 9 < 9 := by omega
        have edy : pj_pr_day P' = pj_pr_day (σ.2.2.2.2.2 w) := hA.1.1
        obtain ⟨N, hN⟩ : ∃ N : Nat, (q 1).toInt = (N : Int) := ⟨(q 1).toInt.toNat, by omega⟩
        have eN : q 1 = jI N := Int32.toInt_inj.mp (by rw [jI_toInt (by omega)]; exact hN)
        have hcn : pj_ce_count P' = jI (nce P') := hR1.2.2.2.2.2.1.1
        have h40 : nce P' ≤ 40 := hR1.2.2.2.2.2.1.2.1
        obtain ⟨ordr, o, es, ho⟩ := k_sort (due := pj_ce_due P') h40 (pj_pr_order P')
        rw [← hcn] at es
        have hfu := FU_k
        have hB3 : Bt t < 1000000000000 := by unfold Bt; omega
        have hF : ∀ (z : Nat) (rows : Nat → Int64) (acc : Int64) (k : Nat) (r : Nat → Int64) (s : Int64) (Q : PrT), Rl (Bt t) Q (zrow ((w + 1) % 9) rows) → pk Q = pk P' → f_X0_isPaid (pj_ce_count P') (pj_ce_open Q) (-1) = some 0 → k < N → f_X9_settles (jI ((w + 1) % 9)) rows = some (s, r) → f_X9_settle_71 (z + 1) 0 (jI ((w + 1) % 9)) (if (8 : Int32) ≤ md_undoable ρ then md_undoable ρ else md_undoable ρ + (1 : Int32)) rows (jI N) acc (jI k) = f_X9_settle_71 z 0 (jI ((w + 1) % 9)) (if (8 : Int32) ≤ md_undoable ρ then md_undoable ρ else md_undoable ρ + (1 : Int32)) r (jI N) (acc + s) (jI (k + 1)) := by
          intro z rows acc k r s Q _ _ _ hk hs
          have ek : jI k + (1 : Int32) = jI (k + 1) := by rw [jI_1, jI_add]
          simp only [f_X9_settle_71]
          rw [if_neg (fun z => by have := (jI_le (by omega) (by omega)).mp z; omega), hs, zB1_s, ek]
        obtain ⟨accF, Q', rowsF, kF, zF, j1, j2, j3, j4, j5, j6, j7, j8⟩ := sett (F := fun z rows acc k => f_X9_settle_71 z 0 (jI ((w + 1) % 9)) (if (8 : Int32) ≤ md_undoable ρ then md_undoable ρ else md_undoable ρ + (1 : Int32)) rows (jI N) acc (jI k)) hw1 hB3 (by omega) ho hF (e := pj_pr_day (σ.2.2.2.2.2 w) + q 1) (by omega) N 0 0 FU FU rows1 0 P' (by omega) (by omega) (Nat.lt_trans (by omega) hfu) (Nat.lt_trans (by omega) hfu) rfl hR1 (by rw [edy]; omega)
        have ekF : kF = N := by
          rcases j7 with j7 | j7
          · exact j7
          · exact absurd j7 (by
              unfold f_X0_isPaid
              rw [if_pos (by decide)]
              intro z
              exact absurd (Option.some.inj z) (by decide))
        subst ekF
        have f8 : f_X8_settle σ (q 1) = some (.inr (accF, (jI ((w + 1) % 9), (if (8 : Int32) < σ.2.1 + (1 : Int32) then (8 : Int32) else σ.2.1 + (1 : Int32)), σ.2.2.1, σ.2.2.2.1, σ.2.2.2.2.1, va_up (va_up σ.2.2.2.2.2 ((w + 1) % 9) P') ((w + 1) % 9) (pm_1 P' (pj_pr_day Q') (pj_pr_accounts Q') (pj_ce_open Q') ordr)))) := by
          unfold f_X8_settle
          rw [r1, X1_r, hcp, X1_r, zG1_t (gd_w h1 hw), nw_w h1 hw, if_neg hs, st_1, X1_r, hb, zB1_s]
          dsimp only
          rw [zG1_t (jI_in hw1 (by omega)), jI_nat (by omega), va_same]
          unfold f_X5_settleUntilPaid
          rw [es, zB1_s, edy]
          rw [edy] at j1
          rw [eN] at j1 ⊢
          exact (congrArg (fun x => zB1 x _) j1).trans rfl
        have f9 : f_X9_settle (md_thrown ρ) (md_now ρ) (md_undoable ρ) (md_rows ρ) (q 1) = some (accF, 0, jI ((w + 1) % 9), (if (8 : Int32) ≤ md_undoable ρ then md_undoable ρ else md_undoable ρ + (1 : Int32)), rowsF) := by
          rw [pre]
          unfold f_X9_settle_53
          rw [right_t, zB1_s, if_neg one_ne, hch, zB1_s]
          dsimp only
          rw [eN]
          refine Eq.trans j2 ?_
          simp only [f_X9_settle_71]
          rw [if_pos ((jI_le (by omega) (by omega)).mpr (Nat.le_refl _))]
        exact Or.inl ⟨_, _, _, _, f8, g_of f9, rfl, rfl, fin2 hw h1 h hz' j8 (Rl_mono (Bt_le t) (Rl_ag (ag_pm2 j4 ordr) j3))⟩
  · have f8 : f_X8_settle σ (q 1) = some (.inl ("java/lang/IllegalArgumentException", σ)) := by
      unfold f_X8_settle
      rw [r1, X1_l]
    have f9 : f_X9_settle (md_thrown ρ) (md_now ρ) (md_undoable ρ) (md_rows ρ) (q 1) = some (0, 1, jI w, md_undoable ρ, md_rows ρ) := by
      rw [h2]
      unfold f_X9_settle
      rw [show (1 : Int64) = (1 : Int32).toInt64 from rfl, show (100 : Int64) = (100 : Int32).toInt64 from rfl, r2, zB1_s, right_f1, zB1_s, if_pos rfl]
    exact Or.inr (Or.inl ⟨_, _, _, f8, g_of f9, rfl, by have hJ := JJ_up h; rw [h2] at hJ; exact hJ⟩)
theorem lq_27 (h : lw_J ok t σ ρ) (ht : t < 512) : lw_LS (lw_J ok (t + 1)) (lw_JL ok (t + 1)) σ ρ q 27 := by
  obtain ⟨w, hw, h1, h2, hR⟩ := JJ_use h
  have h8 := hR.2.2.1.2.1
  have hbd := hR.2.2.2.2.2.1.2.1
  have k1 := chk_B hw h1 hR (q 1)
  rcases idx_d (q 1) (n := nce (σ.2.2.2.2.2 w)) (by omega) with ⟨c, hc, e⟩ | ⟨e1, e2⟩
  · obtain ⟨i1, i2⟩ := idx_ok hc (by omega)
    rw [e, i1] at k1
    have k2 := is_B (t := md_thrown ρ) hw hR i2 (Or.inr rfl)
    rw [if_neg one_ne] at k2
    have z2 : (200 : Int32).toInt = 200 := rfl
    have z0 : (0 : Int32).toInt = 0 := rfl
    rcases rng_d (q 2) 0 200 with ⟨r1, r2, r3, r4⟩ | ⟨r1, r2⟩
    · have hBt : Bt t < 100000000000 := by unfold Bt; omega
      obtain ⟨d1, d2, d3⟩ := hR.1
      rw [dB_s hBt] at d3
      obtain ⟨F0, hA, ecp⟩ := k_fore (σ.2.2.2.2.1) hR
      have hR1 : Rl 200000000000 F0 (zrow w (md_rows ρ)) := Rl_mono (by omega) (Rl_ag hA hR)
      have edB : dB 200000000000 = 200000 := by decide
      have edy : pj_pr_day F0 = pj_pr_day (σ.2.2.2.2.2 w) := hA.1.1
      have hcn : pj_ce_count F0 = jI (nce F0) := hR1.2.2.2.2.2.1.1
      have ece : nce F0 = nce (σ.2.2.2.2.2 w) := by unfold nce; rw [hA.2.2.2.2.2.1.1]
      have h40 : nce F0 ≤ 40 := hR1.2.2.2.2.2.1.2.1
      obtain ⟨N, hN⟩ : ∃ N : Nat, (q 2).toInt = (N : Int) := ⟨(q 2).toInt.toNat, by omega⟩
      have eN : q 2 = jI N := Int32.toInt_inj.mp (by rw [jI_toInt (by omega)]; exact hN)
      have ed := I_add (a := pj_pr_day F0) (b := q 2) (by rw [edy]; omega) (by rw [edy]; omega)
      obtain ⟨ordr, o, es, ho⟩ := k_sort (due := pj_ce_due F0) h40 (pj_pr_order σ.2.2.2.2.1)
      rw [← hcn] at es
      have hfu := FU_k
      have hfb := FU_b
      obtain ⟨a', ea, ha⟩ := aside_to hw (t := 0) (x1 := jI c) (x2 := jI N) (rows := md_rows ρ) 2500 0 FU (md_aside ρ) (by omega) (Nat.lt_trans (by omega) hfb) (fun q hq => by omega)
      have hF : ∀ (z : Nat) (rows : Nat → Int64) (acc : Int64) (k : Nat) (r : Nat → Int64) (s : Int64) (Q : PrT), Rl 200000000000 Q (zrow w rows) → pk Q = pk F0 → f_X0_isPaid (pj_ce_count F0) (pj_ce_open Q) (jI c) = some 0 → k < N → f_X9_settles (jI w) rows = some (s, r) → f_X9_settleDays_55 (z + 1) 0 (jI w) rows a' (jI c) (jI N) (jI k) = f_X9_settleDays_55 z 0 (jI w) r a' (jI c) (jI N) (jI (k + 1)) := by
        intro z rows acc k r s Q hQ hkQ hp hk hs
        have ek : jI k + (1 : Int32) = jI (k + 1) := by rw [jI_1, jI_add]
        have hnQ := pk_n hkQ
        obtain ⟨-, -, ⟨o1, o2, o3⟩, -⟩ := hQ.2.2.2.2.2.1.2.2.2 c (by omega)
        rw [hcn, k_paid (by omega) h40] at hp
        have ne : ¬ pj_ce_open Q c = 0 := fun z => by
          rw [if_pos z] at hp
          exact absurd (Option.some.inj hp) (by decide)
        simp only [f_X9_settleDays_55]
        rw [if_neg (fun z => by have := (jI_le (by omega) (by omega)).mp z; omega), X9_openOf hw (by omega), zB1_s, o1, if_neg (fun z => ne (Int64.toInt_inj.mp (by have := J_le.mp z; rw [J_0] at this ⊢; omega))), hs, zB1_s, ek]
      obtain ⟨accF, Q', rowsF, kF, zF, j1, j2, j3, j4, j5, j6, j7, j8⟩ := sett (F := fun z rows acc k => f_X9_settleDays_55 z 0 (jI w) rows a' (jI c) (jI N) (jI k)) hw (by omega) (by omega) ho hF (e := pj_pr_day F0 + q 2) (by rw [edB, ed, edy]; omega) N 0 0 FU FU (md_rows ρ) 0 F0 (by omega) (by omega) (Nat.lt_trans (by omega) hfu) (Nat.lt_trans (by omega) hfu) rfl hR1 (by rw [ed]; omega)
      have hnQ := pk_n j4
      obtain ⟨-, -, ⟨o1, o2, o3⟩, -⟩ := j3.2.2.2.2.2.1.2.2.2 c (by omega)
      have hkp := k_paid (O := pj_ce_open Q') (show c < nce F0 by omega) h40
      rw [← hcn] at hkp
      obtain ⟨-, dq2, -⟩ := j3.1
      have j6' := j6
      rw [ed, edy] at j6'
      have eday : pj_pr_day Q' - pj_pr_day (σ.2.2.2.2.2 w) = jI kF := Int32.toInt_inj.mp (by
        rw [I_sub (by omega) (by omega), jI_toInt (by omega)]
        omega)
      have f8 : ∃ Fx : PrT, f_X8_settleDays σ (q 1) (q 2) = some (.inr ((if pj_ce_open Q' c = 0 then jI kF else (-1 : Int32)), (σ.1, σ.2.1, σ.2.2.1, σ.2.2.2.1, Fx, σ.2.2.2.2.2))) := by
        have eU : f_X5_settleUntilPaid (pj_pr_day F0) (pj_pr_accounts F0) (pj_co_parent F0) (pj_co_linked F0) (pj_ce_count F0) (pj_ce_contract F0) (pj_ce_open F0) (pj_ce_issued F0) (pj_ce_due F0) (pj_pr_order σ.2.2.2.2.1) (q 2) (jI c) = some (accF, pj_pr_day Q', pj_pr_accounts Q', pj_ce_open Q', ordr) := by
          unfold f_X5_settleUntilPaid
          rw [es, zB1_s]
          rw [eN] at j1 ⊢
          exact j1
        rw [e]
        unfold f_X8_settleDays
        rw [k1, X1_r, r1, X1_r, zG1_t (gd_w h1 hw), nw_w h1 hw, ecp, zB1_s]
        dsimp only
        rw [eU, zB1_s]
        dsimp only
        rw [hkp]
        by_cases ho0 : pj_ce_open Q' c = 0
        · rw [if_pos ho0, zB1_s, if_neg one_ne, if_pos ho0, eday]
          exact ⟨_, rfl⟩
        · rw [if_neg ho0, zB1_s, if_pos rfl, if_neg ho0]
          exact ⟨_, rfl⟩
      obtain ⟨Fx, f8⟩ := f8
      obtain ⟨rows', f9, hrw, hro⟩ : ∃ rows', f_X9_settleDays (md_thrown ρ) (md_now ρ) (md_rows ρ) (md_aside ρ) (q 1) (q 2) = some ((if pj_ce_open Q' c = 0 then jI kF else (-1 : Int32)), 0, rows', a') ∧ (∀ q, q < 2500 → zrow w rows' q = a' q) ∧ ∀ i, i ≠ w → ∀ q, q < 2500 → zrow i rows' q = zrow i rowsF q := by
        obtain ⟨rows', g1, g2, g3⟩ := aside_back hw (t := 0) (x4 := if pj_ce_open Q' c = 0 then jI kF else (-1 : Int32)) (a := a') 2500 0 FU rowsF (by omega) (Nat.lt_trans (by omega) hfb) (fun q hq => by omega)
        refine ⟨rows', ?_, g2, g3⟩
        rw [e, h2]
        unfold f_X9_settleDays
        rw [k2, zB1_s, if_neg one_ne, show (0 : Int64) = (0 : Int32).toInt64 from rfl, show (200 : Int64) = (200 : Int32).toInt64 from rfl, r2, zB1_s]
        dsimp only
        rw [right_t, zB1_s, if_neg one_ne]
        dsimp only
        rw [eN]
        refine Eq.trans (ea.trans (j2.trans ?_)) g1
        have e81 : f_X9_settleDays_81 0 (jI w) rowsF a' (jI c) (jI kF) = f_X9_settleDays_101 FU 0 (jI w) rowsF a' (if pj_ce_open Q' c = 0 then jI kF else (-1 : Int32)) (0 : Int32) := by
          unfold f_X9_settleDays_81
          rw [X9_openOf hw (by omega), zB1_s, o1]
          by_cases ho0 : pj_ce_open Q' c = 0
          · rw [if_pos ho0, ho0, if_pos (by decide)]
          · rw [if_neg ho0, if_neg (fun z => ho0 (Int64.toInt_inj.mp (by have := J_le.mp z; rw [J_0] at this ⊢; omega)))]
        simp only [f_X9_settleDays_55]
        by_cases hk : N ≤ kF
        · rw [if_pos ((jI_le (by omega) (by omega)).mpr hk)]
          exact e81
        · rw [if_neg (fun z => hk ((jI_le (by omega) (by omega)).mp z)), X9_openOf hw (by omega), zB1_s, o1]
          have hp : pj_ce_open Q' c = 0 := by
            rcases j7 with j7 | j7
            · omega
            · rw [hkp] at j7
              by_cases ho0 : pj_ce_open Q' c = 0
              · exact ho0
              · rw [if_neg ho0] at j7
                exact absurd (Option.some.inj j7) (by decide)
          rw [if_pos (by rw [hp]; decide)]
          exact e81
      refine Or.inl ⟨_, _, _, _, f8, g_of f9, rfl, rfl, ?_⟩
      exact JJ_rows (JJ_up h) (fun i q' hi hq' => by
        by_cases ci : i = w
        · rw [ci, hrw q' hq', ha q' hq']
        · rw [hro i ci q' hq', j8 i ci q' hq'])
    · have f8 : f_X8_settleDays σ (q 1) (q 2) = some (.inl ("java/lang/IllegalArgumentException", σ)) := by
        rw [e]
        unfold f_X8_settleDays
        rw [k1, X1_r, r1, X1_l]
      have f9 : f_X9_settleDays (md_thrown ρ) (md_now ρ) (md_rows ρ) (md_aside ρ) (q 1) (q 2) = some (0, 2, md_rows ρ, md_aside ρ) := by
        rw [e, h2]
        unfold f_X9_settleDays
        rw [k2, zB1_s, if_neg one_ne, show (0 : Int64) = (0 : Int32).toInt64 from rfl, show (200 : Int64) = (200 : Int32).toInt64 from rfl, r2, zB1_s]
        dsimp only
        rw [right_f2, zB1_s, if_pos rfl]
      exact Or.inr (Or.inr ⟨_, _, _, f8, g_of f9, rfl, JJ_up h⟩)
  · rw [e1] at k1
    have k2 := is_B (t := md_thrown ρ) hw hR e2 (Or.inl rfl)
    rw [if_pos rfl] at k2
    have f8 : f_X8_settleDays σ (q 1) (q 2) = some (.inl ("java/lang/IndexOutOfBoundsException", σ)) := by
      unfold f_X8_settleDays
      rw [k1, X1_l]
    have f9 : f_X9_settleDays (md_thrown ρ) (md_now ρ) (md_rows ρ) (md_aside ρ) (q 1) (q 2) = some (0, 1, md_rows ρ, md_aside ρ) := by
      rw [h2]
      unfold f_X9_settleDays
      rw [k2, zB1_s, if_pos rfl]
    exact Or.inr (Or.inl ⟨_, _, _, f8, g_of f9, rfl, JJ_up h⟩)
end MUTS
