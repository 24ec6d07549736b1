/-! layer 3: the queries -/
theorem g_of {α β : Type} {f : Option α} {F : α → β} {r : α} (h : f = some r) : f.map F = some (F r) := by rw [h]; rfl
section QRY
variable {ok : PgT → Prop} {t : Nat} {σ : LgT} {ρ : MdT} {q : Nat → Int32}
theorem r_worth_lo {B : Int} {P : PrT} {b : Nat} {rows : Nat → Int64} (hb : b < 9) (hR : Rl B P (zrow b rows)) {v : Nat} (hv : v < nva P) (t : Int32) (pl : Nat → Int64) : ∃ pl', (zB1 (f_X9_get (jI b) rows (((230 : Int32) + ((4 : Int32) * jI v)) + (3 : Int32))) fun q_22 => if q_22 = (1 : Int64) then (some ((0 : Int64), t, pl)) else (zB1 (f_X9_quantityBy (jI b) rows (jI v)) fun q_32 => if (0 : Int64) ≤ q_32 then (zB1 (f_X9_small (jI b) rows ((230 : Int32) + ((4 : Int32) * (jI v)))) fun q_45 => zB1 (f_X9_small (jI b) rows (((230 : Int32) + ((4 : Int32) * (jI v))) + (1 : Int32))) fun q_52 => zB1 (f_X9_quantityBy (jI b) rows (jI v)) fun q_57 => zB1 (f_X9_fullBy (jI b) rows pl q_45 q_52 q_57) fun q_60 => zB1 (f_X9_small (jI b) rows ((230 : Int32) + ((4 : Int32) * (jI v)))) fun q_66 => zB1 (f_X9_small (jI b) rows (((230 : Int32) + ((4 : Int32) * (jI v))) + (1 : Int32))) fun q_73 => zB1 (f_X9_small (jI b) rows ((230 : Int32) + ((4 : Int32) * (jI v)))) fun q_79 => zB1 (f_X9_small (jI b) rows (((230 : Int32) + ((4 : Int32) * (jI v))) + (1 : Int32))) fun q_86 => zB1 (f_X9_quantityOf (jI b) rows q_79 q_86) fun q_89 => zB1 (f_X9_fullBy (jI b) rows q_60.2 q_66 q_73 q_89) fun q_92 => some ((q_60.1 - q_92.1), t, q_92.2)) else (some ((0 : Int64), t, pl)))) = some (vWorth P v, t, pl') := by
  have h20 := hR.2.2.2.2.1.2.1
  obtain ⟨c, i, hc, hi, e0, e1, e2, e3, c8, i6⟩ := va_f hR hv
  obtain ⟨-, -, ⟨e5, w0, w1⟩⟩ := hR.2.2.2.2.1.2.2.2 v hv
  obtain ⟨b1, b2, b3, b4, b5⟩ := qw_bd hR hv
  have hq := r_quantityBy hb hR hv
  unfold vWorth
  simp (disch := omega) only [jI_230, jI_4, jI_3, jI_mul, jI_add, X9_get, zB1_s, e5, L_1, hq]
  rcases I_01 w0 w1 with h | h
  · rw [h, if_neg (by decide), if_pos rfl, show (0 : Int64) = (0 : Int32).toInt64 from rfl]
    simp only [L_le]
    by_cases h0 : 0 ≤ vQW P v
    · have h0' := Int32.le_iff_toInt_le.mp h0
      have z0 : (0 : Int32).toInt = 0 := rfl
      rw [if_pos h0, if_pos h0]
      obtain ⟨p1, g1⟩ := r_fullBy hb hR hc hi (q := vQW P v) (by omega) (by omega) pl
      obtain ⟨p2, g2⟩ := r_fullBy hb hR hc hi (q := pj_it_quantity P (c * 6 + i)) (by rw [← e0]; omega) (by rw [← e0]; omega) p1
      refine ⟨p2, ?_⟩
      simp (disch := omega) only [X9_small, zB1_s, jI_1, jI_add, e2, e3, jL_I, hq, g1, g2, r_quantityOf hb hR hc hi, e0]
    · rw [if_neg h0, if_neg h0]
      exact ⟨pl, rfl⟩
  · rw [h, if_pos (by decide), if_neg (by decide)]
    exact ⟨pl, rfl⟩

section CHKI
variable {σ : LgT} {w : Nat} {B : Int} {rows : Nat → Int64} {t : Int32}
theorem chk_I (hw : w < 9) (h1 : σ.1 = jI w) (hR : Rl B (σ.2.2.2.2.2 w) (zrow w rows)) {c : Nat} (hc : c < nco (σ.2.2.2.2.2 w)) (p : Int32) : f_X8_checkItem σ (jI c) p = f_X8_checkIndex p (jI (nit (σ.2.2.2.2.2 w) c)) := by
  have h8 := hR.2.2.1.2.1
  unfold f_X8_checkItem
  rw [chk_C hw h1 hR, (idx_ok hc (by omega)).1, X1_r, zG1_t (gd_w h1 hw), nw_w h1 hw, zR_n (by omega) (by omega), (hR.2.2.2.1 c hc).1.1]
  cases f_X8_checkIndex p (jI (nit (σ.2.2.2.2.2 w) c)) with
  | none => rfl
  | some r => cases r <;> rfl
theorem chk_I0 (hw : w < 9) (h1 : σ.1 = jI w) (hR : Rl B (σ.2.2.2.2.2 w) (zrow w rows)) {p1 p : Int32} (h : f_X8_checkIndex p1 (jI (nco (σ.2.2.2.2.2 w))) = some (.inl "java/lang/IndexOutOfBoundsException")) : f_X8_checkItem σ p1 p = some (.inl "java/lang/IndexOutOfBoundsException") := by
  unfold f_X8_checkItem
  rw [chk_C hw h1 hR, h, X1_l]
theorem is_I {P : PrT} (hw : w < 9) (hR : Rl B P (zrow w rows)) {c : Nat} (hc : c < nco P) {p v : Int32} (h : f_X9_isIn p.toInt64 (0 : Int64) (jL (nit P c) - (1 : Int64)) = some v) (hv : v = 0 ∨ v = 1) : f_X9_isItem t (jI w) rows (jI c) p = some (if v = 0 then (0, 1) else (1, 0)) := by
  have h8 := hR.2.2.1.2.1
  unfold f_X9_isItem
  rw [is_C hw hR (idx_ok hc (by omega)).2 (Or.inr rfl), if_neg one_ne, zB1_s, if_neg one_ne, X9_at, zB1_s, jI_7, jI_add, X9_get hw (by omega), zB1_s, (hR.2.2.2.1 c hc).1.2.2, h, zB1_s]
  rcases hv with e | e <;> subst e <;> rfl
theorem is_I0 {P : PrT} (hw : w < 9) (hR : Rl B P (zrow w rows)) {p1 p : Int32} (h : f_X9_isIn p1.toInt64 (0 : Int64) (jL (nco P) - (1 : Int64)) = some 0) : f_X9_isItem t (jI w) rows p1 p = some (0, 1) := by
  unfold f_X9_isItem
  rw [is_C hw hR h (Or.inl rfl), if_pos rfl, zB1_s, if_pos rfl]
end CHKI
theorem lq_5 (h : lw_J ok t σ ρ) : lw_LS (lw_J ok (t + 1)) (lw_JL ok (t + 1)) σ ρ q 5 := by
  obtain ⟨w, hw, h1, h2, hR⟩ := JJ_use h
  have hbd := hR.2.2.1.2.1
  have h8 := hR.2.2.1.2.1
  have k1 := chk_C hw h1 hR (q 1)
  rcases idx_d (q 1) (n := nco (σ.2.2.2.2.2 w)) (by omega) with ⟨c, hc, e⟩ | ⟨e1, e2⟩
  · obtain ⟨i1, i2⟩ := idx_ok hc (by omega)
    rw [e, i1] at k1
    have k2 := is_C (t := md_thrown ρ) hw hR i2 (Or.inr rfl)
    rw [if_neg one_ne] at k2
    obtain ⟨⟨c0, -⟩, ⟨c1, -⟩, ⟨c2, -⟩, ⟨c3, -⟩, ⟨c4, -⟩, ⟨c5, -⟩, ⟨c6, c6a, c6b⟩⟩ := hR.2.2.1.2.2.2 c hc
    have f8 : f_X8_parent σ (q 1) = some (.inr (pj_co_parent (σ.2.2.2.2.2 w) c)) := by
      rw [e]
      unfold f_X8_parent
      rw [k1, X1_r, zG1_t (gd_w h1 hw), nw_w h1 hw]
      rw [zR_n (by omega) (by omega)]
    have f9 : f_X9_parent (md_thrown ρ) (md_now ρ) (md_rows ρ) (q 1) = some (pj_co_parent (σ.2.2.2.2.2 w) c, 0) := by
      rw [e, h2]
      unfold f_X9_parent
      rw [k2, zB1_s, if_neg one_ne]
      simp (disch := omega) only [X9_at, X9_bill, X9_lien, zB1_s, jI_add, jI_0, jI_1, jI_2, jI_3, jI_4, jI_5, jI_6, jI_7, Nat.add_zero, X9_get, X9_small, c0, Int32.toInt32_toInt64]
    exact Or.inl ⟨_, _, _, f8, g_of f9, rfl, rfl, JJ_up h⟩
  · rw [e1] at k1
    have k2 := is_C (t := md_thrown ρ) hw hR e2 (Or.inl rfl)
    rw [if_pos rfl] at k2
    have f8 : f_X8_parent σ (q 1) = some (.inl "java/lang/IndexOutOfBoundsException") := by
      unfold f_X8_parent
      rw [k1, X1_l]
    have f9 : f_X9_parent (md_thrown ρ) (md_now ρ) (md_rows ρ) (q 1) = some ((0 : _), 1) := by
      rw [h2]
      unfold f_X9_parent
      rw [k2, zB1_s, if_pos rfl]
    exact Or.inr ⟨_, _, f8, g_of f9, rfl, JJ_up h⟩
theorem lq_6 (h : lw_J ok t σ ρ) : lw_LS (lw_J ok (t + 1)) (lw_JL ok (t + 1)) σ ρ q 6 := by
  obtain ⟨w, hw, h1, h2, hR⟩ := JJ_use h
  have hbd := hR.2.2.1.2.1
  have h8 := hR.2.2.1.2.1
  have k1 := chk_C hw h1 hR (q 1)
  rcases idx_d (q 1) (n := nco (σ.2.2.2.2.2 w)) (by omega) with ⟨c, hc, e⟩ | ⟨e1, e2⟩
  · obtain ⟨i1, i2⟩ := idx_ok hc (by omega)
    rw [e, i1] at k1
    have k2 := is_C (t := md_thrown ρ) hw hR i2 (Or.inr rfl)
    rw [if_neg one_ne] at k2
    have f8 : f_X8_itemCount σ (q 1) = some (.inr (pj_it_count (σ.2.2.2.2.2 w) c)) := by
      rw [e]
      unfold f_X8_itemCount
      rw [k1, X1_r, zG1_t (gd_w h1 hw), nw_w h1 hw]
      rw [zR_n (by omega) (by omega)]
    have f9 : f_X9_itemCount (md_thrown ρ) (md_now ρ) (md_rows ρ) (q 1) = some (pj_it_count (σ.2.2.2.2.2 w) c, 0) := by
      rw [e, h2]
      unfold f_X9_itemCount
      rw [k2, zB1_s, if_neg one_ne]
      simp (disch := omega) only [X9_at, X9_bill, X9_lien, zB1_s, jI_add, jI_0, jI_1, jI_2, jI_3, jI_4, jI_5, jI_6, jI_7, Nat.add_zero, X9_get, X9_small, (hR.2.2.2.1 c hc).1.2.2, jL_I]
      rw [(hR.2.2.2.1 c hc).1.1]
    exact Or.inl ⟨_, _, _, f8, g_of f9, rfl, rfl, JJ_up h⟩
  · rw [e1] at k1
    have k2 := is_C (t := md_thrown ρ) hw hR e2 (Or.inl rfl)
    rw [if_pos rfl] at k2
    have f8 : f_X8_itemCount σ (q 1) = some (.inl "java/lang/IndexOutOfBoundsException") := by
      unfold f_X8_itemCount
      rw [k1, X1_l]
    have f9 : f_X9_itemCount (md_thrown ρ) (md_now ρ) (md_rows ρ) (q 1) = some ((0 : _), 1) := by
      rw [h2]
      unfold f_X9_itemCount
      rw [k2, zB1_s, if_pos rfl]
    exact Or.inr ⟨_, _, f8, g_of f9, rfl, JJ_up h⟩
theorem lq_10 (h : lw_J ok t σ ρ) : lw_LS (lw_J ok (t + 1)) (lw_JL ok (t + 1)) σ ρ q 10 := by
  obtain ⟨w, hw, h1, h2, hR⟩ := JJ_use h
  have hbd := hR.2.2.1.2.1
  have h8 := hR.2.2.1.2.1
  have k1 := chk_C hw h1 hR (q 1)
  rcases idx_d (q 1) (n := nco (σ.2.2.2.2.2 w)) (by omega) with ⟨c, hc, e⟩ | ⟨e1, e2⟩
  · obtain ⟨i1, i2⟩ := idx_ok hc (by omega)
    rw [e, i1] at k1
    have k2 := is_C (t := md_thrown ρ) hw hR i2 (Or.inr rfl)
    rw [if_neg one_ne] at k2
    have f8 : f_X8_firstSum σ (q 1) = some (.inr (vFirst (σ.2.2.2.2.2 w) c)) := by
      rw [e]
      unfold f_X8_firstSum
      rw [k1, X1_r, zG1_t (gd_w h1 hw), nw_w h1 hw]
      rw [k_firstSumOf hR hc, zB1_s]
    have f9 : f_X9_firstSum (md_thrown ρ) (md_now ρ) (md_rows ρ) (q 1) = some (vFirst (σ.2.2.2.2.2 w) c, 0) := by
      rw [e, h2]
      unfold f_X9_firstSum
      rw [k2, zB1_s, if_neg one_ne]
      rw [r_firstOf hw hR hc, zB1_s]
    exact Or.inl ⟨_, _, _, f8, g_of f9, rfl, rfl, JJ_up h⟩
  · rw [e1] at k1
    have k2 := is_C (t := md_thrown ρ) hw hR e2 (Or.inl rfl)
    rw [if_pos rfl] at k2
    have f8 : f_X8_firstSum σ (q 1) = some (.inl "java/lang/IndexOutOfBoundsException") := by
      unfold f_X8_firstSum
      rw [k1, X1_l]
    have f9 : f_X9_firstSum (md_thrown ρ) (md_now ρ) (md_rows ρ) (q 1) = some ((0 : _), 1) := by
      rw [h2]
      unfold f_X9_firstSum
      rw [k2, zB1_s, if_pos rfl]
    exact Or.inr ⟨_, _, f8, g_of f9, rfl, JJ_up h⟩
theorem lq_11 (h : lw_J ok t σ ρ) : lw_LS (lw_J ok (t + 1)) (lw_JL ok (t + 1)) σ ρ q 11 := by
  obtain ⟨w, hw, h1, h2, hR⟩ := JJ_use h
  have hbd := hR.2.2.1.2.1
  have h8 := hR.2.2.1.2.1
  have k1 := chk_C hw h1 hR (q 1)
  rcases idx_d (q 1) (n := nco (σ.2.2.2.2.2 w)) (by omega) with ⟨c, hc, e⟩ | ⟨e1, e2⟩
  · obtain ⟨i1, i2⟩ := idx_ok hc (by omega)
    rw [e, i1] at k1
    have k2 := is_C (t := md_thrown ρ) hw hR i2 (Or.inr rfl)
    rw [if_neg one_ne] at k2
    obtain ⟨st1, g8⟩ := k_presentSumOf hR hc (rj_rd_stk σ.2.2.1)
    obtain ⟨pl1, g9⟩ := r_presentOf hw hR hc (md_pile ρ)
    have f8 : f_X8_presentSum σ (q 1) = some (.inr (vPres (σ.2.2.2.2.2 w) c, (σ.1, σ.2.1, rs_rd_stk σ.2.2.1 st1, σ.2.2.2.1, σ.2.2.2.2.1, σ.2.2.2.2.2))) := by
      rw [e]
      unfold f_X8_presentSum
      rw [k1, X1_r, zG1_t (gd_w h1 hw), nw_w h1 hw]
      rw [g8, zB1_s]
    have f9 : f_X9_presentSum (md_thrown ρ) (md_now ρ) (md_rows ρ) (md_pile ρ) (q 1) = some (vPres (σ.2.2.2.2.2 w) c, 0, pl1) := by
      rw [e, h2]
      unfold f_X9_presentSum
      rw [k2, zB1_s, if_neg one_ne]
      rw [g9, zB1_s]
    exact Or.inl ⟨_, _, (σ.1, σ.2.1, rs_rd_stk σ.2.2.1 st1, σ.2.2.2.1, σ.2.2.2.2.1, σ.2.2.2.2.2), _, f8, g_of f9, rfl, rfl, JJ_st h hw h1 st1⟩
  · rw [e1] at k1
    have k2 := is_C (t := md_thrown ρ) hw hR e2 (Or.inl rfl)
    rw [if_pos rfl] at k2
    have f8 : f_X8_presentSum σ (q 1) = some (.inl ("java/lang/IndexOutOfBoundsException", σ)) := by
      unfold f_X8_presentSum
      rw [k1, X1_l]
    have f9 : f_X9_presentSum (md_thrown ρ) (md_now ρ) (md_rows ρ) (md_pile ρ) (q 1) = some ((0 : _), 1, md_pile ρ) := by
      rw [h2]
      unfold f_X9_presentSum
      rw [k2, zB1_s, if_pos rfl]
    exact Or.inr ⟨_, σ, _, f8, g_of f9, rfl, JJ_up h⟩
theorem lq_12 (h : lw_J ok t σ ρ) : lw_LS (lw_J ok (t + 1)) (lw_JL ok (t + 1)) σ ρ q 12 := by
  obtain ⟨w, hw, h1, h2, hR⟩ := JJ_use h
  have hbd := hR.2.2.1.2.1
  have h8 := hR.2.2.1.2.1
  have k1 := chk_C hw h1 hR (q 1)
  rcases idx_d (q 1) (n := nco (σ.2.2.2.2.2 w)) (by omega) with ⟨c, hc, e⟩ | ⟨e1, e2⟩
  · obtain ⟨i1, i2⟩ := idx_ok hc (by omega)
    rw [e, i1] at k1
    have k2 := is_C (t := md_thrown ρ) hw hR i2 (Or.inr rfl)
    rw [if_neg one_ne] at k2
    obtain ⟨st1, g8⟩ := k_grossOf hR hc (rj_rd_stk σ.2.2.1)
    obtain ⟨pl1, g9⟩ := r_grossOf hw hR hc (md_pile ρ)
    have f8 : f_X8_grossValue σ (q 1) = some (.inr (vGross (σ.2.2.2.2.2 w) c, (σ.1, σ.2.1, rs_rd_stk σ.2.2.1 st1, σ.2.2.2.1, σ.2.2.2.2.1, σ.2.2.2.2.2))) := by
      rw [e]
      unfold f_X8_grossValue
      rw [k1, X1_r, zG1_t (gd_w h1 hw), nw_w h1 hw]
      rw [g8, zB1_s]
    have f9 : f_X9_grossValue (md_thrown ρ) (md_now ρ) (md_rows ρ) (md_pile ρ) (q 1) = some (vGross (σ.2.2.2.2.2 w) c, 0, pl1) := by
      rw [e, h2]
      unfold f_X9_grossValue
      rw [k2, zB1_s, if_neg one_ne]
      rw [g9, zB1_s]
    exact Or.inl ⟨_, _, (σ.1, σ.2.1, rs_rd_stk σ.2.2.1 st1, σ.2.2.2.1, σ.2.2.2.2.1, σ.2.2.2.2.2), _, f8, g_of f9, rfl, rfl, JJ_st h hw h1 st1⟩
  · rw [e1] at k1
    have k2 := is_C (t := md_thrown ρ) hw hR e2 (Or.inl rfl)
    rw [if_pos rfl] at k2
    have f8 : f_X8_grossValue σ (q 1) = some (.inl ("java/lang/IndexOutOfBoundsException", σ)) := by
      unfold f_X8_grossValue
      rw [k1, X1_l]
    have f9 : f_X9_grossValue (md_thrown ρ) (md_now ρ) (md_rows ρ) (md_pile ρ) (q 1) = some ((0 : _), 1, md_pile ρ) := by
      rw [h2]
      unfold f_X9_grossValue
      rw [k2, zB1_s, if_pos rfl]
    exact Or.inr ⟨_, σ, _, f8, g_of f9, rfl, JJ_up h⟩
theorem lq_13 (h : lw_J ok t σ ρ) : lw_LS (lw_J ok (t + 1)) (lw_JL ok (t + 1)) σ ρ q 13 := by
  obtain ⟨w, hw, h1, h2, hR⟩ := JJ_use h
  have hbd := hR.2.2.1.2.1
  have h8 := hR.2.2.1.2.1
  have k1 := chk_C hw h1 hR (q 1)
  rcases idx_d (q 1) (n := nco (σ.2.2.2.2.2 w)) (by omega) with ⟨c, hc, e⟩ | ⟨e1, e2⟩
  · obtain ⟨i1, i2⟩ := idx_ok hc (by omega)
    rw [e, i1] at k1
    have k2 := is_C (t := md_thrown ρ) hw hR i2 (Or.inr rfl)
    rw [if_neg one_ne] at k2
    obtain ⟨st1, g8⟩ := k_grossOf hR hc (rj_rd_stk σ.2.2.1)
    obtain ⟨pl1, g9⟩ := r_heldOf hw hR hc (md_pile ρ)
    have f8 : f_X8_retention σ (q 1) = some (.inr (vHeld (σ.2.2.2.2.2 w) c, (σ.1, σ.2.1, rs_rd_stk σ.2.2.1 st1, σ.2.2.2.1, σ.2.2.2.2.1, σ.2.2.2.2.2))) := by
      rw [e]
      unfold f_X8_retention
      rw [k1, X1_r, zG1_t (gd_w h1 hw), nw_w h1 hw]
      rw [g8, zB1_s, k_retentionOf hR hc, zB1_s]
    have f9 : f_X9_retention (md_thrown ρ) (md_now ρ) (md_rows ρ) (md_pile ρ) (q 1) = some (vHeld (σ.2.2.2.2.2 w) c, 0, pl1) := by
      rw [e, h2]
      unfold f_X9_retention
      rw [k2, zB1_s, if_neg one_ne]
      rw [g9, zB1_s]
    exact Or.inl ⟨_, _, (σ.1, σ.2.1, rs_rd_stk σ.2.2.1 st1, σ.2.2.2.1, σ.2.2.2.2.1, σ.2.2.2.2.2), _, f8, g_of f9, rfl, rfl, JJ_st h hw h1 st1⟩
  · rw [e1] at k1
    have k2 := is_C (t := md_thrown ρ) hw hR e2 (Or.inl rfl)
    rw [if_pos rfl] at k2
    have f8 : f_X8_retention σ (q 1) = some (.inl ("java/lang/IndexOutOfBoundsException", σ)) := by
      unfold f_X8_retention
      rw [k1, X1_l]
    have f9 : f_X9_retention (md_thrown ρ) (md_now ρ) (md_rows ρ) (md_pile ρ) (q 1) = some ((0 : _), 1, md_pile ρ) := by
      rw [h2]
      unfold f_X9_retention
      rw [k2, zB1_s, if_pos rfl]
    exact Or.inr ⟨_, σ, _, f8, g_of f9, rfl, JJ_up h⟩
theorem lq_14 (h : lw_J ok t σ ρ) : lw_LS (lw_J ok (t + 1)) (lw_JL ok (t + 1)) σ ρ q 14 := by
  obtain ⟨w, hw, h1, h2, hR⟩ := JJ_use h
  have hbd := hR.2.2.1.2.1
  have h8 := hR.2.2.1.2.1
  have k1 := chk_C hw h1 hR (q 1)
  rcases idx_d (q 1) (n := nco (σ.2.2.2.2.2 w)) (by omega) with ⟨c, hc, e⟩ | ⟨e1, e2⟩
  · obtain ⟨i1, i2⟩ := idx_ok hc (by omega)
    rw [e, i1] at k1
    have k2 := is_C (t := md_thrown ρ) hw hR i2 (Or.inr rfl)
    rw [if_neg one_ne] at k2
    have f8 : f_X8_certified σ (q 1) = some (.inr (v_cert (σ.2.2.2.2.2 w) (jI c))) := by
      rw [e]
      unfold f_X8_certified
      rw [k1, X1_r, zG1_t (gd_w h1 hw), nw_w h1 hw]
      rw [k_certifiedOf hw hR, zB1_s]
    have f9 : f_X9_certified (md_thrown ρ) (md_now ρ) (md_rows ρ) (q 1) = some (v_cert (σ.2.2.2.2.2 w) (jI c), 0) := by
      rw [e, h2]
      unfold f_X9_certified
      rw [k2, zB1_s, if_neg one_ne]
      rw [r_certifiedOf hw hR, zB1_s]
    exact Or.inl ⟨_, _, _, f8, g_of f9, rfl, rfl, JJ_up h⟩
  · rw [e1] at k1
    have k2 := is_C (t := md_thrown ρ) hw hR e2 (Or.inl rfl)
    rw [if_pos rfl] at k2
    have f8 : f_X8_certified σ (q 1) = some (.inl "java/lang/IndexOutOfBoundsException") := by
      unfold f_X8_certified
      rw [k1, X1_l]
    have f9 : f_X9_certified (md_thrown ρ) (md_now ρ) (md_rows ρ) (q 1) = some ((0 : _), 1) := by
      rw [h2]
      unfold f_X9_certified
      rw [k2, zB1_s, if_pos rfl]
    exact Or.inr ⟨_, _, f8, g_of f9, rfl, JJ_up h⟩
theorem lq_15 (h : lw_J ok t σ ρ) : lw_LS (lw_J ok (t + 1)) (lw_JL ok (t + 1)) σ ρ q 15 := by
  obtain ⟨w, hw, h1, h2, hR⟩ := JJ_use h
  have hbd := hR.2.2.1.2.1
  have h8 := hR.2.2.1.2.1
  have k1 := chk_C hw h1 hR (q 1)
  rcases idx_d (q 1) (n := nco (σ.2.2.2.2.2 w)) (by omega) with ⟨c, hc, e⟩ | ⟨e1, e2⟩
  · obtain ⟨i1, i2⟩ := idx_ok hc (by omega)
    rw [e, i1] at k1
    have k2 := is_C (t := md_thrown ρ) hw hR i2 (Or.inr rfl)
    rw [if_neg one_ne] at k2
    have f8 : f_X8_unpaid σ (q 1) = some (.inr (v_unp (σ.2.2.2.2.2 w) (jI c))) := by
      rw [e]
      unfold f_X8_unpaid
      rw [k1, X1_r, zG1_t (gd_w h1 hw), nw_w h1 hw]
      rw [k_unpaidOf hw hR, zB1_s]
    have f9 : f_X9_unpaid (md_thrown ρ) (md_now ρ) (md_rows ρ) (q 1) = some (v_unp (σ.2.2.2.2.2 w) (jI c), 0) := by
      rw [e, h2]
      unfold f_X9_unpaid
      rw [k2, zB1_s, if_neg one_ne]
      rw [r_unpaidOf hw hR, zB1_s]
    exact Or.inl ⟨_, _, _, f8, g_of f9, rfl, rfl, JJ_up h⟩
  · rw [e1] at k1
    have k2 := is_C (t := md_thrown ρ) hw hR e2 (Or.inl rfl)
    rw [if_pos rfl] at k2
    have f8 : f_X8_unpaid σ (q 1) = some (.inl "java/lang/IndexOutOfBoundsException") := by
      unfold f_X8_unpaid
      rw [k1, X1_l]
    have f9 : f_X9_unpaid (md_thrown ρ) (md_now ρ) (md_rows ρ) (q 1) = some ((0 : _), 1) := by
      rw [h2]
      unfold f_X9_unpaid
      rw [k2, zB1_s, if_pos rfl]
    exact Or.inr ⟨_, _, f8, g_of f9, rfl, JJ_up h⟩
theorem lq_16 (h : lw_J ok t σ ρ) : lw_LS (lw_J ok (t + 1)) (lw_JL ok (t + 1)) σ ρ q 16 := by
  obtain ⟨w, hw, h1, h2, hR⟩ := JJ_use h
  have hbd := hR.2.2.1.2.1
  have h8 := hR.2.2.1.2.1
  have k1 := chk_C hw h1 hR (q 1)
  rcases idx_d (q 1) (n := nco (σ.2.2.2.2.2 w)) (by omega) with ⟨c, hc, e⟩ | ⟨e1, e2⟩
  · obtain ⟨i1, i2⟩ := idx_ok hc (by omega)
    rw [e, i1] at k1
    have k2 := is_C (t := md_thrown ρ) hw hR i2 (Or.inr rfl)
    rw [if_neg one_ne] at k2
    have f8 : f_X8_overdue σ (q 1) = some (.inr (v_ovd (σ.2.2.2.2.2 w) (jI c) (pj_pr_day (σ.2.2.2.2.2 w)))) := by
      rw [e]
      unfold f_X8_overdue
      rw [k1, X1_r, zG1_t (gd_w h1 hw), nw_w h1 hw]
      unfold f_X5_overdueOf
      rw [k_overdueOf hw hR, zB1_s, zB1_s]
    have f9 : f_X9_overdue (md_thrown ρ) (md_now ρ) (md_rows ρ) (q 1) = some (v_ovd (σ.2.2.2.2.2 w) (jI c) (pj_pr_day (σ.2.2.2.2.2 w)), 0) := by
      rw [e, h2]
      unfold f_X9_overdue
      rw [k2, zB1_s, if_neg one_ne]
      rw [jI_1, X9_get hw (by omega), zB1_s, hR.1.1, r_openBefore hw hR, zB1_s]
    exact Or.inl ⟨_, _, _, f8, g_of f9, rfl, rfl, JJ_up h⟩
  · rw [e1] at k1
    have k2 := is_C (t := md_thrown ρ) hw hR e2 (Or.inl rfl)
    rw [if_pos rfl] at k2
    have f8 : f_X8_overdue σ (q 1) = some (.inl "java/lang/IndexOutOfBoundsException") := by
      unfold f_X8_overdue
      rw [k1, X1_l]
    have f9 : f_X9_overdue (md_thrown ρ) (md_now ρ) (md_rows ρ) (q 1) = some ((0 : _), 1) := by
      rw [h2]
      unfold f_X9_overdue
      rw [k2, zB1_s, if_pos rfl]
    exact Or.inr ⟨_, _, f8, g_of f9, rfl, JJ_up h⟩
theorem lq_17 (h : lw_J ok t σ ρ) : lw_LS (lw_J ok (t + 1)) (lw_JL ok (t + 1)) σ ρ q 17 := by
  obtain ⟨w, hw, h1, h2, hR⟩ := JJ_use h
  have hbd := hR.2.2.1.2.1
  have h8 := hR.2.2.1.2.1
  have k1 := chk_C hw h1 hR (q 1)
  rcases idx_d (q 1) (n := nco (σ.2.2.2.2.2 w)) (by omega) with ⟨c, hc, e⟩ | ⟨e1, e2⟩
  · obtain ⟨i1, i2⟩ := idx_ok hc (by omega)
    rw [e, i1] at k1
    have k2 := is_C (t := md_thrown ρ) hw hR i2 (Or.inr rfl)
    rw [if_neg one_ne] at k2
    obtain ⟨⟨c0, -⟩, ⟨c1, -⟩, ⟨c2, -⟩, ⟨c3, -⟩, ⟨c4, -⟩, ⟨c5, -⟩, ⟨c6, c6a, c6b⟩⟩ := hR.2.2.1.2.2.2 c hc
    have f8 : f_X8_stage σ (q 1) = some (.inr (pj_co_stage (σ.2.2.2.2.2 w) c)) := by
      rw [e]
      unfold f_X8_stage
      rw [k1, X1_r, zG1_t (gd_w h1 hw), nw_w h1 hw]
      rw [zR_n (by omega) (by omega)]
    have f9 : f_X9_stage (md_thrown ρ) (md_now ρ) (md_rows ρ) (q 1) = some (pj_co_stage (σ.2.2.2.2.2 w) c, 0) := by
      rw [e, h2]
      unfold f_X9_stage
      rw [k2, zB1_s, if_neg one_ne]
      simp (disch := omega) only [X9_at, X9_bill, X9_lien, zB1_s, jI_add, jI_0, jI_1, jI_2, jI_3, jI_4, jI_5, jI_6, jI_7, Nat.add_zero, X9_get, X9_small, c6, Int32.toInt32_toInt64]
    exact Or.inl ⟨_, _, _, f8, g_of f9, rfl, rfl, JJ_up h⟩
  · rw [e1] at k1
    have k2 := is_C (t := md_thrown ρ) hw hR e2 (Or.inl rfl)
    rw [if_pos rfl] at k2
    have f8 : f_X8_stage σ (q 1) = some (.inl "java/lang/IndexOutOfBoundsException") := by
      unfold f_X8_stage
      rw [k1, X1_l]
    have f9 : f_X9_stage (md_thrown ρ) (md_now ρ) (md_rows ρ) (q 1) = some ((0 : _), 1) := by
      rw [h2]
      unfold f_X9_stage
      rw [k2, zB1_s, if_pos rfl]
    exact Or.inr ⟨_, _, f8, g_of f9, rfl, JJ_up h⟩
theorem lq_18 (h : lw_J ok t σ ρ) : lw_LS (lw_J ok (t + 1)) (lw_JL ok (t + 1)) σ ρ q 18 := by
  obtain ⟨w, hw, h1, h2, hR⟩ := JJ_use h
  have hbd := hR.2.2.1.2.1
  have h8 := hR.2.2.1.2.1
  have k1 := chk_C hw h1 hR (q 1)
  rcases idx_d (q 1) (n := nco (σ.2.2.2.2.2 w)) (by omega) with ⟨c, hc, e⟩ | ⟨e1, e2⟩
  · obtain ⟨i1, i2⟩ := idx_ok hc (by omega)
    rw [e, i1] at k1
    have k2 := is_C (t := md_thrown ρ) hw hR i2 (Or.inr rfl)
    rw [if_neg one_ne] at k2
    obtain ⟨st1, g8⟩ := k_marginOf hR hc (rj_rd_stk σ.2.2.1)
    obtain ⟨pl0, g9a⟩ := r_presentOf hw hR hc (md_pile ρ)
    obtain ⟨pl1, g9⟩ := r_margin_lo hw hR hc 0 pl0
    have f8 : f_X8_margin σ (q 1) = some (.inr (vMarg (σ.2.2.2.2.2 w) c, (σ.1, σ.2.1, rs_rd_stk σ.2.2.1 st1, σ.2.2.2.1, σ.2.2.2.2.1, σ.2.2.2.2.2))) := by
      rw [e]
      unfold f_X8_margin
      rw [k1, X1_r, zG1_t (gd_w h1 hw), nw_w h1 hw]
      rw [g8, zB1_s]
    have f9 : f_X9_margin (md_thrown ρ) (md_now ρ) (md_rows ρ) (md_pile ρ) (q 1) = some (vMarg (σ.2.2.2.2.2 w) c, 0, pl1) := by
      rw [e, h2]
      unfold f_X9_margin
      rw [k2, zB1_s, if_neg one_ne]
      rw [g9a, zB1_s]
      exact g9
    exact Or.inl ⟨_, _, (σ.1, σ.2.1, rs_rd_stk σ.2.2.1 st1, σ.2.2.2.1, σ.2.2.2.2.1, σ.2.2.2.2.2), _, f8, g_of f9, rfl, rfl, JJ_st h hw h1 st1⟩
  · rw [e1] at k1
    have k2 := is_C (t := md_thrown ρ) hw hR e2 (Or.inl rfl)
    rw [if_pos rfl] at k2
    have f8 : f_X8_margin σ (q 1) = some (.inl ("java/lang/IndexOutOfBoundsException", σ)) := by
      unfold f_X8_margin
      rw [k1, X1_l]
    have f9 : f_X9_margin (md_thrown ρ) (md_now ρ) (md_rows ρ) (md_pile ρ) (q 1) = some ((0 : _), 1, md_pile ρ) := by
      rw [h2]
      unfold f_X9_margin
      rw [k2, zB1_s, if_pos rfl]
    exact Or.inr ⟨_, σ, _, f8, g_of f9, rfl, JJ_up h⟩
theorem lq_21 (h : lw_J ok t σ ρ) : lw_LS (lw_J ok (t + 1)) (lw_JL ok (t + 1)) σ ρ q 21 := by
  obtain ⟨w, hw, h1, h2, hR⟩ := JJ_use h
  have hbd := hR.2.2.2.2.2.1.2.1
  have h8 := hR.2.2.1.2.1
  have k1 := chk_B hw h1 hR (q 1)
  rcases idx_d (q 1) (n := nce (σ.2.2.2.2.2 w)) (by omega) with ⟨c, hc, e⟩ | ⟨e1, e2⟩
  · obtain ⟨i1, i2⟩ := idx_ok hc (by omega)
    rw [e, i1] at k1
    have k2 := is_B (t := md_thrown ρ) hw hR i2 (Or.inr rfl)
    rw [if_neg one_ne] at k2
    obtain ⟨⟨b0, -⟩, ⟨b1, -⟩, ⟨b2, -⟩, ⟨b3, -⟩, ⟨b4, -⟩⟩ := hR.2.2.2.2.2.1.2.2.2 c hc
    have f8 : f_X8_certificateContract σ (q 1) = some (.inr (pj_ce_contract (σ.2.2.2.2.2 w) c)) := by
      rw [e]
      unfold f_X8_certificateContract
      rw [k1, X1_r, zG1_t (gd_w h1 hw), nw_w h1 hw]
      rw [zR_n (by omega) (by omega)]
    have f9 : f_X9_certificateContract (md_thrown ρ) (md_now ρ) (md_rows ρ) (q 1) = some (pj_ce_contract (σ.2.2.2.2.2 w) c, 0) := by
      rw [e, h2]
      unfold f_X9_certificateContract
      rw [k2, zB1_s, if_neg one_ne]
      simp (disch := omega) only [X9_at, X9_bill, X9_lien, zB1_s, jI_add, jI_0, jI_1, jI_2, jI_3, jI_4, jI_5, jI_6, jI_7, Nat.add_zero, X9_get, X9_small, b0, Int32.toInt32_toInt64]
    exact Or.inl ⟨_, _, _, f8, g_of f9, rfl, rfl, JJ_up h⟩
  · rw [e1] at k1
    have k2 := is_B (t := md_thrown ρ) hw hR e2 (Or.inl rfl)
    rw [if_pos rfl] at k2
    have f8 : f_X8_certificateContract σ (q 1) = some (.inl "java/lang/IndexOutOfBoundsException") := by
      unfold f_X8_certificateContract
      rw [k1, X1_l]
    have f9 : f_X9_certificateContract (md_thrown ρ) (md_now ρ) (md_rows ρ) (q 1) = some ((0 : _), 1) := by
      rw [h2]
      unfold f_X9_certificateContract
      rw [k2, zB1_s, if_pos rfl]
    exact Or.inr ⟨_, _, f8, g_of f9, rfl, JJ_up h⟩
theorem lq_22 (h : lw_J ok t σ ρ) : lw_LS (lw_J ok (t + 1)) (lw_JL ok (t + 1)) σ ρ q 22 := by
  obtain ⟨w, hw, h1, h2, hR⟩ := JJ_use h
  have hbd := hR.2.2.2.2.2.1.2.1
  have h8 := hR.2.2.1.2.1
  have k1 := chk_B hw h1 hR (q 1)
  rcases idx_d (q 1) (n := nce (σ.2.2.2.2.2 w)) (by omega) with ⟨c, hc, e⟩ | ⟨e1, e2⟩
  · obtain ⟨i1, i2⟩ := idx_ok hc (by omega)
    rw [e, i1] at k1
    have k2 := is_B (t := md_thrown ρ) hw hR i2 (Or.inr rfl)
    rw [if_neg one_ne] at k2
    obtain ⟨⟨b0, -⟩, ⟨b1, -⟩, ⟨b2, -⟩, ⟨b3, -⟩, ⟨b4, -⟩⟩ := hR.2.2.2.2.2.1.2.2.2 c hc
    have f8 : f_X8_amount σ (q 1) = some (.inr (pj_ce_amount (σ.2.2.2.2.2 w) c)) := by
      rw [e]
      unfold f_X8_amount
      rw [k1, X1_r, zG1_t (gd_w h1 hw), nw_w h1 hw]
      rw [zR_n (by omega) (by omega)]
    have f9 : f_X9_amount (md_thrown ρ) (md_now ρ) (md_rows ρ) (q 1) = some (pj_ce_amount (σ.2.2.2.2.2 w) c, 0) := by
      rw [e, h2]
      unfold f_X9_amount
      rw [k2, zB1_s, if_neg one_ne]
      simp (disch := omega) only [X9_at, X9_bill, X9_lien, zB1_s, jI_add, jI_0, jI_1, jI_2, jI_3, jI_4, jI_5, jI_6, jI_7, Nat.add_zero, X9_get, X9_small, b1]
    exact Or.inl ⟨_, _, _, f8, g_of f9, rfl, rfl, JJ_up h⟩
  · rw [e1] at k1
    have k2 := is_B (t := md_thrown ρ) hw hR e2 (Or.inl rfl)
    rw [if_pos rfl] at k2
    have f8 : f_X8_amount σ (q 1) = some (.inl "java/lang/IndexOutOfBoundsException") := by
      unfold f_X8_amount
      rw [k1, X1_l]
    have f9 : f_X9_amount (md_thrown ρ) (md_now ρ) (md_rows ρ) (q 1) = some ((0 : _), 1) := by
      rw [h2]
      unfold f_X9_amount
      rw [k2, zB1_s, if_pos rfl]
    exact Or.inr ⟨_, _, f8, g_of f9, rfl, JJ_up h⟩
theorem lq_23 (h : lw_J ok t σ ρ) : lw_LS (lw_J ok (t + 1)) (lw_JL ok (t + 1)) σ ρ q 23 := by
  obtain ⟨w, hw, h1, h2, hR⟩ := JJ_use h
  have hbd := hR.2.2.2.2.2.1.2.1
  have h8 := hR.2.2.1.2.1
  have k1 := chk_B hw h1 hR (q 1)
  rcases idx_d (q 1) (n := nce (σ.2.2.2.2.2 w)) (by omega) with ⟨c, hc, e⟩ | ⟨e1, e2⟩
  · obtain ⟨i1, i2⟩ := idx_ok hc (by omega)
    rw [e, i1] at k1
    have k2 := is_B (t := md_thrown ρ) hw hR i2 (Or.inr rfl)
    rw [if_neg one_ne] at k2
    obtain ⟨⟨b0, -⟩, ⟨b1, -⟩, ⟨b2, -⟩, ⟨b3, -⟩, ⟨b4, -⟩⟩ := hR.2.2.2.2.2.1.2.2.2 c hc
    have f8 : f_X8_openAmount σ (q 1) = some (.inr (pj_ce_open (σ.2.2.2.2.2 w) c)) := by
      rw [e]
      unfold f_X8_openAmount
      rw [k1, X1_r, zG1_t (gd_w h1 hw), nw_w h1 hw]
      rw [zR_n (by omega) (by omega)]
    have f9 : f_X9_openAmount (md_thrown ρ) (md_now ρ) (md_rows ρ) (q 1) = some (pj_ce_open (σ.2.2.2.2.2 w) c, 0) := by
      rw [e, h2]
      unfold f_X9_openAmount
      rw [k2, zB1_s, if_neg one_ne]
      rw [X9_openOf hw (by omega), zB1_s, b2]
    exact Or.inl ⟨_, _, _, f8, g_of f9, rfl, rfl, JJ_up h⟩
  · rw [e1] at k1
    have k2 := is_B (t := md_thrown ρ) hw hR e2 (Or.inl rfl)
    rw [if_pos rfl] at k2
    have f8 : f_X8_openAmount σ (q 1) = some (.inl "java/lang/IndexOutOfBoundsException") := by
      unfold f_X8_openAmount
      rw [k1, X1_l]
    have f9 : f_X9_openAmount (md_thrown ρ) (md_now ρ) (md_rows ρ) (q 1) = some ((0 : _), 1) := by
      rw [h2]
      unfold f_X9_openAmount
      rw [k2, zB1_s, if_pos rfl]
    exact Or.inr ⟨_, _, f8, g_of f9, rfl, JJ_up h⟩
theorem lq_24 (h : lw_J ok t σ ρ) : lw_LS (lw_J ok (t + 1)) (lw_JL ok (t + 1)) σ ρ q 24 := by
  obtain ⟨w, hw, h1, h2, hR⟩ := JJ_use h
  have hbd := hR.2.2.2.2.2.1.2.1
  have h8 := hR.2.2.1.2.1
  have k1 := chk_B hw h1 hR (q 1)
  rcases idx_d (q 1) (n := nce (σ.2.2.2.2.2 w)) (by omega) with ⟨c, hc, e⟩ | ⟨e1, e2⟩
  · obtain ⟨i1, i2⟩ := idx_ok hc (by omega)
    rw [e, i1] at k1
    have k2 := is_B (t := md_thrown ρ) hw hR i2 (Or.inr rfl)
    rw [if_neg one_ne] at k2
    obtain ⟨⟨b0, -⟩, ⟨b1, -⟩, ⟨b2, -⟩, ⟨b3, -⟩, ⟨b4, -⟩⟩ := hR.2.2.2.2.2.1.2.2.2 c hc
    have f8 : f_X8_dueDay σ (q 1) = some (.inr (pj_ce_due (σ.2.2.2.2.2 w) c)) := by
      rw [e]
      unfold f_X8_dueDay
      rw [k1, X1_r, zG1_t (gd_w h1 hw), nw_w h1 hw]
      rw [zR_n (by omega) (by omega)]
    have f9 : f_X9_dueDay (md_thrown ρ) (md_now ρ) (md_rows ρ) (q 1) = some (pj_ce_due (σ.2.2.2.2.2 w) c, 0) := by
      rw [e, h2]
      unfold f_X9_dueDay
      rw [k2, zB1_s, if_neg one_ne]
      simp (disch := omega) only [X9_at, X9_bill, X9_lien, zB1_s, jI_add, jI_0, jI_1, jI_2, jI_3, jI_4, jI_5, jI_6, jI_7, Nat.add_zero, X9_get, X9_small, b4, Int32.toInt32_toInt64]
    exact Or.inl ⟨_, _, _, f8, g_of f9, rfl, rfl, JJ_up h⟩
  · rw [e1] at k1
    have k2 := is_B (t := md_thrown ρ) hw hR e2 (Or.inl rfl)
    rw [if_pos rfl] at k2
    have f8 : f_X8_dueDay σ (q 1) = some (.inl "java/lang/IndexOutOfBoundsException") := by
      unfold f_X8_dueDay
      rw [k1, X1_l]
    have f9 : f_X9_dueDay (md_thrown ρ) (md_now ρ) (md_rows ρ) (q 1) = some ((0 : _), 1) := by
      rw [h2]
      unfold f_X9_dueDay
      rw [k2, zB1_s, if_pos rfl]
    exact Or.inr ⟨_, _, f8, g_of f9, rfl, JJ_up h⟩
theorem lq_25 (h : lw_J ok t σ ρ) : lw_LS (lw_J ok (t + 1)) (lw_JL ok (t + 1)) σ ρ q 25 := by
  obtain ⟨w, hw, h1, h2, hR⟩ := JJ_use h
  have hbd := hR.2.2.2.2.2.1.2.1
  have h8 := hR.2.2.1.2.1
  have k1 := chk_B hw h1 hR (q 1)
  rcases idx_d (q 1) (n := nce (σ.2.2.2.2.2 w)) (by omega) with ⟨c, hc, e⟩ | ⟨e1, e2⟩
  · obtain ⟨i1, i2⟩ := idx_ok hc (by omega)
    rw [e, i1] at k1
    have k2 := is_B (t := md_thrown ρ) hw hR i2 (Or.inr rfl)
    rw [if_neg one_ne] at k2
    have f8 : f_X8_isBlocked σ (q 1) = some (.inr ((if v_held (σ.2.2.2.2.2 w) c = true then (1 : Int32) else 0))) := by
      rw [e]
      unfold f_X8_isBlocked
      rw [k1, X1_r, zG1_t (gd_w h1 hw), nw_w h1 hw]
      rw [k_isHeldBack hw hR hc, zB1_s, zG1_t (by split <;> decide)]
    have f9 : f_X9_isBlocked (md_thrown ρ) (md_now ρ) (md_rows ρ) (q 1) = some ((if v_held (σ.2.2.2.2.2 w) c = true then (1 : Int32) else 0), 0) := by
      rw [e, h2]
      unfold f_X9_isBlocked
      rw [k2, zB1_s, if_neg one_ne]
      rw [r_isHeld hw hR hc, zB1_s]
      by_cases hh : v_held (σ.2.2.2.2.2 w) c = true
      · rw [if_pos hh, if_neg one_ne]
      · rw [if_neg hh, if_pos rfl]
    exact Or.inl ⟨_, _, _, f8, g_of f9, rfl, Iff.rfl, JJ_up h⟩
  · rw [e1] at k1
    have k2 := is_B (t := md_thrown ρ) hw hR e2 (Or.inl rfl)
    rw [if_pos rfl] at k2
    have f8 : f_X8_isBlocked σ (q 1) = some (.inl "java/lang/IndexOutOfBoundsException") := by
      unfold f_X8_isBlocked
      rw [k1, X1_l]
    have f9 : f_X9_isBlocked (md_thrown ρ) (md_now ρ) (md_rows ρ) (q 1) = some ((0 : _), 1) := by
      rw [h2]
      unfold f_X9_isBlocked
      rw [k2, zB1_s, if_pos rfl]
    exact Or.inr ⟨_, _, f8, g_of f9, rfl, JJ_up h⟩
theorem lq_29 (h : lw_J ok t σ ρ) : lw_LS (lw_J ok (t + 1)) (lw_JL ok (t + 1)) σ ρ q 29 := by
  obtain ⟨w, hw, h1, h2, hR⟩ := JJ_use h
  have hbd := hR.2.2.2.2.1.2.1
  have h8 := hR.2.2.1.2.1
  have k1 := chk_V hw h1 hR (q 1)
  rcases idx_d (q 1) (n := nva (σ.2.2.2.2.2 w)) (by omega) with ⟨c, hc, e⟩ | ⟨e1, e2⟩
  · obtain ⟨i1, i2⟩ := idx_ok hc (by omega)
    rw [e, i1] at k1
    have k2 := is_V (t := md_thrown ρ) hw hR i2 (Or.inr rfl)
    rw [if_neg one_ne] at k2
    obtain ⟨-, -, ⟨v5, w0, w1⟩⟩ := hR.2.2.2.2.1.2.2.2 c hc
    have f8 : f_X8_isApproved σ (q 1) = some (.inr (pj_va_approved (σ.2.2.2.2.2 w) c)) := by
      rw [e]
      unfold f_X8_isApproved
      rw [k1, X1_r, zG1_t (gd_w h1 hw), nw_w h1 hw]
      rw [zR_n (by omega) (by omega)]
      rcases I_01 w0 w1 with hh | hh
      · rw [hh, zG1_t (by decide)]
      · rw [hh, zG1_t (by decide)]
    have f9 : f_X9_isApproved (md_thrown ρ) (md_now ρ) (md_rows ρ) (q 1) = some ((if pj_va_approved (σ.2.2.2.2.2 w) c = 1 then (1 : Int32) else 0), 0) := by
      rw [e, h2]
      unfold f_X9_isApproved
      rw [k2, zB1_s, if_neg one_ne]
      simp (disch := omega) only [jI_230, jI_4, jI_3, jI_mul, jI_add, X9_get, zB1_s, v5, L_1]
      split <;> rfl
    exact Or.inl ⟨_, _, _, f8, g_of f9, rfl, (by rcases I_01 w0 w1 with hh | hh <;> rw [hh] <;> decide), JJ_up h⟩
  · rw [e1] at k1
    have k2 := is_V (t := md_thrown ρ) hw hR e2 (Or.inl rfl)
    rw [if_pos rfl] at k2
    have f8 : f_X8_isApproved σ (q 1) = some (.inl "java/lang/IndexOutOfBoundsException") := by
      unfold f_X8_isApproved
      rw [k1, X1_l]
    have f9 : f_X9_isApproved (md_thrown ρ) (md_now ρ) (md_rows ρ) (q 1) = some ((0 : _), 1) := by
      rw [h2]
      unfold f_X9_isApproved
      rw [k2, zB1_s, if_pos rfl]
    exact Or.inr ⟨_, _, f8, g_of f9, rfl, JJ_up h⟩
theorem lq_30 (h : lw_J ok t σ ρ) : lw_LS (lw_J ok (t + 1)) (lw_JL ok (t + 1)) σ ρ q 30 := by
  obtain ⟨w, hw, h1, h2, hR⟩ := JJ_use h
  have hbd := hR.2.2.2.2.1.2.1
  have h8 := hR.2.2.1.2.1
  have k1 := chk_V hw h1 hR (q 1)
  rcases idx_d (q 1) (n := nva (σ.2.2.2.2.2 w)) (by omega) with ⟨c, hc, e⟩ | ⟨e1, e2⟩
  · obtain ⟨i1, i2⟩ := idx_ok hc (by omega)
    rw [e, i1] at k1
    have k2 := is_V (t := md_thrown ρ) hw hR i2 (Or.inr rfl)
    rw [if_neg one_ne] at k2
    obtain ⟨st1, g8⟩ := k_worthOf hR hc (rj_rd_stk σ.2.2.1)
    obtain ⟨pl1, g9⟩ := r_worth_lo hw hR hc 0 (md_pile ρ)
    have f8 : f_X8_variationWorth σ (q 1) = some (.inr (vWorth (σ.2.2.2.2.2 w) c, (σ.1, σ.2.1, rs_rd_stk σ.2.2.1 st1, σ.2.2.2.1, σ.2.2.2.2.1, σ.2.2.2.2.2))) := by
      rw [e]
      unfold f_X8_variationWorth
      rw [k1, X1_r, zG1_t (gd_w h1 hw), nw_w h1 hw]
      rw [g8, zB1_s]
    have f9 : f_X9_variationWorth (md_thrown ρ) (md_now ρ) (md_rows ρ) (md_pile ρ) (q 1) = some (vWorth (σ.2.2.2.2.2 w) c, 0, pl1) := by
      rw [e, h2]
      unfold f_X9_variationWorth
      rw [k2, zB1_s, if_neg one_ne]
      exact g9
    exact Or.inl ⟨_, _, (σ.1, σ.2.1, rs_rd_stk σ.2.2.1 st1, σ.2.2.2.1, σ.2.2.2.2.1, σ.2.2.2.2.2), _, f8, g_of f9, rfl, rfl, JJ_st h hw h1 st1⟩
  · rw [e1] at k1
    have k2 := is_V (t := md_thrown ρ) hw hR e2 (Or.inl rfl)
    rw [if_pos rfl] at k2
    have f8 : f_X8_variationWorth σ (q 1) = some (.inl ("java/lang/IndexOutOfBoundsException", σ)) := by
      unfold f_X8_variationWorth
      rw [k1, X1_l]
    have f9 : f_X9_variationWorth (md_thrown ρ) (md_now ρ) (md_rows ρ) (md_pile ρ) (q 1) = some ((0 : _), 1, md_pile ρ) := by
      rw [h2]
      unfold f_X9_variationWorth
      rw [k2, zB1_s, if_pos rfl]
    exact Or.inr ⟨_, σ, _, f8, g_of f9, rfl, JJ_up h⟩
theorem lq_32 (h : lw_J ok t σ ρ) : lw_LS (lw_J ok (t + 1)) (lw_JL ok (t + 1)) σ ρ q 32 := by
  obtain ⟨w, hw, h1, h2, hR⟩ := JJ_use h
  have hbd := hR.2.2.2.2.2.2.1.2.1
  have h8 := hR.2.2.1.2.1
  have k1 := chk_L hw h1 hR (q 1)
  rcases idx_d (q 1) (n := nli (σ.2.2.2.2.2 w)) (by omega) with ⟨c, hc, e⟩ | ⟨e1, e2⟩
  · obtain ⟨i1, i2⟩ := idx_ok hc (by omega)
    rw [e, i1] at k1
    have k2 := is_L (t := md_thrown ρ) hw hR i2 (Or.inr rfl)
    rw [if_neg one_ne] at k2
    have f8 : f_X8_claim σ (q 1) = some (.inr (v_claim (σ.2.2.2.2.2 w) c)) := by
      rw [e]
      unfold f_X8_claim
      rw [k1, X1_r, zG1_t (gd_w h1 hw), nw_w h1 hw]
      rw [k_claimOf hw hR hc, zB1_s]
    have f9 : f_X9_claim (md_thrown ρ) (md_now ρ) (md_rows ρ) (q 1) = some (v_claim (σ.2.2.2.2.2 w) c, 0) := by
      rw [e, h2]
      unfold f_X9_claim
      rw [k2, zB1_s, if_neg one_ne]
      rw [r_claimOf hw hR hc, zB1_s]
    exact Or.inl ⟨_, _, _, f8, g_of f9, rfl, rfl, JJ_up h⟩
  · rw [e1] at k1
    have k2 := is_L (t := md_thrown ρ) hw hR e2 (Or.inl rfl)
    rw [if_pos rfl] at k2
    have f8 : f_X8_claim σ (q 1) = some (.inl "java/lang/IndexOutOfBoundsException") := by
      unfold f_X8_claim
      rw [k1, X1_l]
    have f9 : f_X9_claim (md_thrown ρ) (md_now ρ) (md_rows ρ) (q 1) = some ((0 : _), 1) := by
      rw [h2]
      unfold f_X9_claim
      rw [k2, zB1_s, if_pos rfl]
    exact Or.inr ⟨_, _, f8, g_of f9, rfl, JJ_up h⟩
theorem lq_33 (h : lw_J ok t σ ρ) : lw_LS (lw_J ok (t + 1)) (lw_JL ok (t + 1)) σ ρ q 33 := by
  obtain ⟨w, hw, h1, h2, hR⟩ := JJ_use h
  have hbd := hR.2.2.2.2.2.2.1.2.1
  have h8 := hR.2.2.1.2.1
  have k1 := chk_L hw h1 hR (q 1)
  rcases idx_d (q 1) (n := nli (σ.2.2.2.2.2 w)) (by omega) with ⟨c, hc, e⟩ | ⟨e1, e2⟩
  · obtain ⟨i1, i2⟩ := idx_ok hc (by omega)
    rw [e, i1] at k1
    have k2 := is_L (t := md_thrown ρ) hw hR i2 (Or.inr rfl)
    rw [if_neg one_ne] at k2
    have f8 : f_X8_priority σ (q 1) = some (.inr (oI (sF (fun k => decide (vPl (σ.2.2.2.2.2 w) k = c)) 0 (nli (σ.2.2.2.2.2 w))))) := by
      rw [e]
      unfold f_X8_priority
      rw [k1, X1_r, zG1_t (gd_w h1 hw), nw_w h1 hw]
      rw [k_lienAt hR hc, zB1_s]
    have f9 : f_X9_priority (md_thrown ρ) (md_now ρ) (md_rows ρ) (q 1) = some (oI (sF (fun k => decide (vPl (σ.2.2.2.2.2 w) k = c)) 0 (nli (σ.2.2.2.2.2 w))), 0) := by
      rw [e, h2]
      unfold f_X9_priority
      rw [k2, zB1_s, if_neg one_ne]
      exact r_priority_lo hw hR hc 0
    exact Or.inl ⟨_, _, _, f8, g_of f9, rfl, rfl, JJ_up h⟩
  · rw [e1] at k1
    have k2 := is_L (t := md_thrown ρ) hw hR e2 (Or.inl rfl)
    rw [if_pos rfl] at k2
    have f8 : f_X8_priority σ (q 1) = some (.inl "java/lang/IndexOutOfBoundsException") := by
      unfold f_X8_priority
      rw [k1, X1_l]
    have f9 : f_X9_priority (md_thrown ρ) (md_now ρ) (md_rows ρ) (q 1) = some ((0 : _), 1) := by
      rw [h2]
      unfold f_X9_priority
      rw [k2, zB1_s, if_pos rfl]
    exact Or.inr ⟨_, _, f8, g_of f9, rfl, JJ_up h⟩
theorem lq_3 (h : lw_J ok t σ ρ) : lw_LS (lw_J ok (t + 1)) (lw_JL ok (t + 1)) σ ρ q 3 := by
  obtain ⟨w, hw, h1, h2, hR⟩ := JJ_use h
  have f8 : f_X8_day σ = some (pj_pr_day (σ.2.2.2.2.2 w)) := by
    unfold f_X8_day
    rw [zG1_t (gd_w h1 hw), nw_w h1 hw]

  have f9 : f_X9_day (md_thrown ρ) (md_now ρ) (md_rows ρ) = some (pj_pr_day (σ.2.2.2.2.2 w), 0) := by
    rw [h2]
    unfold f_X9_day
    rw [jI_1, X9_small hw (by omega), zB1_s, hR.1.1, Int32.toInt32_toInt64]
  exact ⟨_, _, f8, g_of f9, JJ_up h⟩
theorem lq_4 (h : lw_J ok t σ ρ) : lw_LS (lw_J ok (t + 1)) (lw_JL ok (t + 1)) σ ρ q 4 := by
  obtain ⟨w, hw, h1, h2, hR⟩ := JJ_use h
  have f8 : f_X8_contractCount σ = some (pj_co_count (σ.2.2.2.2.2 w)) := by
    unfold f_X8_contractCount
    rw [zG1_t (gd_w h1 hw), nw_w h1 hw]

  have f9 : f_X9_contractCount (md_thrown ρ) (md_now ρ) (md_rows ρ) = some (pj_co_count (σ.2.2.2.2.2 w), 0) := by
    rw [h2]
    unfold f_X9_contractCount
    rw [jI_0, X9_small hw (by omega), zB1_s, hR.2.2.1.2.2.1, jL_I, ← hR.2.2.1.1]
  exact ⟨_, _, f8, g_of f9, JJ_up h⟩
theorem lq_20 (h : lw_J ok t σ ρ) : lw_LS (lw_J ok (t + 1)) (lw_JL ok (t + 1)) σ ρ q 20 := by
  obtain ⟨w, hw, h1, h2, hR⟩ := JJ_use h
  have f8 : f_X8_certificateCount σ = some (pj_ce_count (σ.2.2.2.2.2 w)) := by
    unfold f_X8_certificateCount
    rw [zG1_t (gd_w h1 hw), nw_w h1 hw]

  have f9 : f_X9_certificateCount (md_thrown ρ) (md_now ρ) (md_rows ρ) = some (pj_ce_count (σ.2.2.2.2.2 w), 0) := by
    rw [h2]
    unfold f_X9_certificateCount
    rw [jI_5, X9_small hw (by omega), zB1_s, hR.2.2.2.2.2.1.2.2.1, jL_I, ← hR.2.2.2.2.2.1.1]
  exact ⟨_, _, f8, g_of f9, JJ_up h⟩
theorem lq_28 (h : lw_J ok t σ ρ) : lw_LS (lw_J ok (t + 1)) (lw_JL ok (t + 1)) σ ρ q 28 := by
  obtain ⟨w, hw, h1, h2, hR⟩ := JJ_use h
  have f8 : f_X8_variationCount σ = some (pj_va_count (σ.2.2.2.2.2 w)) := by
    unfold f_X8_variationCount
    rw [zG1_t (gd_w h1 hw), nw_w h1 hw]

  have f9 : f_X9_variationCount (md_thrown ρ) (md_now ρ) (md_rows ρ) = some (pj_va_count (σ.2.2.2.2.2 w), 0) := by
    rw [h2]
    unfold f_X9_variationCount
    rw [jI_4, X9_small hw (by omega), zB1_s, hR.2.2.2.2.1.2.2.1, jL_I, ← hR.2.2.2.2.1.1]
  exact ⟨_, _, f8, g_of f9, JJ_up h⟩
theorem lq_31 (h : lw_J ok t σ ρ) : lw_LS (lw_J ok (t + 1)) (lw_JL ok (t + 1)) σ ρ q 31 := by
  obtain ⟨w, hw, h1, h2, hR⟩ := JJ_use h
  have f8 : f_X8_lienCount σ = some (pj_li_count (σ.2.2.2.2.2 w)) := by
    unfold f_X8_lienCount
    rw [zG1_t (gd_w h1 hw), nw_w h1 hw]

  have f9 : f_X9_lienCount (md_thrown ρ) (md_now ρ) (md_rows ρ) = some (pj_li_count (σ.2.2.2.2.2 w), 0) := by
    rw [h2]
    unfold f_X9_lienCount
    rw [jI_6, X9_small hw (by omega), zB1_s, hR.2.2.2.2.2.2.1.2.2.1, jL_I, ← hR.2.2.2.2.2.2.1.1]
  exact ⟨_, _, f8, g_of f9, JJ_up h⟩
theorem lq_2 (h : lw_J ok t σ ρ) : lw_LS (lw_J ok (t + 1)) (lw_JL ok (t + 1)) σ ρ q 2 := by
  have hJ := JJ_up h
  obtain ⟨w, d, f, -, -, -, -, -, -, -, -, -, -, -, -, he⟩ := id h
  have f9 : f_X9_errorOffset (md_thrown ρ) (md_errorAt ρ) = some (md_errorAt ρ, 0) := rfl
  have f8 : f_X8_errorOffset σ = some (md_errorAt ρ) := by
    unfold f_X8_errorOffset
    rw [he]
  exact ⟨_, _, f8, g_of f9, hJ⟩
theorem lq_26 (h : lw_J ok t σ ρ) : lw_LS (lw_J ok (t + 1)) (lw_JL ok (t + 1)) σ ρ q 26 := by
  obtain ⟨w, hw, h1, h2, hR⟩ := JJ_use h
  have f8 : f_X8_dueBetween σ (q 1) (q 2) = some (v_btw (σ.2.2.2.2.2 w) (q 1) (q 2)) := by
    unfold f_X8_dueBetween
    rw [zG1_t (gd_w h1 hw), nw_w h1 hw, k_openDueBetween hw hR, zB1_s]
  have f9 : f_X9_dueBetween (md_thrown ρ) (md_now ρ) (md_rows ρ) (q 1) (q 2) = some (v_btw (σ.2.2.2.2.2 w) (q 1) (q 2), 0) := by
    rw [h2, r_dueBetween hw hR]
  exact ⟨_, _, f8, g_of f9, JJ_up h⟩
theorem lq_47 (h : lw_J ok t σ ρ) : lw_LS (lw_J ok (t + 1)) (lw_JL ok (t + 1)) σ ρ q 47 := by
  obtain ⟨w, hw, h1, h2, hR⟩ := JJ_use h
  obtain ⟨st1, g8⟩ := k_checksum hw hR (rj_rd_stk σ.2.2.1)
  obtain ⟨pl1, g9⟩ := r_checksum hw hR (md_thrown ρ) (md_pile ρ)
  have f8 : f_X8_checksum σ = some (vSum (σ.2.2.2.2.2 w), (σ.1, σ.2.1, rs_rd_stk σ.2.2.1 st1, σ.2.2.2.1, σ.2.2.2.2.1, σ.2.2.2.2.2)) := by
    unfold f_X8_checksum
    rw [zG1_t (gd_w h1 hw), nw_w h1 hw, g8, zB1_s]
  have f9 : f_X9_checksum (md_thrown ρ) (md_now ρ) (md_rows ρ) (md_pile ρ) = some (vSum (σ.2.2.2.2.2 w), 0, pl1) := by
    rw [h2, g9]
  exact ⟨_, (σ.1, σ.2.1, rs_rd_stk σ.2.2.1 st1, σ.2.2.2.1, σ.2.2.2.2.1, σ.2.2.2.2.2), _, f8, g_of f9, JJ_st h hw h1 st1⟩
theorem lq_19 (h : lw_J ok t σ ρ) : lw_LS (lw_J ok (t + 1)) (lw_JL ok (t + 1)) σ ρ q 19 := by
  obtain ⟨w, hw, h1, h2, hR⟩ := JJ_use h
  have h8 := hR.2.2.1.2.1
  have e0 : pj_co_count (σ.2.2.2.2.2 w) + 1 = jI (nco (σ.2.2.2.2.2 w) + 1) := by rw [hR.2.2.1.1, jI_1, jI_add]
  have e3 : jL (nco (σ.2.2.2.2.2 w) + 1) - (1 : Int64) = jL (nco (σ.2.2.2.2.2 w)) := by rw [jL_1, jL_sub (by omega)]; rfl
  rcases idx_d (q 1) (n := nco (σ.2.2.2.2.2 w) + 1) (by omega) with ⟨c, hc, e⟩ | ⟨e1, e2⟩
  · obtain ⟨i1, i2⟩ := idx_ok hc (by omega)
    obtain ⟨a1, -⟩ := hR.2.2.2.2.2.2.2.1.1 c (by omega)
    rw [e3] at i2
    have f8 : f_X8_account σ (q 1) = some (.inr (pj_pr_accounts (σ.2.2.2.2.2 w) c)) := by
      rw [e]
      unfold f_X8_account
      rw [zG1_t (gd_w h1 hw), nw_w h1 hw, e0, i1, X1_r, zR_n (by omega) (by omega)]
    have f9 : f_X9_account (md_thrown ρ) (md_now ρ) (md_rows ρ) (q 1) = some (pj_pr_accounts (σ.2.2.2.2.2 w) c, 0) := by
      rw [e, h2]
      unfold f_X9_account
      rw [jI_0, X9_get hw (by omega), zB1_s, hR.2.2.1.2.2.1, ← jI_0, i2, zB1_s]
      show zB1 (f_X9_right (0 : Int32) 1 1) _ = _
      rw [right_t, zB1_s, if_neg one_ne, jI_8, jI_add, X9_get hw (by omega), zB1_s, a1]
    exact Or.inl ⟨_, _, _, f8, g_of f9, rfl, rfl, JJ_up h⟩
  · rw [e3] at e2
    have f8 : f_X8_account σ (q 1) = some (.inl "java/lang/IndexOutOfBoundsException") := by
      unfold f_X8_account
      rw [zG1_t (gd_w h1 hw), nw_w h1 hw, e0, e1, X1_l]
    have f9 : f_X9_account (md_thrown ρ) (md_now ρ) (md_rows ρ) (q 1) = some (0, 1) := by
      rw [h2]
      unfold f_X9_account
      rw [jI_0, X9_get hw (by omega), zB1_s, hR.2.2.1.2.2.1, ← jI_0, e2, zB1_s]
      rfl
    exact Or.inr ⟨_, _, f8, g_of f9, rfl, JJ_up h⟩
theorem lq_7 (h : lw_J ok t σ ρ) : lw_LS (lw_J ok (t + 1)) (lw_JL ok (t + 1)) σ ρ q 7 := by
  obtain ⟨w, hw, h1, h2, hR⟩ := JJ_use h
  have h8 := hR.2.2.1.2.1
  rcases idx_d (q 1) (n := nco (σ.2.2.2.2.2 w)) (by omega) with ⟨c, hc, e⟩ | ⟨e1, e2⟩
  have h6 := (hR.2.2.2.1 c hc).1.2.1
  rcases idx_d (q 2) (n := nit (σ.2.2.2.2.2 w) c) (by omega) with ⟨i, hi, ei⟩ | ⟨e1, e2⟩
  · obtain ⟨i1, i2⟩ := idx_ok hi (by omega)
    have f8 : f_X8_quantity σ (q 1) (q 2) = some (.inr (pj_it_quantity (σ.2.2.2.2.2 w) (c * 6 + i))) := by
      rw [e, ei]
      unfold f_X8_quantity
      rw [chk_I hw h1 hR hc, i1, X1_r, zG1_t (gd_w h1 hw), nw_w h1 hw, k_slotOf, zB1_s]
      rw [zR_n (by omega) (by omega)]
    have f9 : f_X9_quantity (md_thrown ρ) (md_now ρ) (md_rows ρ) (q 1) (q 2) = some (pj_it_quantity (σ.2.2.2.2.2 w) (c * 6 + i), 0) := by
      rw [e, ei, h2]
      unfold f_X9_quantity
      rw [is_I hw hR hc i2 (Or.inr rfl), if_neg one_ne, zB1_s, if_neg one_ne]
      rw [r_quantityOf hw hR hc hi, zB1_s, Int32.toInt32_toInt64]
    exact Or.inl ⟨_, _, _, f8, g_of f9, rfl, rfl, JJ_up h⟩
  · have f8 : f_X8_quantity σ (q 1) (q 2) = some (.inl "java/lang/IndexOutOfBoundsException") := by
      rw [e]
      unfold f_X8_quantity
      rw [chk_I hw h1 hR hc, e1, X1_l]
    have f9 : f_X9_quantity (md_thrown ρ) (md_now ρ) (md_rows ρ) (q 1) (q 2) = some ((0 : _), 1) := by
      rw [e, h2]
      unfold f_X9_quantity
      rw [is_I hw hR hc e2 (Or.inl rfl), if_pos rfl, zB1_s, if_pos rfl]
    exact Or.inr ⟨_, _, f8, g_of f9, rfl, JJ_up h⟩
  · have f8 : f_X8_quantity σ (q 1) (q 2) = some (.inl "java/lang/IndexOutOfBoundsException") := by
      skip
      unfold f_X8_quantity
      rw [chk_I0 hw h1 hR e1, X1_l]
    have f9 : f_X9_quantity (md_thrown ρ) (md_now ρ) (md_rows ρ) (q 1) (q 2) = some ((0 : _), 1) := by
      rw [h2]
      unfold f_X9_quantity
      rw [is_I0 hw hR e2, zB1_s, if_pos rfl]
    exact Or.inr ⟨_, _, f8, g_of f9, rfl, JJ_up h⟩
theorem lq_8 (h : lw_J ok t σ ρ) : lw_LS (lw_J ok (t + 1)) (lw_JL ok (t + 1)) σ ρ q 8 := by
  obtain ⟨w, hw, h1, h2, hR⟩ := JJ_use h
  have h8 := hR.2.2.1.2.1
  rcases idx_d (q 1) (n := nco (σ.2.2.2.2.2 w)) (by omega) with ⟨c, hc, e⟩ | ⟨e1, e2⟩
  have h6 := (hR.2.2.2.1 c hc).1.2.1
  rcases idx_d (q 2) (n := nit (σ.2.2.2.2.2 w) c) (by omega) with ⟨i, hi, ei⟩ | ⟨e1, e2⟩
  · obtain ⟨i1, i2⟩ := idx_ok hi (by omega)
    obtain ⟨q1, q2⟩ := qty_bd hR hc hi
    obtain ⟨st1, g8⟩ := k_specialRateOf hR (s := c * 6 + i) (by omega) (rj_rd_stk σ.2.2.1)
    obtain ⟨pl1, g9⟩ := r_rateBy hw hR hc hi (q := pj_it_quantity (σ.2.2.2.2.2 w) (c * 6 + i)) q1 (by omega) (md_pile ρ)
    have f8 : f_X8_specialRate σ (q 1) (q 2) = some (.inr (vRate (σ.2.2.2.2.2 w) (pj_it_price (σ.2.2.2.2.2 w) (c * 6 + i)) (pj_it_first (σ.2.2.2.2.2 w) (c * 6 + i)) (vExc (σ.2.2.2.2.2 w) (c * 6 + i) (pj_it_quantity (σ.2.2.2.2.2 w) (c * 6 + i))), (σ.1, σ.2.1, rs_rd_stk σ.2.2.1 st1, σ.2.2.2.1, σ.2.2.2.2.1, σ.2.2.2.2.2))) := by
      rw [e, ei]
      unfold f_X8_specialRate
      rw [chk_I hw h1 hR hc, i1, X1_r, zG1_t (gd_w h1 hw), nw_w h1 hw, k_slotOf, zB1_s]
      rw [g8, zB1_s]
    have f9 : f_X9_specialRate (md_thrown ρ) (md_now ρ) (md_rows ρ) (md_pile ρ) (q 1) (q 2) = some (vRate (σ.2.2.2.2.2 w) (pj_it_price (σ.2.2.2.2.2 w) (c * 6 + i)) (pj_it_first (σ.2.2.2.2.2 w) (c * 6 + i)) (vExc (σ.2.2.2.2.2 w) (c * 6 + i) (pj_it_quantity (σ.2.2.2.2.2 w) (c * 6 + i))), 0, pl1) := by
      rw [e, ei, h2]
      unfold f_X9_specialRate
      rw [is_I hw hR hc i2 (Or.inr rfl), if_neg one_ne, zB1_s, if_neg one_ne]
      rw [r_quantityOf hw hR hc hi, zB1_s, g9, zB1_s, Int32.toInt32_toInt64]
    exact Or.inl ⟨_, _, (σ.1, σ.2.1, rs_rd_stk σ.2.2.1 st1, σ.2.2.2.1, σ.2.2.2.2.1, σ.2.2.2.2.2), _, f8, g_of f9, rfl, rfl, JJ_st h hw h1 st1⟩
  · have f8 : f_X8_specialRate σ (q 1) (q 2) = some (.inl ("java/lang/IndexOutOfBoundsException", σ)) := by
      rw [e]
      unfold f_X8_specialRate
      rw [chk_I hw h1 hR hc, e1, X1_l]
    have f9 : f_X9_specialRate (md_thrown ρ) (md_now ρ) (md_rows ρ) (md_pile ρ) (q 1) (q 2) = some ((0 : _), 1, md_pile ρ) := by
      rw [e, h2]
      unfold f_X9_specialRate
      rw [is_I hw hR hc e2 (Or.inl rfl), if_pos rfl, zB1_s, if_pos rfl]
    exact Or.inr ⟨_, σ, _, f8, g_of f9, rfl, JJ_up h⟩
  · have f8 : f_X8_specialRate σ (q 1) (q 2) = some (.inl ("java/lang/IndexOutOfBoundsException", σ)) := by
      skip
      unfold f_X8_specialRate
      rw [chk_I0 hw h1 hR e1, X1_l]
    have f9 : f_X9_specialRate (md_thrown ρ) (md_now ρ) (md_rows ρ) (md_pile ρ) (q 1) (q 2) = some ((0 : _), 1, md_pile ρ) := by
      rw [h2]
      unfold f_X9_specialRate
      rw [is_I0 hw hR e2, zB1_s, if_pos rfl]
    exact Or.inr ⟨_, σ, _, f8, g_of f9, rfl, JJ_up h⟩
theorem lq_9 (h : lw_J ok t σ ρ) : lw_LS (lw_J ok (t + 1)) (lw_JL ok (t + 1)) σ ρ q 9 := by
  obtain ⟨w, hw, h1, h2, hR⟩ := JJ_use h
  have h8 := hR.2.2.1.2.1
  rcases idx_d (q 1) (n := nco (σ.2.2.2.2.2 w)) (by omega) with ⟨c, hc, e⟩ | ⟨e1, e2⟩
  have h6 := (hR.2.2.2.1 c hc).1.2.1
  rcases idx_d (q 2) (n := nit (σ.2.2.2.2.2 w) c) (by omega) with ⟨i, hi, ei⟩ | ⟨e1, e2⟩
  · obtain ⟨i1, i2⟩ := idx_ok hi (by omega)
    obtain ⟨st1, g8⟩ := k_valueOf hR (s := c * 6 + i) (by omega) (rj_rd_stk σ.2.2.1)
    obtain ⟨pl1, g9⟩ := r_valueOf hw hR hc hi (md_pile ρ)
    have f8 : f_X8_itemValue σ (q 1) (q 2) = some (.inr (vVal (σ.2.2.2.2.2 w) (c * 6 + i), (σ.1, σ.2.1, rs_rd_stk σ.2.2.1 st1, σ.2.2.2.1, σ.2.2.2.2.1, σ.2.2.2.2.2))) := by
      rw [e, ei]
      unfold f_X8_itemValue
      rw [chk_I hw h1 hR hc, i1, X1_r, zG1_t (gd_w h1 hw), nw_w h1 hw, k_slotOf, zB1_s]
      rw [g8, zB1_s]
    have f9 : f_X9_itemValue (md_thrown ρ) (md_now ρ) (md_rows ρ) (md_pile ρ) (q 1) (q 2) = some (vVal (σ.2.2.2.2.2 w) (c * 6 + i), 0, pl1) := by
      rw [e, ei, h2]
      unfold f_X9_itemValue
      rw [is_I hw hR hc i2 (Or.inr rfl), if_neg one_ne, zB1_s, if_neg one_ne]
      rw [g9, zB1_s]
    exact Or.inl ⟨_, _, (σ.1, σ.2.1, rs_rd_stk σ.2.2.1 st1, σ.2.2.2.1, σ.2.2.2.2.1, σ.2.2.2.2.2), _, f8, g_of f9, rfl, rfl, JJ_st h hw h1 st1⟩
  · have f8 : f_X8_itemValue σ (q 1) (q 2) = some (.inl ("java/lang/IndexOutOfBoundsException", σ)) := by
      rw [e]
      unfold f_X8_itemValue
      rw [chk_I hw h1 hR hc, e1, X1_l]
    have f9 : f_X9_itemValue (md_thrown ρ) (md_now ρ) (md_rows ρ) (md_pile ρ) (q 1) (q 2) = some ((0 : _), 1, md_pile ρ) := by
      rw [e, h2]
      unfold f_X9_itemValue
      rw [is_I hw hR hc e2 (Or.inl rfl), if_pos rfl, zB1_s, if_pos rfl]
    exact Or.inr ⟨_, σ, _, f8, g_of f9, rfl, JJ_up h⟩
  · have f8 : f_X8_itemValue σ (q 1) (q 2) = some (.inl ("java/lang/IndexOutOfBoundsException", σ)) := by
      skip
      unfold f_X8_itemValue
      rw [chk_I0 hw h1 hR e1, X1_l]
    have f9 : f_X9_itemValue (md_thrown ρ) (md_now ρ) (md_rows ρ) (md_pile ρ) (q 1) (q 2) = some ((0 : _), 1, md_pile ρ) := by
      rw [h2]
      unfold f_X9_itemValue
      rw [is_I0 hw hR e2, zB1_s, if_pos rfl]
    exact Or.inr ⟨_, σ, _, f8, g_of f9, rfl, JJ_up h⟩
theorem rng_d (p : Int32) (lo hi : Int32) : (f_X8_checkRange p lo hi = some (.inr ()) ∧ f_X9_isIn p.toInt64 lo.toInt64 hi.toInt64 = some 1 ∧ lo.toInt ≤ p.toInt ∧ p.toInt ≤ hi.toInt) ∨ (f_X8_checkRange p lo hi = some (.inl "java/lang/IllegalArgumentException") ∧ f_X9_isIn p.toInt64 lo.toInt64 hi.toInt64 = some 0) := by
  unfold f_X8_checkRange f_X9_isIn
  simp only [L_lt]
  by_cases h1 : p < lo
  · right
    rw [if_pos h1, if_pos h1]
    exact ⟨rfl, rfl⟩
  · rw [if_neg h1, if_neg h1]
    by_cases h2 : p ≤ hi
    · left
      rw [if_pos h2, if_neg (I_nlt.mpr h2)]
      exact ⟨rfl, rfl, Int32.le_iff_toInt_le.mp (I_nlt.mp h1), Int32.le_iff_toInt_le.mp h2⟩
    · right
      rw [if_neg h2, if_pos (I_nle.mp h2)]
      exact ⟨rfl, rfl⟩
theorem lq_34 (h : lw_J ok t σ ρ) : lw_LS (lw_J ok (t + 1)) (lw_JL ok (t + 1)) σ ρ q 34 := by
  obtain ⟨w, hw, h1, h2, hR⟩ := JJ_use h
  have h12 := hR.2.2.2.2.2.2.1.2.1
  have k1 := chk_L hw h1 hR (q 1)
  rcases idx_d (q 1) (n := nli (σ.2.2.2.2.2 w)) (by omega) with ⟨c, hc, e⟩ | ⟨e1, e2⟩
  · obtain ⟨i1, i2⟩ := idx_ok hc (by omega)
    rw [e, i1] at k1
    have k2 := is_L (t := md_thrown ρ) hw hR i2 (Or.inr rfl)
    rw [if_neg one_ne] at k2
    rcases rng_d (q 2) 0 99999999 with ⟨r1, r2, r3, r4⟩ | ⟨r1, r2⟩
    · obtain ⟨R, hR3, hRk⟩ := rank_bd hR hc
      have z0 : (0 : Int32).toInt = 0 := rfl
      have zq : (q 2).toInt64.toInt = (q 2).toInt := Int32.toInt_toInt64 _
      have f8 : f_X8_share σ (q 1) (q 2) = some (.inr (vShare (σ.2.2.2.2.2 w) c (q 2).toInt64 0 R)) := by
        rw [e]
        unfold f_X8_share
        rw [k1, X1_r, r1, X1_r, zG1_t (gd_w h1 hw), nw_w h1 hw]
        unfold f_X5_shareOf
        have hfu := FU_k
        generalize FU = fu at hfu ⊢
        rw [jI_0, k_shareOf_lo hw hR hc hRk hR3 R 0 fu _ (by omega) (by omega) (by omega), zB1_s]
      have f9 : f_X9_share (md_thrown ρ) (md_now ρ) (md_rows ρ) (q 1) (q 2) = some (vShare (σ.2.2.2.2.2 w) c (q 2).toInt64 0 R, 0) := by
        rw [e, h2]
        unfold f_X9_share
        rw [k2, zB1_s, if_neg one_ne, show (0 : Int64) = (0 : Int32).toInt64 from rfl, show (99999999 : Int64) = (99999999 : Int32).toInt64 from rfl, r2, zB1_s, right_t, zB1_s, if_neg one_ne]
        have hfu := FU_k
        generalize FU = fu at hfu ⊢
        exact r_share_lo hw hR hc hRk hR3 0 R 0 fu _ (by omega) (by omega) (by omega)
      exact Or.inl ⟨_, _, _, f8, g_of f9, rfl, rfl, JJ_up h⟩
    · have f8 : f_X8_share σ (q 1) (q 2) = some (.inl "java/lang/IllegalArgumentException") := by
        rw [e]
        unfold f_X8_share
        rw [k1, X1_r, r1, X1_l]
      have f9 : f_X9_share (md_thrown ρ) (md_now ρ) (md_rows ρ) (q 1) (q 2) = some (0, 2) := by
        rw [e, h2]
        unfold f_X9_share
        rw [k2, zB1_s, if_neg one_ne, show (0 : Int64) = (0 : Int32).toInt64 from rfl, show (99999999 : Int64) = (99999999 : Int32).toInt64 from rfl, r2, zB1_s, right_f2, zB1_s, if_pos rfl]
      exact Or.inr (Or.inr ⟨_, _, f8, g_of f9, rfl, JJ_up h⟩)
  · rw [e1] at k1
    have k2 := is_L (t := md_thrown ρ) hw hR e2 (Or.inl rfl)
    rw [if_pos rfl] at k2
    have f8 : f_X8_share σ (q 1) (q 2) = some (.inl "java/lang/IndexOutOfBoundsException") := by
      unfold f_X8_share
      rw [k1, X1_l]
    have f9 : f_X9_share (md_thrown ρ) (md_now ρ) (md_rows ρ) (q 1) (q 2) = some (0, 1) := by
      rw [h2]
      unfold f_X9_share
      rw [k2, zB1_s, if_pos rfl]
    exact Or.inr (Or.inl ⟨_, _, f8, g_of f9, rfl, JJ_up h⟩)
end QRY
