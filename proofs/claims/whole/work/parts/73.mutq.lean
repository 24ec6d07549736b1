/-! layer 3: the changing calls -/
theorem va_same {α : Type} (f : Nat → α) (i : Nat) (x : α) : va_up f i x i = x := by simp [va_up]
theorem st_1 : f_X8_checkState (1 : Int32) = some (.inr ()) := rfl
theorem st_0 : f_X8_checkState (0 : Int32) = some (.inl "java/lang/IllegalStateException") := rfl
theorem begin2 {t : Nat} {σ : LgT} {ρ : MdT} {w : Nat} (hw : w < 9) (h1 : σ.1 = jI w) (h2 : md_now ρ = jI w) (hR : Rl (Bt t) (σ.2.2.2.2.2 w) (zrow w (md_rows ρ))) : ∃ (P' : PrT) (rows1 : Nat → Int64), f_X8_beginChange σ = some (jI ((w + 1) % 9), (if (8 : Int32) < σ.2.1 + (1 : Int32) then (8 : Int32) else σ.2.1 + (1 : Int32)), σ.2.2.1, σ.2.2.2.1, σ.2.2.2.2.1, va_up σ.2.2.2.2.2 ((w + 1) % 9) P') ∧ f_X9_change (jI w) (md_undoable ρ) (md_rows ρ) = some (jI ((w + 1) % 9), (if (8 : Int32) ≤ md_undoable ρ then md_undoable ρ else md_undoable ρ + (1 : Int32)), rows1) ∧ Rl (Bt t) P' (zrow ((w + 1) % 9) rows1) ∧ Ag P' (σ.2.2.2.2.2 w) ∧ (∀ q, q < 2500 → zrow ((w + 1) % 9) rows1 q = zrow w (md_rows ρ) q) ∧ ∀ i, i ≠ (w + 1) % 9 → ∀ q, q < 2500 → zrow i rows1 q = zrow i (md_rows ρ) q := by
  obtain ⟨P', e1, hA⟩ := k_begin hw h1 hR
  obtain ⟨rows1, e2, r1, r2⟩ := r_change hw (md_undoable ρ) (md_rows ρ)
  exact ⟨P', rows1, e1, e2, Rl_ag hA (Rl_c r1 hR), hA, r1, r2⟩
theorem fin2 {ok : PgT → Prop} {t : Nat} {σ : LgT} {ρ : MdT} {w : Nat} (hw : w < 9) (h1 : σ.1 = jI w) (h : lw_J ok t σ ρ) {P' P'' : PrT} {rows1 rows2 : Nat → Int64} (hz' : ∀ i, i ≠ (w + 1) % 9 → ∀ q, q < 2500 → zrow i rows1 q = zrow i (md_rows ρ) q) (hr : ∀ i, i ≠ (w + 1) % 9 → ∀ q, q < 2500 → zrow i rows2 q = zrow i rows1 q) (hN : Rl (Bt (t + 1)) P'' (zrow ((w + 1) % 9) rows2)) (hA : Ag P' (σ.2.2.2.2.2 w) := by assumption) (hT : pgT P'' = pgT P' := by rfl) : JJ ok (t + 1) (jI ((w + 1) % 9)) (if (8 : Int32) < σ.2.1 + (1 : Int32) then (8 : Int32) else σ.2.1 + (1 : Int32)) σ.2.2.1 (va_up (va_up σ.2.2.2.2.2 ((w + 1) % 9) P') ((w + 1) % 9) P'') (jI ((w + 1) % 9)) (if (8 : Int32) ≤ md_undoable ρ then md_undoable ρ else md_undoable ρ + (1 : Int32)) rows2 (md_bytes ρ) (md_errorAt ρ) (md_text ρ) :=
  JJ_new hw h1 h (fun i hi => by simp [va_up, hi]) (fun i hi q hq => (hr i hi q hq).trans (hz' i hi q hq)) (by rw [va_same]; exact hN) (by rw [va_same]; exact hT.trans hA.2.2.1)
theorem put_o {w k : Nat} {v : Int64} {rows1 : Nat → Int64} (hk : k < 2500) : ∀ i, i ≠ w → ∀ q, q < 2500 → zrow i (vp_updL rows1 (2500 * w + k) v) q = zrow i rows1 q := fun i hi q hq => by
  rw [zrow_put2 hk hq, if_neg (fun z => hi z.1)]
theorem lo_E2 {F : Nat → Int32 → Option Int32} {n : Nat} {p : Nat → Bool} (h1 : ∀ z, F (z + 1) (jI n) = some 1) (h2 : ∀ z k, k < n → F (z + 1) (jI k) = if p k = true then some 0 else F z (jI (k + 1))) : ∀ (m k z : Nat), k + m = n → m < z → F z (jI k) = some (if sE p k m = true then 0 else 1)
  | 0, k, 0, hk, hz => absurd hz (by omega)
  | m + 1, k, 0, hk, hz => absurd hz (by omega)
  | 0, k, z + 1, hk, hz => by
    have e : k = n := by omega
    subst e
    rw [h1]
    rfl
  | m + 1, k, z + 1, hk, hz => by
    rw [h2 z k (by omega), lo_E2 h1 h2 m (k + 1) z (by omega) (by omega), sE_s]
    cases p k <;> simp
def v_open1 (P : PrT) (c : Nat) : Bool := sE (fun i => decide (¬ (100 : Int32) ≤ pj_it_progress P (c * 6 + i))) 0 (nit P c)
section DONE
variable {B : Int} {P : PrT} {b : Nat} {rows : Nat → Int64} {c : Nat}
theorem k_areComplete (hR : Rl B P (zrow b rows)) (hc : c < nco P) : f_X2_areComplete (pj_it_count P) (pj_it_progress P) (jI c) = some (if v_open1 P c = true then 0 else 1) := by
  have h8 := hR.2.2.1.2.1
  obtain ⟨⟨hq, hn, -⟩, -⟩ := hR.2.2.2.1 c hc
  unfold f_X2_areComplete
  have hfu := FU_k
  generalize FU = fu at hfu ⊢
  refine lo_E2 (F := fun z k => f_X2_areComplete_2 z (pj_it_count P) (pj_it_progress P) (jI c) k) (n := nit P c) ?_ ?_ (nit P c) 0 fu (by omega) (by omega)
  · intro z
    simp (disch := omega) only [f_X2_areComplete_2, zR_n, hq, jI_le, Nat.le_refl, if_true]
  · intro z k hk
    have hk2 : ¬ nit P c ≤ k := by omega
    simp (disch := omega) only [f_X2_areComplete_2, zR_n, hq, jI_le, hk2, if_false, k_slotOf, zB1_s]
    rw [jI_1, jI_add]
    by_cases h : (100 : Int32) ≤ pj_it_progress P (c * 6 + k)
    · rw [if_pos h, if_neg (by simp [h])]
    · rw [if_neg h, if_pos (by simp [h])]
theorem r_isDone (hb : b < 9) (hR : Rl B P (zrow b rows)) (hc : c < nco P) : f_X9_isDone (jI b) rows (jI c) = some (if v_open1 P c = true then 0 else 1) := by
  have h8 := hR.2.2.1.2.1
  obtain ⟨⟨hq, hn, h7⟩, hI⟩ := hR.2.2.2.1 c hc
  unfold f_X9_isDone
  have hfu := FU_k
  generalize FU = fu at hfu ⊢
  refine lo_E2 (F := fun z k => f_X9_isDone_2 z (jI b) rows (jI c) k) (n := nit P c) ?_ ?_ (nit P c) 0 fu (by omega) (by omega)
  · intro z
    simp (disch := omega) only [f_X9_isDone_2, X9_at, zB1_s, jI_7, jI_add, X9_get, h7, jI_L, jL_le, Nat.le_refl, if_true]
  · intro z k hk
    have hk2 : ¬ nit P c ≤ k := by omega
    obtain ⟨-, -, ⟨e3, -⟩, -⟩ := hI k hk
    simp (disch := omega) only [f_X9_isDone_2, X9_at, X9_itemAt, zB1_s, jI_7, jI_2, jI_add, X9_get, h7, jI_L, jL_le, hk2, if_false, e3]
    rw [jI_1, jI_add, show (100 : Int64) = (100 : Int32).toInt64 from rfl]
    simp only [L_le]
    by_cases h : (100 : Int32) ≤ pj_it_progress P (c * 6 + k)
    · rw [if_pos h, if_neg (by simp [h])]
    · rw [if_neg h, if_pos (by simp [h])]
/-- a certificate's payer and payee -/
theorem bill_f (hR : Rl B P (zrow b rows)) {k : Nat} (hk : k < nce P) : ∃ c pi, c < nco P ∧ pi ≤ c ∧ c < 8 ∧ pj_ce_contract P k = jI c ∧ pj_co_parent P c + (1 : Int32) = jI pi ∧ (9 : Int32) + pj_co_parent P c = jI (8 + pi) ∧ (pj_co_parent P c).toInt + 1 = (pi : Int) := by
  have h8 := hR.2.2.1.2.1
  obtain ⟨⟨-, c, hc, e⟩, -⟩ := hR.2.2.2.2.2.1.2.2.2 k hk
  obtain ⟨⟨-, p1, p2⟩, -⟩ := hR.2.2.1.2.2.2 c hc
  have e1 : (1 : Int32).toInt = 1 := rfl
  have e9 : (9 : Int32).toInt = 9 := rfl
  refine ⟨c, ((pj_co_parent P c).toInt + 1).toNat, hc, by omega, by omega, e, ?_, ?_, by omega⟩
  · rw [← Int32.toInt_inj, I_add (by omega) (by omega), jI_toInt (by omega)]
    omega
  · rw [← Int32.toInt_inj, I_add (by omega) (by omega), jI_toInt (by omega)]
    omega
theorem k_payerHolds (hR : Rl B P (zrow b rows)) {k : Nat} (hk : k < nce P) : ∃ c pi, c < nco P ∧ pi ≤ c ∧ c < 8 ∧ pj_ce_contract P k = jI c ∧ (pj_co_parent P c).toInt + 1 = (pi : Int) ∧ f_X5_payerHolds (pj_pr_accounts P) (pj_co_parent P) (pj_ce_contract P) (jI k) = some (pj_pr_accounts P pi) ∧ (b < 9 → f_X9_payerOf (jI b) rows (jI k) = some (jI (8 + pi))) ∧ ∀ s, f_X5_transfer (pj_pr_accounts P) (pj_co_parent P) (pj_ce_contract P) (pj_ce_open P) (jI k) s = some (vp_updL (vp_updL (pj_pr_accounts P) pi (pj_pr_accounts P pi - s)) (c + 1) (pj_pr_accounts P (c + 1) + s), vp_updL (pj_ce_open P) k (pj_ce_open P k - s)) := by
  have h40 := hR.2.2.2.2.2.1.2.1
  obtain ⟨c, pi, hc, hpi, h8, e1, e2, e3, e4⟩ := bill_f hR hk
  obtain ⟨⟨b1, -⟩, -⟩ := hR.2.2.2.2.2.1.2.2.2 k hk
  obtain ⟨⟨p1, -⟩, -⟩ := hR.2.2.1.2.2.2 c hc
  refine ⟨c, pi, hc, hpi, h8, e1, e4, ?_, fun hb => ?_, fun s => ?_⟩
  · unfold f_X5_payerHolds
    rw [zR_n (by omega) (by omega), e1, zR_n (by omega) (by omega), e2, zR_n (by omega) (by omega)]
  · unfold f_X9_payerOf
    rw [X9_bill, zB1_s, X9_small hb (by omega), zB1_s, b1, Int32.toInt32_toInt64, e1, X9_at, zB1_s, Int32.add_zero, X9_small hb (by omega), zB1_s, p1, Int32.toInt32_toInt64, e3]
  · unfold f_X5_transfer
    rw [zR_n (by omega) (by omega), e1, zR_n (by omega) (by omega), e2, zR_n (by omega) (by omega), zSl_n (by omega) (by omega), jI_1, jI_add, zR_n (by omega) (by omega), zSl_n (by omega) (by omega), zR_n (by omega) (by omega), zSl_n (by omega) (by omega), updL_ne (by omega)]
theorem r_pays (hb : b < 9) (hR : Rl B P (zrow b rows)) {k c pi : Nat} (hk : k < nce P) (hc : pj_ce_contract P k = jI c) (h8 : c < 8) (hpi : pi ≤ c) (hp : f_X9_payerOf (jI b) rows (jI k) = some (jI (8 + pi))) (s : Int64) : ∃ rows', f_X9_pays (jI b) rows (jI k) s = some rows' ∧ zrow b rows' = vp_updL (vp_updL (vp_updL (zrow b rows) (8 + pi) (pj_pr_accounts P pi - s)) (8 + (c + 1)) (pj_pr_accounts P (c + 1) + s)) (320 + 5 * k + 2) (zrow b rows (320 + 5 * k + 2) + s) ∧ ∀ i, i ≠ b → ∀ q, q < 2500 → zrow i rows' q = zrow i rows q := by
  have h40 := hR.2.2.2.2.2.1.2.1
  obtain ⟨⟨b1, -⟩, -⟩ := hR.2.2.2.2.2.1.2.2.2 k hk
  have a1 := (hR.2.2.2.2.2.2.2.1.1 pi (by omega)).1
  have a2 := (hR.2.2.2.2.2.2.2.1.1 (c + 1) (by omega)).1
  have e9 : 9 + c = 8 + (c + 1) := by omega
  unfold f_X9_pays
  rw [hp, zB1_s, X9_bill, zB1_s, X9_small hb (by omega), zB1_s, b1, Int32.toInt32_toInt64, hc, X9_get hb (by omega), zB1_s, X9_put hb (by omega), zB1_s, jI_9, jI_add, e9, X9_get hb (by omega), zB1_s, X9_put hb (by omega), zB1_s, zB1_s, zB1_s, jI_2, jI_add, X9_get hb (by omega), zB1_s, X9_put hb (by omega), zB1_s]
  refine ⟨_, rfl, ?_, fun i hi q hq => ?_⟩
  · rw [zrow_put, zrow_put, zrow_put, a1, updL_ne (by omega), a2, updL_ne (by omega), updL_ne (by omega)]
  · rw [put_o (by omega) i hi q hq, put_o (by omega) i hi q hq, put_o (by omega) i hi q hq]
end DONE
section MUTQ
variable {ok : PgT → Prop} {t : Nat} {σ : LgT} {ρ : MdT} {q : Nat → Int32}
theorem lq_35 (h : lw_J ok t σ ρ) : lw_LS (lw_J ok (t + 1)) (lw_JL ok (t + 1)) σ ρ q 35 := by
  obtain ⟨w, hw, h1, h2, hR⟩ := JJ_use h
  have h8 := hR.2.2.1.2.1
  rcases idx_d (q 1) (n := nco (σ.2.2.2.2.2 w)) (by omega) with ⟨c, hc, e⟩ | ⟨e1, e2⟩
  have h6 := (hR.2.2.2.1 c hc).1.2.1
  rcases idx_d (q 2) (n := nit (σ.2.2.2.2.2 w) c) (by omega) with ⟨i, hi, ei⟩ | ⟨e1, e2⟩
  · obtain ⟨i1, i2⟩ := idx_ok hi (by omega)
    rcases rng_d (q 3) 0 100 with ⟨r1, r2, r3, r4⟩ | ⟨r1, r2⟩
    · obtain ⟨P', rows1, hb, hch, hR1, hA, hz, hz'⟩ := begin2 hw h1 h2 hR
      have hw1 : (w + 1) % 9 < 9 := by omega
      have hc' : c < nco P' := by
        have : nco P' = nco (σ.2.2.2.2.2 w) := by unfold nco; rw [hA.2.1.1]
        omega
      have hi' : i < nit P' c := by
        have : nit P' c = nit (σ.2.2.2.2.2 w) c := by unfold nit; rw [hA.2.2.2.1.1 c (by omega)]
        omega
      obtain ⟨-, -, ⟨b3, -⟩, -⟩ := (hR.2.2.2.1 c hc).2 i hi
      have hp := (hA.2.2.2.1.2 (c * 6 + i) (by omega)).2.2.2
      have f8 : f_X8_measure σ (q 1) (q 2) (q 3) = some (.inr (pj_it_progress (σ.2.2.2.2.2 w) (c * 6 + i), (jI ((w + 1) % 9), (if (8 : Int32) < σ.2.1 + (1 : Int32) then (8 : Int32) else σ.2.1 + (1 : Int32)), σ.2.2.1, σ.2.2.2.1, σ.2.2.2.2.1, va_up (va_up σ.2.2.2.2.2 ((w + 1) % 9) P') ((w + 1) % 9) (ps_it_progress P' (upd (pj_it_progress P') (c * 6 + i) (q 3)))))) := by
        rw [e, ei]
        unfold f_X8_measure
        rw [chk_I hw h1 hR hc, i1, X1_r, r1, X1_r, k_slotOf, zB1_s, hb, zB1_s]
        dsimp only
        rw [zG1_t (jI_in hw1 (by omega)), jI_nat (by omega), va_same, zR_n (by omega) (by omega), zSi_n (by omega) (by omega), hp]
      have f9 : f_X9_measure (md_thrown ρ) (md_now ρ) (md_undoable ρ) (md_rows ρ) (q 1) (q 2) (q 3) = some (pj_it_progress (σ.2.2.2.2.2 w) (c * 6 + i), 0, jI ((w + 1) % 9), (if (8 : Int32) ≤ md_undoable ρ then md_undoable ρ else md_undoable ρ + (1 : Int32)), vp_updL rows1 (2500 * ((w + 1) % 9) + (20 + 26 * c + 8 + 3 * i + 2)) (q 3).toInt64) := by
        rw [e, ei, h2]
        unfold f_X9_measure
        rw [is_I hw hR hc i2 (Or.inr rfl), if_neg one_ne, zB1_s, if_neg one_ne, show (0 : Int64) = (0 : Int32).toInt64 from rfl, show (100 : Int64) = (100 : Int32).toInt64 from rfl, r2, zB1_s, right_t, zB1_s, if_neg one_ne, X9_itemAt, zB1_s, jI_2, jI_add, X9_small hw (by omega), zB1_s, hch, zB1_s, zB1_s]
        dsimp only
        rw [jI_add, X9_put hw1 (by omega), zB1_s, b3, Int32.toInt32_toInt64]
      exact Or.inl ⟨_, _, _, _, f8, g_of f9, rfl, rfl, fin2 hw h1 h hz' (put_o (by omega)) (by rw [zrow_put]; exact Rl_mono (Bt_le t) (Rl_measure hR1 hc' hi' r3 r4))⟩
    · have f8 : f_X8_measure σ (q 1) (q 2) (q 3) = some (.inl ("java/lang/IllegalArgumentException", σ)) := by
        rw [e, ei]
        unfold f_X8_measure
        rw [chk_I hw h1 hR hc, i1, X1_r, r1, X1_l]
      have f9 : f_X9_measure (md_thrown ρ) (md_now ρ) (md_undoable ρ) (md_rows ρ) (q 1) (q 2) (q 3) = some (0, 2, jI w, md_undoable ρ, md_rows ρ) := by
        rw [e, ei, h2]
        unfold f_X9_measure
        rw [is_I hw hR hc i2 (Or.inr rfl), if_neg one_ne, zB1_s, if_neg one_ne, show (0 : Int64) = (0 : Int32).toInt64 from rfl, show (100 : Int64) = (100 : Int32).toInt64 from rfl, r2, zB1_s, right_f2, zB1_s, if_pos rfl]
      exact Or.inr (Or.inr ⟨_, _, _, f8, g_of f9, rfl, by have hJ := JJ_up h; rw [h2] at hJ; exact hJ⟩)
  · have f8 : f_X8_measure σ (q 1) (q 2) (q 3) = some (.inl ("java/lang/IndexOutOfBoundsException", σ)) := by
      rw [e]
      unfold f_X8_measure
      rw [chk_I hw h1 hR hc, e1, X1_l]
    have f9 : f_X9_measure (md_thrown ρ) (md_now ρ) (md_undoable ρ) (md_rows ρ) (q 1) (q 2) (q 3) = some (0, 1, jI w, md_undoable ρ, md_rows ρ) := by
      rw [e, h2]
      unfold f_X9_measure
      rw [is_I hw hR hc e2 (Or.inl rfl), if_pos rfl, zB1_s, if_pos rfl]
    exact Or.inr (Or.inl ⟨_, _, _, f8, g_of f9, rfl, by have hJ := JJ_up h; rw [h2] at hJ; exact hJ⟩)
  · have f8 : f_X8_measure σ (q 1) (q 2) (q 3) = some (.inl ("java/lang/IndexOutOfBoundsException", σ)) := by
      unfold f_X8_measure
      rw [chk_I0 hw h1 hR e1, X1_l]
    have f9 : f_X9_measure (md_thrown ρ) (md_now ρ) (md_undoable ρ) (md_rows ρ) (q 1) (q 2) (q 3) = some (0, 1, jI w, md_undoable ρ, md_rows ρ) := by
      rw [h2]
      unfold f_X9_measure
      rw [is_I0 hw hR e2, zB1_s, if_pos rfl]
    exact Or.inr (Or.inl ⟨_, _, _, f8, g_of f9, rfl, by have hJ := JJ_up h; rw [h2] at hJ; exact hJ⟩)
theorem lq_46 (h : lw_J ok t σ ρ) : lw_LS (lw_J ok (t + 1)) (lw_JL ok (t + 1)) σ ρ q 46 := by
  obtain ⟨w, d, f, hw, hd, h1, h2, h3, h4, h5, h6⟩ := id h
  have c9 : ∀ w, w < 9 → ((jI w + (9 : Int32)) - (1 : Int32)) - ((jI w + (9 : Int32)) - (1 : Int32)) / (9 : Int32) * (9 : Int32) = jI ((w + 8) % 9) := by
    intro w hw
    have : w = 0 ∨ w = 1 ∨ w = 2 ∨ w = 3 ∨ w = 4 ∨ w = 5 ∨ w = 6 ∨ w = 7 ∨ w = 8 := by omega
    rcases this with h | h | h | h | h | h | h | h | h <;> subst h <;> decide
  by_cases h0 : d = 0
  · subst h0
    have f8 : f_X8_undo σ = some ((-1 : Int32), σ) := by
      unfold f_X8_undo
      rw [h3, if_pos (by decide)]
    have f9 : f_X9_undo (md_thrown ρ) (md_now ρ) (md_undoable ρ) = some ((-1 : Int32), 0, md_now ρ, md_undoable ρ) := by
      unfold f_X9_undo
      rw [h4, if_pos (by decide)]
    exact ⟨_, _, _, f8, g_of f9, JJ_up h⟩
  · have e0 : ¬ jI d = 0 := fun z => h0 ((jI_eq (a := d) (b := 0) (by omega) (by omega)).mp z)
    have f9 : f_X9_undo (md_thrown ρ) (md_now ρ) (md_undoable ρ) = some (jI (d - 1), 0, jI ((w + 8) % 9), jI (d - 1)) := by
      unfold f_X9_undo
      rw [h2, h4, if_neg e0, c9 w hw, jI_s1 (by omega)]
    have f8 : f_X8_undo σ = some (jI (d - 1), (jI ((w + 8) % 9), jI (d - 1), σ.2.2.1, σ.2.2.2.1, σ.2.2.2.2.1, σ.2.2.2.2.2)) := by
      unfold f_X8_undo
      rw [h1, h3, if_neg e0, jI_s1 (by omega)]
      by_cases hw0 : w = 0
      · subst hw0
        rw [if_pos (by decide)]
        rfl
      · have e1 : ¬ jI w = 0 := fun z => hw0 ((jI_eq (a := w) (b := 0) (by omega) (by omega)).mp z)
        rw [if_neg e1, jI_s1 (by omega), show (w + 8) % 9 = w - 1 by omega]
    refine ⟨_, _, _, f8, g_of f9, (w + 8) % 9, d - 1, f, by omega, by omega, rfl, rfl, rfl, rfl, fun j hj => ?_, h6⟩
    have := h5 (j + 1) (by omega)
    rw [show (w + 9 - (j + 1)) % 9 = ((w + 8) % 9 + 9 - j) % 9 by omega] at this
    exact ⟨Rl_mono (Bt_le t) this.1, this.2⟩
end MUTQ
