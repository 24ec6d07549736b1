/-! layer 3: retention, margin, worth, checksum -/
def fF (h : Nat → Int64 → Int64) : Nat → Nat → Int64 → Int64
  | _, 0, a => a
  | k, m + 1, a => fF h (k + 1) m (h k a)
theorem fF_s (h : Nat → Int64 → Int64) (k m : Nat) (a : Int64) : fF h k (m + 1) a = fF h (k + 1) m (h k a) := rfl
theorem lo_F {α σ : Type} {F : Nat → σ → Int64 → Int32 → Option α} {n : Nat} {h : Nat → Int64 → Int64} {post : σ → Int64 → Option α} (h1 : ∀ z s acc, F (z + 1) s acc (jI n) = post s acc) (h2 : ∀ z s acc k, k < n → ∃ s', F (z + 1) s acc (jI k) = F z s' (h k acc) (jI (k + 1))) : ∀ (m k z : Nat) (s : σ) (acc : Int64), k + m = n → m < z → ∃ s', F z s acc (jI k) = post s' (fF h k m acc)
  | 0, k, 0, s, acc, hk, hz => absurd hz (by omega)
  | m + 1, k, 0, s, acc, hk, hz => absurd hz (by omega)
  | 0, k, z + 1, s, acc, hk, hz => by
    have e : k = n := by omega
    subst e
    exact ⟨s, h1 z s acc⟩
  | m + 1, k, z + 1, s, acc, hk, hz => by
    obtain ⟨s', e⟩ := h2 z s acc k (by omega)
    obtain ⟨s'', e'⟩ := lo_F h1 h2 m (k + 1) z s' (h k acc) (by omega) (by omega)
    exact ⟨s'', by rw [e, e', fF_s]⟩
theorem r_zero_F {α σ : Type} {F : Nat → σ → Int64 → Int32 → Option α} {n : Nat} {h : Nat → Int64 → Int64} {post : σ → Int64 → Option α} {fu : Nat} (s : σ) (a : Int64) (hfu : 1000 < fu) (hn : n < 1000) (h1 : ∀ z s acc, F (z + 1) s acc (jI n) = post s acc) (h2 : ∀ z s acc k, k < n → ∃ s', F (z + 1) s acc (jI k) = F z s' (h k acc) (jI (k + 1))) : ∃ s', F fu s a 0 = post s' (fF h 0 n a) := lo_F h1 h2 n 0 fu s a (by omega) (by omega)
section MORE
variable {B : Int} {P : PrT} {b : Nat} {rows : Nat → Int64} {c : Nat}
def vHeld (P : PrT) (c : Nat) : Int64 := if pj_co_stage P c = 0 then (if vFirst P c * (pj_co_limitPercent P c).toInt64 / (100 : Int64) < vGross P c * (pj_co_retentionPercent P c).toInt64 / (100 : Int64) then vFirst P c * (pj_co_limitPercent P c).toInt64 / (100 : Int64) else vGross P c * (pj_co_retentionPercent P c).toInt64 / (100 : Int64)) else if pj_co_stage P c = 1 then (if vFirst P c * (pj_co_limitPercent P c).toInt64 / (100 : Int64) < vGross P c * (pj_co_retentionPercent P c).toInt64 / (100 : Int64) then vFirst P c * (pj_co_limitPercent P c).toInt64 / (100 : Int64) else vGross P c * (pj_co_retentionPercent P c).toInt64 / (100 : Int64)) / (2 : Int64) else 0
theorem k_retentionOf (hR : Rl B P (zrow b rows)) (hc : c < nco P) : f_X5_retentionOf (pj_co_retentionPercent P) (pj_co_limitPercent P) (pj_co_stage P) (pj_it_count P) (pj_it_first P) (pj_it_price P) (jI c) (vGross P c) = some (vHeld P c) := by
  have h8 := hR.2.2.1.2.1
  unfold f_X5_retentionOf vHeld
  rw [zR_n (by omega) (by omega), k_firstSumOf hR hc, zB1_s, zR_n (by omega) (by omega), zR_n (by omega) (by omega)]
  split
  · rfl
  · split <;> rfl
theorem r_heldOf (hb : b < 9) (hR : Rl B P (zrow b rows)) (hc : c < nco P) (pl : Nat → Int64) : ∃ pl', f_X9_heldOf (jI b) rows pl (jI c) = some (vHeld P c, pl') := by
  have h8 := hR.2.2.1.2.1
  obtain ⟨-, ⟨e1, -⟩, ⟨e2, -⟩, -, -, -, ⟨e6, -⟩⟩ := hR.2.2.1.2.2.2 c hc
  obtain ⟨pl', e⟩ := r_grossOf hb hR hc pl
  refine ⟨pl', ?_⟩
  unfold f_X9_heldOf vHeld
  simp (disch := omega) only [e, zB1_s, X9_at, jI_add, jI_1, jI_2, jI_6, X9_get, e1, e2, e6, r_firstOf hb hR hc, L_z, L_1]
  split
  · rfl
  · split <;> rfl
def vMarg (P : PrT) (c : Nat) : Int64 := fF (fun k a => if pj_co_parent P k = jI c then a - vPres P k else a) 0 (nco P) (vPres P c)
theorem k_marginOf (hR : Rl B P (zrow b rows)) (hc : c < nco P) (st : Nat → Int32) : ∃ st', f_X5_marginOf (pj_co_count P) (pj_co_parent P) (pj_pg_threshold P) (pj_pg_length P) (pj_pg_clen P) (pj_pg_code P) st (pj_it_count P) (pj_it_first P) (pj_it_price P) (pj_it_quantity P) (jI c) = some (vMarg P c, st') := by
  obtain ⟨hq, h8, -, -⟩ := hR.2.2.1
  obtain ⟨st1, e⟩ := k_presentSumOf hR hc st
  unfold f_X5_marginOf
  have hfu := FU_k
  generalize FU = fu at hfu ⊢
  rw [e, zB1_s]
  refine r_zero_F (F := fun z s acc k => f_X5_marginOf_9 z (pj_co_count P) (pj_co_parent P) (pj_pg_threshold P) (pj_pg_length P) (pj_pg_clen P) (pj_pg_code P) s (pj_it_count P) (pj_it_first P) (pj_it_price P) (pj_it_quantity P) (jI c) acc k) (n := nco P) (h := fun k a => if pj_co_parent P k = jI c then a - vPres P k else a) (post := fun s a => some (a, s)) st1 (vPres P c) hfu (by omega) ?_ ?_
  · intro z s acc
    simp (disch := omega) only [f_X5_marginOf_9, hq, jI_le, Nat.le_refl, if_true]
  · intro z s acc k hk
    have hk2 : ¬ nco P ≤ k := by omega
    obtain ⟨s', e⟩ := k_presentSumOf hR hk s
    simp (disch := omega) only [f_X5_marginOf_9, hq, jI_le, hk2, if_false, zR_n, e, zB1_s, jI_1, jI_add]
    by_cases h : pj_co_parent P k = jI c
    · exact ⟨s', by rw [if_pos h, if_pos h]⟩
    · exact ⟨s, by rw [if_neg h, if_neg h]⟩
theorem r_margin_lo (hb : b < 9) (hR : Rl B P (zrow b rows)) (hc : c < nco P) (t : Int32) (pl : Nat → Int64) : ∃ pl', f_X9_margin_19 FU t (jI b) rows pl (jI c) (vPres P c) (0 : Int32) = some (vMarg P c, t, pl') := by
  obtain ⟨-, h8, h0, hC⟩ := hR.2.2.1
  have hfu := FU_k
  generalize FU = fu at hfu ⊢
  refine r_zero_F (F := fun z s acc k => f_X9_margin_19 z t (jI b) rows s (jI c) acc k) (n := nco P) (h := fun k a => if pj_co_parent P k = jI c then a - vPres P k else a) (post := fun s a => some (a, t, s)) pl (vPres P c) hfu (by omega) ?_ ?_
  · intro z s acc
    simp (disch := omega) only [f_X9_margin_19, jI_0, X9_get, zB1_s, h0, jI_L, jL_le, Nat.le_refl, if_true]
  · intro z s acc k hk
    have hk2 : ¬ nco P ≤ k := by omega
    obtain ⟨s', e⟩ := r_presentOf hb hR hk s
    obtain ⟨⟨e1, -⟩, -⟩ := hC k hk
    have e0 : f_X9_get (jI b) rows (jI 0) = some (jL (nco P)) := by rw [X9_get hb (by omega), h0]
    have e3 : ∀ y : Int32, (jL k).toInt32 = y → True := fun _ _ => trivial
    have ec : jL c = (jI c).toInt64 := jL_c (by omega)
    simp (disch := omega) only [f_X9_margin_19, jI_0, e0, zB1_s, jI_L, jL_le, hk2, if_false, X9_at, jI_add, Nat.add_zero, X9_get, e1]
    rw [ec]
    simp only [L_eq]
    by_cases h : pj_co_parent P k = jI c
    · exact ⟨s', by rw [if_pos h, if_pos h, e, zB1_s, jI_1, jI_add]⟩
    · exact ⟨s, by rw [if_neg h, if_neg h, Int64.sub_zero, jI_1, jI_add]⟩
/-! variations -/
def vs (P : PrT) (v : Nat) : Nat := (pj_va_slot P v).toNatClampNeg
def vQW (P : PrT) (v : Nat) : Int32 := pj_it_quantity P (vs P v) + pj_va_change P v
theorem va_f (hR : Rl B P (zrow b rows)) {v : Nat} (hv : v < nva P) : ∃ c i, c < nco P ∧ i < nit P c ∧ vs P v = c * 6 + i ∧ pj_va_slot P v = jI (c * 6 + i) ∧ zrow b rows (230 + 4 * v) = jL c ∧ zrow b rows (230 + 4 * v + 1) = jL i ∧ c < 8 ∧ i < 6 := by
  have h8 := hR.2.2.1.2.1
  obtain ⟨⟨c, i, hc, hi, e1, e2, e3⟩, -⟩ := hR.2.2.2.2.1.2.2.2 v hv
  have h6 := (hR.2.2.2.1 c hc).1.2.1
  exact ⟨c, i, hc, hi, by unfold vs; rw [e1, jI_nat (by omega)], e1, e2, e3, by omega, by omega⟩
theorem qw_bd (hR : Rl B P (zrow b rows)) {v : Nat} (hv : v < nva P) : (vQW P v).toInt64 = (pj_it_quantity P (vs P v)).toInt64 + (pj_va_change P v).toInt64 ∧ (vQW P v).toInt = (pj_it_quantity P (vs P v)).toInt + (pj_va_change P v).toInt ∧ (vQW P v).toInt ≤ 31000 ∧ 0 ≤ (pj_it_quantity P (vs P v)).toInt ∧ (pj_it_quantity P (vs P v)).toInt ≤ 30000 := by
  obtain ⟨c, i, hc, hi, e0, -⟩ := va_f hR hv
  obtain ⟨-, ⟨-, c1, c2⟩, -⟩ := hR.2.2.2.2.1.2.2.2 v hv
  obtain ⟨q1, q2⟩ := qty_bd hR hc hi
  rw [← e0] at q1 q2
  unfold vQW
  refine ⟨C_add (by omega) (by omega), I_add (by omega) (by omega), ?_, q1, q2⟩
  rw [I_add (by omega) (by omega)]
  omega
theorem k_quantityWith (hR : Rl B P (zrow b rows)) {v : Nat} (hv : v < nva P) : f_X5_quantityWith (pj_it_quantity P) (pj_va_slot P) (pj_va_change P) (jI v) = some (vQW P v) := by
  have h20 := hR.2.2.2.2.1.2.1
  obtain ⟨c, i, hc, hi, e0, e1, -, -, c8, i6⟩ := va_f hR hv
  unfold f_X5_quantityWith vQW
  rw [zR_n (by omega) (by omega), e1, zR_n (by omega) (by omega), zR_n (by omega) (by omega), e0]
theorem r_quantityBy (hb : b < 9) (hR : Rl B P (zrow b rows)) {v : Nat} (hv : v < nva P) : f_X9_quantityBy (jI b) rows (jI v) = some (vQW P v).toInt64 := by
  have h20 := hR.2.2.2.2.1.2.1
  obtain ⟨c, i, hc, hi, e0, e1, e2, e3, c8, i6⟩ := va_f hR hv
  obtain ⟨-, ⟨e4, -⟩, -⟩ := hR.2.2.2.2.1.2.2.2 v hv
  unfold f_X9_quantityBy
  simp (disch := omega) only [jI_230, jI_4, jI_1, jI_2, jI_mul, jI_add, X9_small, X9_get, zB1_s, e2, e3, jL_I, e4, r_quantityOf hb hR hc hi]
  rw [(qw_bd hR hv).1, e0]
def vWorth (P : PrT) (v : Nat) : Int64 := if pj_va_approved P v = 0 then (if 0 ≤ vQW P v then vFull P (vs P v) (vQW P v) - vFull P (vs P v) (pj_it_quantity P (vs P v)) else 0) else 0
theorem k_worthOf (hR : Rl B P (zrow b rows)) {v : Nat} (hv : v < nva P) (st : Nat → Int32) : ∃ st', f_X5_worthOf (pj_pg_threshold P) (pj_pg_length P) (pj_pg_clen P) (pj_pg_code P) st (pj_it_first P) (pj_it_price P) (pj_it_quantity P) (pj_va_slot P) (pj_va_change P) (pj_va_approved P) (jI v) = some (vWorth P v, st') := by
  have h20 := hR.2.2.2.2.1.2.1
  obtain ⟨c, i, hc, hi, e0, e1, -, -, c8, i6⟩ := va_f hR hv
  unfold f_X5_worthOf vWorth
  rw [zR_n (by omega) (by omega), k_quantityWith hR hv, zB1_s, zR_n (by omega) (by omega), e1, e0]
  by_cases h : pj_va_approved P v = 0
  · rw [if_pos h, if_pos h]
    by_cases h2 : 0 ≤ vQW P v
    · rw [if_pos h2, if_pos h2]
      obtain ⟨s1, g1⟩ := k_fullValueOf hR (s := c * 6 + i) (by omega) (vQW P v) st
      obtain ⟨s2, g2⟩ := k_fullValueOf hR (s := c * 6 + i) (by omega) (pj_it_quantity P (c * 6 + i)) s1
      rw [g1, zB1_s, zR_n (by omega) (by omega), g2, zB1_s]
      exact ⟨_, rfl⟩
    · rw [if_neg h2, if_neg h2]
      exact ⟨_, rfl⟩
  · rw [if_neg h, if_neg h]
    exact ⟨_, rfl⟩
/-! the checksum -/
def hC3 (P : PrT) (k : Nat) (a : Int64) : Int64 := ((31 : Int64) * (((31 : Int64) * (((31 : Int64) * (((31 : Int64) * a) + pj_pr_accounts P (k + 1))) + (pj_co_stage P k).toInt64)) + vGross P k)) + v_cert P (jI k)
def hB3 (P : PrT) (k : Nat) (a : Int64) : Int64 := ((31 : Int64) * a) + pj_ce_open P k
def hL3 (P : PrT) (k : Nat) (a : Int64) : Int64 := ((31 : Int64) * a) + v_claim P k
def vSum (P : PrT) : Int64 := ((31 : Int64) * fF (hL3 P) 0 (nli P) (fF (hB3 P) 0 (nce P) (fF (hC3 P) 0 (nco P) (((31 : Int64) * (pj_pr_day P).toInt64) + pj_pr_accounts P 0)))) + (pj_va_count P).toInt64
theorem k_sum3 (hb : b < 9) (hR : Rl B P (zrow b rows)) (s : Nat → Int32) (a : Int64) : f_X5_checksumOfAll_134 FU s (pj_va_count P) (pj_ce_count P) (pj_ce_contract P) (pj_ce_open P) (pj_li_count P) (pj_li_contract P) (pj_li_amount P) (pj_li_withdrawn P) a (0 : Int32) = some (((31 : Int64) * fF (hL3 P) 0 (nli P) a) + (pj_va_count P).toInt64, s) := by
  obtain ⟨hq, h12, -, -⟩ := hR.2.2.2.2.2.2.1
  have hfu := FU_k
  generalize FU = fu at hfu ⊢
  obtain ⟨-, e⟩ := r_zero_F (F := fun z (s' : Unit) acc k => f_X5_checksumOfAll_134 z s (pj_va_count P) (pj_ce_count P) (pj_ce_contract P) (pj_ce_open P) (pj_li_count P) (pj_li_contract P) (pj_li_amount P) (pj_li_withdrawn P) acc k) (n := nli P) (h := hL3 P) (post := fun _ x => some (((31 : Int64) * x) + (pj_va_count P).toInt64, s)) () a hfu (by omega) (by
    intro z _ acc
    simp (disch := omega) only [f_X5_checksumOfAll_134, hq, jI_le, Nat.le_refl, if_true]) (by
    intro z _ acc k hk
    have hk2 : ¬ nli P ≤ k := by omega
    have e2 := k_claimOf hb hR hk
    refine ⟨(), ?_⟩
    simp (disch := omega) only [f_X5_checksumOfAll_134, hq, jI_le, hk2, if_false, e2, zB1_s, jI_1, jI_add]
    rfl)
  exact e
theorem k_sum2 (hb : b < 9) (hR : Rl B P (zrow b rows)) (s : Nat → Int32) (a : Int64) : f_X5_checksumOfAll_99 FU s (pj_va_count P) (pj_ce_count P) (pj_ce_contract P) (pj_ce_open P) (pj_li_count P) (pj_li_contract P) (pj_li_amount P) (pj_li_withdrawn P) a (0 : Int32) = some (((31 : Int64) * fF (hL3 P) 0 (nli P) (fF (hB3 P) 0 (nce P) a)) + (pj_va_count P).toInt64, s) := by
  obtain ⟨hq, h40, -, -⟩ := hR.2.2.2.2.2.1
  have k3 := k_sum3 hb hR s
  have hfu := FU_k
  generalize hF : FU = fu at hfu k3 ⊢
  obtain ⟨-, e⟩ := r_zero_F (F := fun z (s' : Unit) acc k => f_X5_checksumOfAll_99 z s (pj_va_count P) (pj_ce_count P) (pj_ce_contract P) (pj_ce_open P) (pj_li_count P) (pj_li_contract P) (pj_li_amount P) (pj_li_withdrawn P) acc k) (n := nce P) (h := hB3 P) (post := fun _ x => f_X5_checksumOfAll_134 fu s (pj_va_count P) (pj_ce_count P) (pj_ce_contract P) (pj_ce_open P) (pj_li_count P) (pj_li_contract P) (pj_li_amount P) (pj_li_withdrawn P) x (0 : Int32)) () a hfu (by omega) (by
    intro z _ acc
    simp (disch := omega) only [f_X5_checksumOfAll_99, hq, jI_le, Nat.le_refl, if_true, hF]) (by
    intro z _ acc k hk
    have hk2 : ¬ nce P ≤ k := by omega
    refine ⟨(), ?_⟩
    simp (disch := omega) only [f_X5_checksumOfAll_99, hq, jI_le, hk2, if_false, zR_n, jI_1, jI_add]
    rfl)
  exact e.trans (k3 _)
theorem k_checksum (hb : b < 9) (hR : Rl B P (zrow b rows)) (st : Nat → Int32) : ∃ st', f_X5_checksumOfAll (pj_pr_day P) (pj_pr_accounts P) (pj_co_count P) (pj_co_stage P) (pj_pg_threshold P) (pj_pg_length P) (pj_pg_clen P) (pj_pg_code P) st (pj_it_count P) (pj_it_first P) (pj_it_price P) (pj_it_quantity P) (pj_it_progress P) (pj_va_count P) (pj_ce_count P) (pj_ce_contract P) (pj_ce_amount P) (pj_ce_open P) (pj_li_count P) (pj_li_contract P) (pj_li_amount P) (pj_li_withdrawn P) = some (vSum P, st') := by
  obtain ⟨hq, h8, -, -⟩ := hR.2.2.1
  have k2 := fun s => k_sum2 hb hR s
  unfold f_X5_checksumOfAll
  rw [jI_0, zR_n (by omega) (by omega), ← jI_0]
  have hfu := FU_k
  generalize hF : FU = fu at hfu k2 ⊢
  obtain ⟨s', e⟩ := r_zero_F (F := fun z s acc k => f_X5_checksumOfAll_21 z (pj_pr_accounts P) (pj_co_count P) (pj_co_stage P) (pj_pg_threshold P) (pj_pg_length P) (pj_pg_clen P) (pj_pg_code P) s (pj_it_count P) (pj_it_first P) (pj_it_price P) (pj_it_quantity P) (pj_it_progress P) (pj_va_count P) (pj_ce_count P) (pj_ce_contract P) (pj_ce_amount P) (pj_ce_open P) (pj_li_count P) (pj_li_contract P) (pj_li_amount P) (pj_li_withdrawn P) acc k) (n := nco P) (h := hC3 P) (post := fun s x => f_X5_checksumOfAll_99 fu s (pj_va_count P) (pj_ce_count P) (pj_ce_contract P) (pj_ce_open P) (pj_li_count P) (pj_li_contract P) (pj_li_amount P) (pj_li_withdrawn P) x (0 : Int32)) st (((31 : Int64) * (pj_pr_day P).toInt64) + pj_pr_accounts P 0) hfu (by omega) (by
    intro z s acc
    simp (disch := omega) only [f_X5_checksumOfAll_21, hq, jI_le, Nat.le_refl, if_true, hF]) (by
    intro z s acc k hk
    have hk2 : ¬ nco P ≤ k := by omega
    obtain ⟨s', e⟩ := k_grossOf hR hk s
    have e2 := k_certifiedOf hb hR (jI k)
    refine ⟨s', ?_⟩
    simp (disch := omega) only [f_X5_checksumOfAll_21, hq, jI_le, hk2, if_false, zR_n, jI_1, jI_add, e, e2, zB1_s]
    rfl)
  exact ⟨s', e.trans (k2 s' _)⟩
theorem r_sum3 (hb : b < 9) (hR : Rl B P (zrow b rows)) (t : Int32) (s : Nat → Int64) (a : Int64) : f_X9_checksum_134 FU t (jI b) rows s a (0 : Int32) = some (((31 : Int64) * fF (hL3 P) 0 (nli P) a) + (pj_va_count P).toInt64, t, s) := by
  obtain ⟨-, h12, h6, -⟩ := hR.2.2.2.2.2.2.1
  obtain ⟨hv, h20, h4, -⟩ := hR.2.2.2.2.1
  have hfu := FU_k
  generalize FU = fu at hfu ⊢
  obtain ⟨-, e⟩ := r_zero_F (F := fun z (s' : Unit) acc k => f_X9_checksum_134 z t (jI b) rows s acc k) (n := nli P) (h := hL3 P) (post := fun _ x => some (((31 : Int64) * x) + (pj_va_count P).toInt64, t, s)) () a hfu (by omega) (by
    intro z _ acc
    simp (disch := omega) only [f_X9_checksum_134, jI_6, jI_4, X9_get, zB1_s, h6, h4, jI_L, jL_le, Nat.le_refl, if_true]
    rw [hv, jI_L (by omega)]) (by
    intro z _ acc k hk
    have hk2 : ¬ nli P ≤ k := by omega
    have e2 := r_claimOf hb hR hk
    refine ⟨(), ?_⟩
    simp (disch := omega) only [f_X9_checksum_134, jI_6, X9_get, zB1_s, h6, jI_L, jL_le, hk2, if_false, e2, jI_1, jI_add]
    rfl)
  exact e
theorem r_sum2 (hb : b < 9) (hR : Rl B P (zrow b rows)) (t : Int32) (s : Nat → Int64) (a : Int64) : f_X9_checksum_103 FU t (jI b) rows s a (0 : Int32) = some (((31 : Int64) * fF (hL3 P) 0 (nli P) (fF (hB3 P) 0 (nce P) a)) + (pj_va_count P).toInt64, t, s) := by
  obtain ⟨-, h40, h5, hq⟩ := hR.2.2.2.2.2.1
  have k3 := r_sum3 hb hR t s
  have hfu := FU_k
  generalize hF : FU = fu at hfu k3 ⊢
  obtain ⟨-, e⟩ := r_zero_F (F := fun z (s' : Unit) acc k => f_X9_checksum_103 z t (jI b) rows s acc k) (n := nce P) (h := hB3 P) (post := fun _ x => f_X9_checksum_134 fu t (jI b) rows s x (0 : Int32)) () a hfu (by omega) (by
    intro z _ acc
    simp (disch := omega) only [f_X9_checksum_103, jI_5, X9_get, zB1_s, h5, jI_L, jL_le, Nat.le_refl, if_true, hF]) (by
    intro z _ acc k hk
    have hk2 : ¬ nce P ≤ k := by omega
    obtain ⟨-, -, ⟨e3, -⟩, -⟩ := hq k hk
    refine ⟨(), ?_⟩
    simp (disch := omega) only [f_X9_checksum_103, jI_5, X9_get, zB1_s, h5, jI_L, jL_le, hk2, if_false, X9_openOf, e3, jI_1, jI_add]
    rfl)
  exact e.trans (k3 _)
theorem r_checksum (hb : b < 9) (hR : Rl B P (zrow b rows)) (t : Int32) (pl : Nat → Int64) : ∃ pl', f_X9_checksum t (jI b) rows pl = some (vSum P, 0, pl') := by
  obtain ⟨-, h8, h0, hC⟩ := hR.2.2.1
  obtain ⟨hA, -⟩ := hR.2.2.2.2.2.2.2.1
  have k2 := fun s => r_sum2 hb hR 0 s
  have a0 := (hA 0 (by omega)).1
  unfold f_X9_checksum
  rw [jI_1, X9_get hb (by omega), zB1_s, jI_8, X9_get hb (by omega), zB1_s, hR.1.1, a0]
  have hfu := FU_k
  generalize hF : FU = fu at hfu k2 ⊢
  obtain ⟨s', e⟩ := r_zero_F (F := fun z s acc k => f_X9_checksum_26 z 0 (jI b) rows s acc k) (n := nco P) (h := hC3 P) (post := fun s x => f_X9_checksum_103 fu 0 (jI b) rows s x (0 : Int32)) pl (((31 : Int64) * (pj_pr_day P).toInt64) + pj_pr_accounts P 0) hfu (by omega) (by
    intro z s acc
    have e0 : f_X9_get (jI b) rows (0 : Int32) = some (jL (nco P)) := by rw [jI_0, X9_get hb (by omega), h0]
    simp (disch := omega) only [f_X9_checksum_26, e0, zB1_s, jI_L, jL_le, Nat.le_refl, if_true, hF]) (by
    intro z s acc k hk
    have hk2 : ¬ nco P ≤ k := by omega
    have e0 : f_X9_get (jI b) rows (0 : Int32) = some (jL (nco P)) := by rw [jI_0, X9_get hb (by omega), h0]
    obtain ⟨s', e⟩ := r_grossOf hb hR hk s
    have e2 := r_certifiedOf hb hR (jI k)
    have ea := (hA (k + 1) (by omega)).1
    rw [show 8 + (k + 1) = 9 + k by omega] at ea
    obtain ⟨-, -, -, -, -, -, ⟨e6, -⟩⟩ := hC k hk
    refine ⟨s', ?_⟩
    simp (disch := omega) only [f_X9_checksum_26, e0, zB1_s, jI_L, jL_le, hk2, if_false, jI_9, jI_6, jI_add, X9_get, X9_at, ea, e6, e, e2, jI_1]
    rfl)
  exact ⟨s', e.trans (k2 s' _)⟩
end MORE
