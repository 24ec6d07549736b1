/-! layer 3: propose, approve, certify, fileLien: the relation afterwards -/
section MUTL
variable {B : Int} {P : PrT} {R R' : Nat → Int64} {c i n v : Nat}
theorem nat_jI {k : Nat} (h : k < 1000) : (jI k).toNatClampNeg = k := jI_nat (by omega)
theorem gI_va2 {P' : PrT} (h1 : nco P' = nco P) (h3 : ∀ c, pj_it_count P' c = pj_it_count P c) (h4 : ∀ s, pj_it_first P' s = pj_it_first P s ∧ pj_it_price P' s = pj_it_price P s ∧ pj_it_progress P' s = pj_it_progress P s ∧ pj_it_quantity P' s = pj_it_quantity P s) (h5 : ∀ s, qS P' s (nva P') = qS P s (nva P)) (g : gI P R) : gI P' R := by
  intro c hc
  rw [h1] at hc
  obtain ⟨a, d⟩ := g c hc
  have en : nit P' c = nit P c := by
    unfold nit
    rw [h3]
  rw [en, h3]
  refine ⟨a, fun i hi => ?_⟩
  obtain ⟨x1, x2, x3, x4⟩ := h4 (c * 6 + i)
  rw [x1, x2, x3, x4, h5]
  exact d i hi
theorem zeq_of {r : Int64} {x : Int32} {lo hi : Int} (h : r = x.toInt64) (h1 : lo ≤ x.toInt) (h2 : x.toInt ≤ hi) : zeq r x lo hi := ⟨h, h1, h2⟩
theorem Rl_propose (hR : Rl B P R) (hn : nva P < 20) (hc : c < nco P) (hi : i < nit P c) {x : Int32} (x1 : -999 ≤ x.toInt) (x2 : x.toInt ≤ 999) (hR' : ∀ q, q ≠ 4 → ¬ (230 + 4 * nva P ≤ q ∧ q < 230 + 4 * nva P + 4) → R' q = R q) (r4 : R' 4 = jL (nva P + 1)) (r0 : R' (230 + 4 * nva P) = jL c) (r1 : R' (230 + 4 * nva P + 1) = jL i) (r2 : R' (230 + 4 * nva P + 2) = x.toInt64) (r3 : R' (230 + 4 * nva P + 3) = 0) : Rl B (pm_3 P (jI (nva P + 1)) (upd (pj_va_slot P) (nva P) (jI (c * 6 + i))) (upd (pj_va_change P) (nva P) x) (upd (pj_va_approved P) (nva P) 0)) R' := by
  have h8 := hR.2.2.1.2.1
  have en : nva (pm_3 P (jI (nva P + 1)) (upd (pj_va_slot P) (nva P) (jI (c * 6 + i))) (upd (pj_va_change P) (nva P) x) (upd (pj_va_approved P) (nva P) 0)) = nva P + 1 := nat_jI (by omega)
  obtain ⟨a1, a2, a3, a4⟩ := hR.2.2.2.2.1
  refine ⟨?_, ?_, gC_c (hR' _ (by omega) (by omega)) (fun c' o _ _ => hR' _ (by omega) (by omega)) hR.2.2.1, gI_va2 (P := P) rfl (fun _ => rfl) (fun _ => ⟨rfl, rfl, rfl, rfl⟩) (fun s => ?_) (gI_c h8 (fun c' _ => hR' _ (by omega) (by omega)) (fun c' i' o _ _ _ => hR' _ (by omega) (by omega)) hR.2.2.2.1), ⟨?_, ?_, ?_, fun v hv => ?_⟩, gB_c (hR' _ (by omega) (by omega)) (fun c' o _ _ => hR' _ (by omega) (by omega)) hR.2.2.2.2.2.1, gL_c (hR' _ (by omega) (by omega)) (fun c' o _ _ => hR' _ (by omega) (by omega)) hR.2.2.2.2.2.2.1, gA_c (fun k _ => hR' _ (by omega) (by omega)) hR.2.2.2.2.2.2.2.1, gK_c (hR' _ (by omega) (by omega)) (fun j _ => hR' _ (by omega) (by omega)) hR.2.2.2.2.2.2.2.2⟩
  · show zeq (R' 1) _ _ _
    rw [hR' _ (by omega) (by omega)]
    exact hR.1
  · show zeq (R' 2) _ _ _
    rw [hR' _ (by omega) (by omega)]
    exact hR.2.1
  · rw [en]
    show qS _ s (nva P) + (if upd (pj_va_slot P) (nva P) (jI (c * 6 + i)) (nva P) = jI s ∧ upd (pj_va_approved P) (nva P) 0 (nva P) = 1 then (upd (pj_va_change P) (nva P) x (nva P)).toInt else 0) = _
    rw [upd_same, upd_same, upd_same, if_neg (fun z => absurd z.2 (by decide)), Int.add_zero]
    refine qS_congr _ (fun v hv => ⟨?_, ?_, ?_⟩)
    · exact upd_ne (by omega)
    · exact upd_ne (by omega)
    · exact upd_ne (by omega)
  · rw [en]
  · rw [en]
    omega
  · rw [en]
    exact r4
  · rw [en] at hv
    show (∃ c_1 i_1, c_1 < nco P ∧ i_1 < nit P c_1 ∧ upd (pj_va_slot P) (nva P) (jI (c * 6 + i)) v = jI (c_1 * 6 + i_1) ∧ R' (230 + 4 * v) = jL c_1 ∧ R' (230 + 4 * v + 1) = jL i_1) ∧ zeq (R' (230 + 4 * v + 2)) (upd (pj_va_change P) (nva P) x v) (-999) 999 ∧ zeq (R' (230 + 4 * v + 3)) (upd (pj_va_approved P) (nva P) 0 v) 0 1
    by_cases h : v = nva P
    · rw [h, upd_same, upd_same, upd_same]
      exact ⟨⟨c, i, hc, hi, rfl, r0, r1⟩, ⟨r2, x1, x2⟩, ⟨r3, by decide, by decide⟩⟩
    · rw [upd_ne h, upd_ne h, upd_ne h, hR' _ (by omega) (by omega), hR' _ (by omega) (by omega), hR' _ (by omega) (by omega), hR' _ (by omega) (by omega)]
      exact a4 v (by omega)
theorem qS_appr {P' : PrT} {s v : Nat} (e1 : ∀ u, pj_va_slot P' u = pj_va_slot P u) (e2 : ∀ u, pj_va_change P' u = pj_va_change P u) (e3 : ∀ u, pj_va_approved P' u = upd (pj_va_approved P) v 1 u) (h0 : pj_va_approved P v = 0) : ∀ n, qS P' s n = qS P s n + (if v < n ∧ pj_va_slot P v = jI s then (pj_va_change P v).toInt else 0)
  | 0 => by
    rw [if_neg (fun z => by omega)]
    rfl
  | n + 1 => by
    show qS P' s n + (if pj_va_slot P' n = jI s ∧ pj_va_approved P' n = 1 then (pj_va_change P' n).toInt else 0) = qS P s n + (if pj_va_slot P n = jI s ∧ pj_va_approved P n = 1 then (pj_va_change P n).toInt else 0) + _
    rw [qS_appr e1 e2 e3 h0 n, e1, e2, e3]
    by_cases h : n = v
    · subst h
      rw [upd_same, h0, if_neg (c := n < n ∧ _) (fun z => by omega)]
      by_cases hs : pj_va_slot P n = jI s
      · rw [if_pos ⟨hs, rfl⟩, if_neg (fun z => absurd z.2 (by decide)), if_pos ⟨by omega, hs⟩]
      · rw [if_neg (fun z => hs z.1), if_neg (fun z => hs z.1), if_neg (fun z => hs z.2)]
    · rw [upd_ne h]
      have : (v < n + 1 ∧ pj_va_slot P v = jI s) ↔ (v < n ∧ pj_va_slot P v = jI s) := ⟨fun z => ⟨by omega, z.2⟩, fun z => ⟨by omega, z.2⟩⟩
      simp only [this]
      omega
theorem Rl_approve (hR : Rl B P R) (hv : v < nva P) (h0 : pj_va_approved P v = 0) (hc : c < nco P) (hi : i < nit P c) (hs : pj_va_slot P v = jI (c * 6 + i)) {x : Int32} (hx0 : 0 ≤ x.toInt) (hx : x.toInt = (pj_it_quantity P (c * 6 + i)).toInt + (pj_va_change P v).toInt) : Rl B (ps_it_quantity (ps_va_approved P (upd (pj_va_approved P) v 1)) (upd (pj_it_quantity P) (c * 6 + i) x)) (vp_updL R (230 + 4 * v + 3) 1) := by
  have h8 := hR.2.2.1.2.1
  have h20 := hR.2.2.2.2.1.2.1
  have h6 := (hR.2.2.2.1 c hc).1.2.1
  obtain ⟨a1, a2, a3, a4⟩ := hR.2.2.2.2.1
  refine ⟨?_, ?_, gC_c (updL_ne (by omega)) (fun c' o _ _ => updL_ne (by omega)) hR.2.2.1, ?_, ⟨a1, a2, (updL_ne (by omega)).trans a3, fun u hu => ?_⟩, gB_c (updL_ne (by omega)) (fun c' o _ _ => updL_ne (by omega)) hR.2.2.2.2.2.1, gL_c (updL_ne (by omega)) (fun c' o _ _ => updL_ne (by omega)) hR.2.2.2.2.2.2.1, gA_c (fun k _ => updL_ne (by omega)) hR.2.2.2.2.2.2.2.1, gK_c (updL_ne (by omega)) (fun j _ => updL_ne (by omega)) hR.2.2.2.2.2.2.2.2⟩
  · show zeq (vp_updL R _ _ 1) _ _ _
    rw [updL_ne (by omega)]
    exact hR.1
  · show zeq (vp_updL R _ _ 2) _ _ _
    rw [updL_ne (by omega)]
    exact hR.2.1
  · intro c' hc'
    have hc' : c' < nco P := hc'
    obtain ⟨⟨b1, b2, b3⟩, d⟩ := hR.2.2.2.1 c' hc'
    refine ⟨⟨b1, b2, (updL_ne (by omega)).trans b3⟩, fun i' hi' => ?_⟩
    have hi' : i' < nit P c' := hi'
    obtain ⟨y1, y2, y3, y4, y5⟩ := d i' hi'
    refine ⟨?_, ?_, ?_, ?_⟩
    · rw [updL_ne (by omega)]
      exact y1
    · rw [updL_ne (by omega)]
      exact y2
    · rw [updL_ne (by omega)]
      exact y3
    · have eq := qS_appr (P := P) (P' := ps_it_quantity (ps_va_approved P (upd (pj_va_approved P) v 1)) (upd (pj_it_quantity P) (c * 6 + i) x)) (s := c' * 6 + i') (v := v) (fun _ => rfl) (fun _ => rfl) (fun _ => rfl) h0 (nva P)
      show (upd (pj_it_quantity P) (c * 6 + i) x (c' * 6 + i')).toInt = (pj_it_first P (c' * 6 + i')).toInt + qS (ps_it_quantity (ps_va_approved P (upd (pj_va_approved P) v 1)) (upd (pj_it_quantity P) (c * 6 + i) x)) (c' * 6 + i') (nva P) ∧ 0 ≤ (upd (pj_it_quantity P) (c * 6 + i) x (c' * 6 + i')).toInt
      rw [eq]
      by_cases h : c' * 6 + i' = c * 6 + i
      · rw [h, upd_same, if_pos ⟨hv, hs⟩]
        rw [h] at y4
        omega
      · rw [upd_ne h, if_neg (fun z => by
          have := (jI_eq (by omega) (by omega)).mp (hs.symm.trans z.2)
          omega)]
        omega
  · have hu : u < nva P := hu
    obtain ⟨b1, b2, b3⟩ := a4 u hu
    refine ⟨?_, ?_, ?_⟩
    · rw [updL_ne (by omega), updL_ne (by omega)]
      exact b1
    · rw [updL_ne (by omega)]
      exact b2
    · show zeq _ (upd (pj_va_approved P) v 1 u) 0 1
      by_cases h : u = v
      · subst h
        rw [updL_same, upd_same]
        exact ⟨rfl, by decide, by decide⟩
      · rw [updL_ne (by omega), upd_ne h]
        exact b3
theorem Rl_certify (hR : Rl B P R) (hB : B < 100000000000) (hn : nce P < 40) (hc : c < nco P) {x : Int64} (x1 : 0 < x.toInt) (x2 : x.toInt ≤ 68719476736) (hR' : ∀ q, q ≠ 5 → ¬ (320 + 5 * nce P ≤ q ∧ q < 320 + 5 * nce P + 5) → R' q = R q) (r5 : R' 5 = jL (nce P + 1)) (r0 : R' (320 + 5 * nce P) = (jI c).toInt64) (r1 : R' (320 + 5 * nce P + 1) = x) (r2 : R' (320 + 5 * nce P + 2) = 0) (r3 : R' (320 + 5 * nce P + 3) = (pj_pr_day P).toInt64) (r4 : R' (320 + 5 * nce P + 4) = (pj_pr_day P).toInt64 + (pj_co_paymentDays P c).toInt64) : Rl B (pm_6 P (jI (nce P + 1)) (upd (pj_ce_contract P) (nce P) (jI c)) (vp_updL (pj_ce_amount P) (nce P) x) (vp_updL (pj_ce_open P) (nce P) x) (upd (pj_ce_issued P) (nce P) (pj_pr_day P)) (upd (pj_ce_due P) (nce P) (pj_pr_day P + pj_co_paymentDays P c))) R' := by
  have h8 := hR.2.2.1.2.1
  have en : nce (pm_6 P (jI (nce P + 1)) (upd (pj_ce_contract P) (nce P) (jI c)) (vp_updL (pj_ce_amount P) (nce P) x) (vp_updL (pj_ce_open P) (nce P) x) (upd (pj_ce_issued P) (nce P) (pj_pr_day P)) (upd (pj_ce_due P) (nce P) (pj_pr_day P + pj_co_paymentDays P c))) = nce P + 1 := nat_jI (by omega)
  obtain ⟨a1, a2, a3, a4⟩ := hR.2.2.2.2.2.1
  obtain ⟨-, d1, d2⟩ := hR.1
  rw [dB_s hB] at d2
  obtain ⟨-, -, -, ⟨-, p1, p2⟩, -⟩ := hR.2.2.1.2.2.2 c hc
  refine ⟨?_, ?_, gC_c (hR' _ (by omega) (by omega)) (fun c' o _ _ => hR' _ (by omega) (by omega)) hR.2.2.1, gI_va (P := P) rfl rfl (fun _ => rfl) (fun _ => ⟨rfl, rfl, rfl, rfl⟩) (fun _ => ⟨rfl, rfl, rfl⟩) (gI_c h8 (fun c' _ => hR' _ (by omega) (by omega)) (fun c' i' o _ _ _ => hR' _ (by omega) (by omega)) hR.2.2.2.1), gV_c (hR' _ (by omega) (by omega)) (fun c' o _ _ => hR' _ (by omega) (by omega)) hR.2.2.2.2.1, ⟨?_, ?_, ?_, fun k hk => ?_⟩, gL_c (hR' _ (by omega) (by omega)) (fun c' o _ _ => hR' _ (by omega) (by omega)) hR.2.2.2.2.2.2.1, gA_c (fun k _ => hR' _ (by omega) (by omega)) hR.2.2.2.2.2.2.2.1, gK_c (hR' _ (by omega) (by omega)) (fun j _ => hR' _ (by omega) (by omega)) hR.2.2.2.2.2.2.2.2⟩
  · show zeq (R' 1) _ _ _
    rw [hR' _ (by omega) (by omega)]
    exact hR.1
  · show zeq (R' 2) _ _ _
    rw [hR' _ (by omega) (by omega)]
    exact hR.2.1
  · rw [en]
  · rw [en]
    omega
  · rw [en]
    exact r5
  · rw [en] at hk
    show (R' (320 + 5 * k) = (upd (pj_ce_contract P) (nce P) (jI c) k).toInt64 ∧ ∃ c_1, c_1 < nco P ∧ upd (pj_ce_contract P) (nce P) (jI c) k = jI c_1) ∧ (R' (320 + 5 * k + 1) = vp_updL (pj_ce_amount P) (nce P) x k ∧ 0 < (vp_updL (pj_ce_amount P) (nce P) x k).toInt ∧ (vp_updL (pj_ce_amount P) (nce P) x k).toInt ≤ 68719476736) ∧ (R' (320 + 5 * k + 1) - R' (320 + 5 * k + 2) = vp_updL (pj_ce_open P) (nce P) x k ∧ 0 ≤ (vp_updL (pj_ce_open P) (nce P) x k).toInt ∧ (vp_updL (pj_ce_open P) (nce P) x k).toInt ≤ 68719476736) ∧ zeq (R' (320 + 5 * k + 3)) (upd (pj_ce_issued P) (nce P) (pj_pr_day P) k) 0 100000 ∧ zeq (R' (320 + 5 * k + 4)) (upd (pj_ce_due P) (nce P) (pj_pr_day P + pj_co_paymentDays P c) k) 0 100060
    by_cases h : k = nce P
    · have ed := I_add (a := pj_pr_day P) (b := pj_co_paymentDays P c) (by omega) (by omega)
      rw [h, upd_same, updL_same, updL_same, upd_same, upd_same, r0, r1, r2, r3, r4]
      exact ⟨⟨rfl, c, hc, rfl⟩, ⟨rfl, x1, x2⟩, ⟨Int64.sub_zero x, by omega, x2⟩, ⟨rfl, d1, d2⟩, ⟨(C_add (by omega) (by omega)).symm, by omega, by omega⟩⟩
    · rw [upd_ne h, updL_ne h, updL_ne h, upd_ne h, upd_ne h, hR' _ (by omega) (by omega), hR' _ (by omega) (by omega), hR' _ (by omega) (by omega), hR' _ (by omega) (by omega), hR' _ (by omega) (by omega)]
      exact a4 k (by omega)
theorem Rl_file (hR : Rl B P R) (hB : B < 100000000000) (hn : nli P < 12) (hc : c < nco P) {x : Int64} (x1 : 0 ≤ x.toInt) (x2 : x.toInt ≤ 4398046511104) (hR' : ∀ q, q ≠ 6 → ¬ (530 + 4 * nli P ≤ q ∧ q < 530 + 4 * nli P + 4) → R' q = R q) (r6 : R' 6 = jL (nli P + 1)) (r0 : R' (530 + 4 * nli P) = (jI c).toInt64) (r1 : R' (530 + 4 * nli P + 1) = x) (r2 : R' (530 + 4 * nli P + 2) = (pj_pr_day P).toInt64) (r3 : R' (530 + 4 * nli P + 3) = 0) : Rl B (pm_11 P (jI (nli P + 1)) (upd (pj_li_contract P) (nli P) (jI c)) (vp_updL (pj_li_amount P) (nli P) x) (upd (pj_li_filed P) (nli P) (pj_pr_day P)) (upd (pj_li_withdrawn P) (nli P) 0)) R' := by
  have h8 := hR.2.2.1.2.1
  have en : nli (pm_11 P (jI (nli P + 1)) (upd (pj_li_contract P) (nli P) (jI c)) (vp_updL (pj_li_amount P) (nli P) x) (upd (pj_li_filed P) (nli P) (pj_pr_day P)) (upd (pj_li_withdrawn P) (nli P) 0)) = nli P + 1 := nat_jI (by omega)
  obtain ⟨a1, a2, a3, a4⟩ := hR.2.2.2.2.2.2.1
  obtain ⟨-, d1, d2⟩ := hR.1
  rw [dB_s hB] at d2
  refine ⟨?_, ?_, gC_c (hR' _ (by omega) (by omega)) (fun c' o _ _ => hR' _ (by omega) (by omega)) hR.2.2.1, gI_va (P := P) rfl rfl (fun _ => rfl) (fun _ => ⟨rfl, rfl, rfl, rfl⟩) (fun _ => ⟨rfl, rfl, rfl⟩) (gI_c h8 (fun c' _ => hR' _ (by omega) (by omega)) (fun c' i' o _ _ _ => hR' _ (by omega) (by omega)) hR.2.2.2.1), gV_c (hR' _ (by omega) (by omega)) (fun c' o _ _ => hR' _ (by omega) (by omega)) hR.2.2.2.2.1, gB_c (hR' _ (by omega) (by omega)) (fun c' o _ _ => hR' _ (by omega) (by omega)) hR.2.2.2.2.2.1, ⟨?_, ?_, ?_, fun k hk => ?_⟩, gA_c (fun k _ => hR' _ (by omega) (by omega)) hR.2.2.2.2.2.2.2.1, gK_c (hR' _ (by omega) (by omega)) (fun j _ => hR' _ (by omega) (by omega)) hR.2.2.2.2.2.2.2.2⟩
  · show zeq (R' 1) _ _ _
    rw [hR' _ (by omega) (by omega)]
    exact hR.1
  · show zeq (R' 2) _ _ _
    rw [hR' _ (by omega) (by omega)]
    exact hR.2.1
  · rw [en]
  · rw [en]
    omega
  · rw [en]
    exact r6
  · rw [en] at hk
    show (R' (530 + 4 * k) = (upd (pj_li_contract P) (nli P) (jI c) k).toInt64 ∧ ∃ c_1, c_1 < nco P ∧ upd (pj_li_contract P) (nli P) (jI c) k = jI c_1) ∧ (R' (530 + 4 * k + 1) = vp_updL (pj_li_amount P) (nli P) x k ∧ 0 ≤ (vp_updL (pj_li_amount P) (nli P) x k).toInt ∧ (vp_updL (pj_li_amount P) (nli P) x k).toInt ≤ 4398046511104) ∧ zeq (R' (530 + 4 * k + 2)) (upd (pj_li_filed P) (nli P) (pj_pr_day P) k) 0 100000 ∧ zeq (R' (530 + 4 * k + 3)) (upd (pj_li_withdrawn P) (nli P) 0 k) 0 1
    by_cases h : k = nli P
    · rw [h, upd_same, updL_same, upd_same, upd_same, r0, r1, r2, r3]
      exact ⟨⟨rfl, c, hc, rfl⟩, ⟨rfl, x1, x2⟩, ⟨rfl, d1, d2⟩, ⟨rfl, by decide, by decide⟩⟩
    · rw [upd_ne h, updL_ne h, upd_ne h, upd_ne h, hR' _ (by omega) (by omega), hR' _ (by omega) (by omega), hR' _ (by omega) (by omega), hR' _ (by omega) (by omega)]
      exact a4 k (by omega)
/-! bounds -/
theorem J_tdiv {a : Int64} (h : 0 ≤ a.toInt) : 0 ≤ (a / (100 : Int64)).toInt ∧ (a / (100 : Int64)).toInt ≤ a.toInt := by
  rw [Int64.toInt_div_of_ne_right _ _ (by decide), show (100 : Int64).toInt = 100 from rfl, Int.tdiv_eq_ediv_of_nonneg h]
  omega
theorem J_tdiv2 {a : Int64} (h : 0 ≤ a.toInt) : 0 ≤ (a / (2 : Int64)).toInt := by
  rw [Int64.toInt_div_of_ne_right _ _ (by decide), show (2 : Int64).toInt = 2 from rfl, Int.tdiv_eq_ediv_of_nonneg h]
  omega
end MUTL
section BND
variable {B : Int} {P : PrT} {b : Nat} {rows : Nat → Int64} {c i : Nat}
theorem full_bd (hR : Rl B P (zrow b rows)) (hc : c < nco P) (hi : i < nit P c) {q : Int32} (h0 : 0 ≤ q.toInt) (h1 : q.toInt ≤ 30000) : 0 ≤ (vFull P (c * 6 + i) q).toInt ∧ (vFull P (c * 6 + i) q).toInt ≤ 3500000000 := by
  obtain ⟨-, b1, b2⟩ := bound_s hR hc hi
  obtain ⟨-, ⟨-, p1, p2⟩, -⟩ := (hR.2.2.2.1 c hc).2 i hi
  have e := I_sub (a := q) (b := vBound P (c * 6 + i)) (by omega) (by omega)
  have e0 : (0 : Int32).toInt = 0 := rfl
  have zz : ∀ x : Int32, x.toInt64.toInt = x.toInt := fun x => Int32.toInt_toInt64 x
  rw [← full_s hR hc hi h0 (by omega)]
  have xb : 0 ≤ (vExc P (c * 6 + i) q).toInt ∧ (vExc P (c * 6 + i) q).toInt ≤ q.toInt := by
    unfold vExc
    by_cases h2 : (0 : Int32) < q - vBound P (c * 6 + i)
    · have h2' := Int32.lt_iff_toInt_lt.mp h2
      rw [if_pos h2]
      omega
    · rw [if_neg h2]
      omega
  obtain ⟨v1, v2⟩ := vRate_bd (f := pj_it_first P (c * 6 + i)) (e := vExc P (c * 6 + i) q) hR (p := pj_it_price P (c * 6 + i)) ⟨p1, p2⟩
  have d := J_sub (a := q.toInt64) (b := (vExc P (c * 6 + i) q).toInt64) (by rw [zz, zz]; omega) (by rw [zz, zz]; omega)
  rw [zz, zz] at d
  have m1 := mul_bd (x := (q.toInt64 - (vExc P (c * 6 + i) q).toInt64).toInt) (y := (pj_it_price P (c * 6 + i)).toInt64.toInt) (a := 30000) (b := 9999) (by omega) (by omega) (by rw [zz]; omega) (by rw [zz]; omega)
  have m2 := mul_bd (x := (vExc P (c * 6 + i) q).toInt64.toInt) (y := (vRate P (pj_it_price P (c * 6 + i)) (pj_it_first P (c * 6 + i)) (vExc P (c * 6 + i) q)).toInt64.toInt) (a := 30000) (b := 99999) (by rw [zz]; omega) (by rw [zz]; omega) (by rw [zz]; omega) (by rw [zz]; omega)
  have f1 := J_mul (a := q.toInt64 - (vExc P (c * 6 + i) q).toInt64) (b := (pj_it_price P (c * 6 + i)).toInt64) (by omega) (by omega)
  have f2 := J_mul (a := (vExc P (c * 6 + i) q).toInt64) (b := (vRate P (pj_it_price P (c * 6 + i)) (pj_it_first P (c * 6 + i)) (vExc P (c * 6 + i) q)).toInt64) (by omega) (by omega)
  rw [J_add (by omega) (by omega)]
  omega
theorem val_bd (hR : Rl B P (zrow b rows)) (hc : c < nco P) (hi : i < nit P c) : 0 ≤ (vVal P (c * 6 + i)).toInt ∧ (vVal P (c * 6 + i)).toInt ≤ 3500000000 := by
  obtain ⟨q1, q2⟩ := qty_bd hR hc hi
  obtain ⟨-, -, ⟨-, p1, p2⟩, -⟩ := (hR.2.2.2.1 c hc).2 i hi
  obtain ⟨f1, f2⟩ := full_bd hR hc hi q1 q2
  have zz : (pj_it_progress P (c * 6 + i)).toInt64.toInt = (pj_it_progress P (c * 6 + i)).toInt := Int32.toInt_toInt64 _
  have m := mul_bd (x := (vFull P (c * 6 + i) (pj_it_quantity P (c * 6 + i))).toInt) (y := (pj_it_progress P (c * 6 + i)).toInt64.toInt) (a := 3500000000) (b := 100) f1 f2 (by omega) (by omega)
  have f := J_mul (a := vFull P (c * 6 + i) (pj_it_quantity P (c * 6 + i))) (b := (pj_it_progress P (c * 6 + i)).toInt64) (by omega) (by omega)
  unfold vVal
  rw [Int64.toInt_div_of_ne_right _ _ (by decide), show (100 : Int64).toInt = 100 from rfl, f]
  exact tdiv_bd m.1 (by omega)
theorem gross_bd (hR : Rl B P (zrow b rows)) (hc : c < nco P) : 0 ≤ (vGross P c).toInt ∧ (vGross P c).toInt ≤ 21000000000 := by
  have h6 := (hR.2.2.2.1 c hc).1.2.1
  have := sS_bd (g := fun i => vVal P (c * 6 + i)) (M := 3500000000) (by omega) (nit P c) (by omega) (fun j hj => val_bd hR hc hj)
  unfold vGross
  omega
theorem first_bd (hR : Rl B P (zrow b rows)) (hc : c < nco P) : 0 ≤ (vFirst P c).toInt ∧ (vFirst P c).toInt ≤ 60000000 := by
  have h6 := (hR.2.2.2.1 c hc).1.2.1
  have := sS_bd (g := fun i => (pj_it_first P (c * 6 + i)).toInt64 * (pj_it_price P (c * 6 + i)).toInt64) (M := 9999999) (by omega) (nit P c) (by omega) (fun j hj => by
    obtain ⟨⟨-, f1, f2⟩, ⟨-, p1, p2⟩, -⟩ := (hR.2.2.2.1 c hc).2 j hj
    have zz : ∀ x : Int32, x.toInt64.toInt = x.toInt := fun x => Int32.toInt_toInt64 x
    have m := mul_bd (x := (pj_it_first P (c * 6 + j)).toInt64.toInt) (y := (pj_it_price P (c * 6 + j)).toInt64.toInt) (a := 999) (b := 9999) (by rw [zz]; omega) (by rw [zz]; omega) (by rw [zz]; omega) (by rw [zz]; omega)
    have f := J_mul (a := (pj_it_first P (c * 6 + j)).toInt64) (b := (pj_it_price P (c * 6 + j)).toInt64) (by omega) (by omega)
    rw [f]
    omega)
  unfold vFirst
  omega
theorem held_bd (hR : Rl B P (zrow b rows)) (hc : c < nco P) : 0 ≤ (vHeld P c).toInt ∧ (vHeld P c).toInt ≤ 1000000000000 := by
  obtain ⟨g1, g2⟩ := gross_bd hR hc
  obtain ⟨f1, f2⟩ := first_bd hR hc
  obtain ⟨-, ⟨-, r1, r2⟩, ⟨-, l1, l2⟩, -⟩ := hR.2.2.1.2.2.2 c hc
  have zz : ∀ x : Int32, x.toInt64.toInt = x.toInt := fun x => Int32.toInt_toInt64 x
  have m1 := mul_bd (x := (vFirst P c).toInt) (y := (pj_co_limitPercent P c).toInt64.toInt) (a := 60000000) (b := 20) (by omega) (by omega) (by rw [zz]; omega) (by rw [zz]; omega)
  have m2 := mul_bd (x := (vGross P c).toInt) (y := (pj_co_retentionPercent P c).toInt64.toInt) (a := 21000000000) (b := 20) (by omega) (by omega) (by rw [zz]; omega) (by rw [zz]; omega)
  have e1 := J_mul (a := vFirst P c) (b := (pj_co_limitPercent P c).toInt64) (by omega) (by omega)
  have e2 := J_mul (a := vGross P c) (b := (pj_co_retentionPercent P c).toInt64) (by omega) (by omega)
  have d1 := J_tdiv (a := vFirst P c * (pj_co_limitPercent P c).toInt64) (by omega)
  have d2 := J_tdiv (a := vGross P c * (pj_co_retentionPercent P c).toInt64) (by omega)
  have key : ∀ x : Int64, x = (if vFirst P c * (pj_co_limitPercent P c).toInt64 / (100 : Int64) < vGross P c * (pj_co_retentionPercent P c).toInt64 / (100 : Int64) then vFirst P c * (pj_co_limitPercent P c).toInt64 / (100 : Int64) else vGross P c * (pj_co_retentionPercent P c).toInt64 / (100 : Int64)) → 0 ≤ x.toInt ∧ x.toInt ≤ 1000000000000 := by
    intro x hx
    rw [hx]
    split <;> omega
  unfold vHeld
  split
  · exact key _ rfl
  · split
    · have k := key _ rfl
      refine ⟨J_tdiv2 k.1, ?_⟩
      rw [Int64.toInt_div_of_ne_right _ _ (by decide), show (2 : Int64).toInt = 2 from rfl, Int.tdiv_eq_ediv_of_nonneg k.1]
      omega
    · exact ⟨by decide, by decide⟩
theorem cert_bd (hR : Rl B P (zrow b rows)) (x : Int32) : 0 ≤ (v_cert P x).toInt ∧ (v_cert P x).toInt ≤ 4398046511104 := by
  have h40 := hR.2.2.2.2.2.1.2.1
  have := sS_bd (g := g_cert P x) (M := 68719476736) (by omega) (nce P) (by omega) (fun j hj => by
    obtain ⟨-, ⟨-, a1, a2⟩, -⟩ := hR.2.2.2.2.2.1.2.2.2 j hj
    unfold g_cert
    split
    · omega
    · exact ⟨by decide, by decide⟩)
  unfold v_cert
  omega
theorem ovd_bd (hR : Rl B P (zrow b rows)) (x d : Int32) : 0 ≤ (v_ovd P x d).toInt ∧ (v_ovd P x d).toInt ≤ 4398046511104 := by
  have h40 := hR.2.2.2.2.2.1.2.1
  have := sS_bd (g := g_ovd P x d) (M := 68719476736) (by omega) (nce P) (by omega) (fun j hj => by
    obtain ⟨-, -, ⟨-, a1, a2⟩, -⟩ := hR.2.2.2.2.2.1.2.2.2 j hj
    unfold g_ovd
    split
    · split
      · exact ⟨by decide, by decide⟩
      · omega
    · exact ⟨by decide, by decide⟩)
  unfold v_ovd
  omega
end BND
