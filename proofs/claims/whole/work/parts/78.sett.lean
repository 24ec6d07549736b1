/-! layer 3: settling, day by day -/
abbrev Pst (P : PrT) (A O : Nat → Int64) : PrT := ps_ce_open (ps_pr_accounts P A) O
theorem updL_id {f : Nat → Int64} {k : Nat} {x : Int64} (h : x = f k) : vp_updL f k x = f := by
  funext j
  unfold vp_updL
  by_cases c : j = k
  · rw [if_pos c, h, c]
  · rw [if_neg c]
section SETT
variable {B : Int} {P : PrT} {b : Nat} {rows : Nat → Int64}
theorem pay1 (hb : b < 9) (hB : B < 1000000000000) (hR : Rl B P (zrow b rows)) {k : Nat} (hk : k < nce P) : ∃ (s : Int64) (A' O' : Nat → Int64) (rows' : Nat → Int64), f_X5_payFromAccount (pj_pr_accounts P) (pj_co_parent P) (pj_co_linked P) (pj_ce_count P) (pj_ce_contract P) (pj_ce_open P) (pj_ce_issued P) (jI k) = some (s, A', O') ∧ (∀ z acc t, f_X9_settles_17 (z + 1) (jI b) rows acc t (jI k) = f_X9_settles_69 (f_X9_settles_17 z) (jI b) rows' (acc + s) t (jI k)) ∧ Rl B (Pst P A' O') (zrow b rows') ∧ (∀ i, i ≠ b → ∀ q, q < 2500 → zrow i rows' q = zrow i rows q) ∧ 0 ≤ s.toInt ∧ s.toInt ≤ 1000000000000 ∧ (s = 0 → A' = pj_pr_accounts P ∧ O' = pj_ce_open P) := by
  have h40 := hR.2.2.2.2.2.1.2.1
  obtain ⟨c, pi, hc, hpi, h8, ec, epar, kP, rP, kT⟩ := k_payerHolds (b := b) hR hk
  obtain ⟨hpa, a0⟩ := hR.2.2.2.2.2.2.2.1.1 pi (by omega)
  obtain ⟨-, -, ⟨o1, o2, o3⟩, -⟩ := hR.2.2.2.2.2.1.2.2.2 k hk
  have m0 : 0 ≤ (if pj_pr_accounts P pi < pj_ce_open P k then pj_pr_accounts P pi else pj_ce_open P k).toInt ∧ (if pj_pr_accounts P pi < pj_ce_open P k then pj_pr_accounts P pi else pj_ce_open P k).toInt ≤ (pj_pr_accounts P pi).toInt ∧ (if pj_pr_accounts P pi < pj_ce_open P k then pj_pr_accounts P pi else pj_ce_open P k).toInt ≤ (pj_ce_open P k).toInt := by
    by_cases c1 : pj_pr_accounts P pi < pj_ce_open P k
    · have := J_lt.mp c1
      rw [if_pos c1]
      omega
    · have c1' : ¬ (pj_pr_accounts P pi).toInt < (pj_ce_open P k).toInt := fun z => c1 (J_lt.mpr z)
      rw [if_neg c1]
      omega
  have hm1 : f_X5_payFromAccount (pj_pr_accounts P) (pj_co_parent P) (pj_co_linked P) (pj_ce_count P) (pj_ce_contract P) (pj_ce_open P) (pj_ce_issued P) (jI k) = (if (if pj_pr_accounts P pi < pj_ce_open P k then pj_pr_accounts P pi else pj_ce_open P k) ≤ (0 : Int64) then (some ((0 : Int64), pj_pr_accounts P, pj_ce_open P)) else (zB1 (f_X5_isHeldBack (pj_co_parent P) (pj_co_linked P) (pj_ce_count P) (pj_ce_contract P) (pj_ce_open P) (pj_ce_issued P) (jI k)) fun q_26 => if q_26 = 0 then (zB1 (f_X5_transfer (pj_pr_accounts P) (pj_co_parent P) (pj_ce_contract P) (pj_ce_open P) (jI k) (if pj_pr_accounts P pi < pj_ce_open P k then pj_pr_accounts P pi else pj_ce_open P k)) fun q_37 => some ((if pj_pr_accounts P pi < pj_ce_open P k then pj_pr_accounts P pi else pj_ce_open P k), q_37.1, q_37.2)) else (some ((0 : Int64), pj_pr_accounts P, pj_ce_open P)))) := by
    unfold f_X5_payFromAccount
    rw [zR_n (by omega) (by omega), kP, zB1_s]
  have hm2 : ∀ z acc t, f_X9_settles_17 (z + 1) (jI b) rows acc t (jI k) = (if v_held P k = true then f_X9_settles_69 (f_X9_settles_17 z) (jI b) rows acc t (jI k) else zB1 (f_X9_pays (jI b) rows (jI k) (if pj_pr_accounts P pi < pj_ce_open P k then pj_pr_accounts P pi else pj_ce_open P k)) fun q_61 => f_X9_settles_69 (f_X9_settles_17 z) (jI b) q_61 (acc + (if pj_pr_accounts P pi < pj_ce_open P k then pj_pr_accounts P pi else pj_ce_open P k)) t (jI k)) := by
    intro z acc t
    simp only [f_X9_settles_17]
    rw [if_neg (jI_nm (by omega)), r_isHeld hb hR hk, zB1_s]
    by_cases hh : v_held P k = true
    · rw [if_pos hh, if_pos hh, if_neg one_ne]
    · rw [if_neg hh, if_neg hh, if_pos rfl, X9_openOf hb (by omega), zB1_s, o1, rP hb, zB1_s, X9_get hb (by omega), zB1_s, hpa]
  generalize hm : (if pj_pr_accounts P pi < pj_ce_open P k then pj_pr_accounts P pi else pj_ce_open P k) = s at m0 hm1 hm2
  by_cases hh : v_held P k = true
  · refine ⟨0, pj_pr_accounts P, pj_ce_open P, rows, ?_, fun z acc t => ?_, hR, fun _ _ _ _ => rfl, by decide, by decide, fun _ => ⟨rfl, rfl⟩⟩
    · rw [hm1]
      by_cases c1 : s ≤ (0 : Int64)
      · rw [if_pos c1]
      · rw [if_neg c1, k_isHeldBack hb hR hk, zB1_s, if_pos hh, if_neg one_ne]
    · rw [hm2, if_pos hh, L_add0]
  · obtain ⟨rows', p1, p2, p3⟩ := r_pays hb hR hk ec h8 hpi (rP hb) s
    have hT := Rl_transfer hR hk ec hc epar (s := s) m0.1 m0.2.1 m0.2.2 hB
    rw [← p2] at hT
    have hm3 : ∀ z acc t, f_X9_settles_17 (z + 1) (jI b) rows acc t (jI k) = f_X9_settles_69 (f_X9_settles_17 z) (jI b) rows' (acc + s) t (jI k) := fun z acc t => by
      rw [hm2, if_neg hh, p1, zB1_s]
    by_cases c1 : s ≤ (0 : Int64)
    · have c1' := J_le.mp c1
      rw [J_0] at c1'
      have e0 : s = 0 := Int64.toInt_inj.mp (by rw [J_0]; omega)
      rw [if_pos c1] at hm1
      subst e0
      refine ⟨0, pj_pr_accounts P, pj_ce_open P, rows', hm1, hm3, ?_, p3, by decide, by decide, fun _ => ⟨rfl, rfl⟩⟩
      rw [updL_id (f := pj_pr_accounts P) (k := pi) (Int64.sub_zero _), updL_id (f := pj_pr_accounts P) (k := c + 1) (Int64.add_zero _), updL_id (f := pj_ce_open P) (k := k) (Int64.sub_zero _)] at hT
      exact hT
    · rw [if_neg c1, k_isHeldBack hb hR hk, zB1_s, if_neg hh, if_pos rfl, kT, zB1_s] at hm1
      refine ⟨s, _, _, rows', hm1, hm3, hT, p3, m0.1, by omega, fun z => absurd (show s ≤ (0 : Int64) by rw [z]; decide) c1⟩
/-- all that settling leaves as it is -/
def pk (P : PrT) := (pj_ce_count P, pj_ce_contract P, pj_ce_issued P, pj_ce_due P, pj_co_parent P, pj_co_linked P, pj_co_count P, pj_co_retentionPercent P, pj_co_limitPercent P, pj_co_paymentDays P, pj_co_rank P, pj_co_stage P, pj_pg_threshold P, pj_pg_length P, pj_pg_code P, pj_it_count P, pj_it_first P, pj_it_price P, pj_it_quantity P, pj_it_progress P, pj_va_count P, pj_va_slot P, pj_va_change P, pj_va_approved P, pj_ce_amount P, pj_li_count P, pj_li_contract P, pj_li_amount P, pj_li_filed P, pj_li_withdrawn P, pj_pr_pricing P, pj_pg_clen P)
theorem pk_6 {P Q : PrT} (h : pk Q = pk P) : pj_ce_count Q = pj_ce_count P ∧ pj_ce_contract Q = pj_ce_contract P ∧ pj_ce_issued Q = pj_ce_issued P ∧ pj_ce_due Q = pj_ce_due P ∧ pj_co_parent Q = pj_co_parent P ∧ pj_co_linked Q = pj_co_linked P := by
  unfold pk at h
  simp only [Prod.mk.injEq] at h
  exact ⟨h.1, h.2.1, h.2.2.1, h.2.2.2.1, h.2.2.2.2.1, h.2.2.2.2.2.1⟩
theorem pk_n {P Q : PrT} (h : pk Q = pk P) : nce Q = nce P := by
  unfold nce
  rw [(pk_6 h).1]
theorem day1 {o : Nat → Nat} {ordr : Nat → Int32} (hb : b < 9) (hB : B < 1000000000000) (ho : oS (pj_ce_due P) ordr o (nce P)) : ∀ (m i z z' : Nat) (Q : PrT) (rows : Nat → Int64) (acc : Int64), i + m = nce P → m < z → m < z' → pk Q = pk P → Rl B Q (zrow b rows) → 0 ≤ acc.toInt → acc.toInt ≤ (i : Int) * 1000000000000 → ∃ (s : Int64) (Q' : PrT) (rows' : Nat → Int64), f_X5_settleOneDay_4 z (pj_pr_day P) (pj_pr_accounts Q) (pj_co_parent P) (pj_co_linked P) (pj_ce_count P) (pj_ce_contract P) (pj_ce_open Q) (pj_ce_issued P) (pj_ce_due P) ordr acc (jI i) = some (s, pj_pr_day P + (1 : Int32), pj_pr_accounts Q', pj_ce_open Q') ∧ f_X9_settles_17 z' (jI b) rows acc (pj_pr_day P).toInt64 (nxt (pj_ce_due P) o (nce P) (pj_pr_day P).toInt i) = some (s, vp_updL rows' (2500 * b + 1) ((pj_pr_day P).toInt64 + 1)) ∧ Rl B Q' (zrow b rows') ∧ pk Q' = pk P ∧ (∀ i, i ≠ b → ∀ q, q < 2500 → zrow i rows' q = zrow i rows q) ∧ acc.toInt ≤ s.toInt ∧ s.toInt ≤ (nce P : Int) * 1000000000000 ∧ (s = acc → pj_pr_accounts Q' = pj_pr_accounts Q ∧ pj_ce_open Q' = pj_ce_open Q) := by
  intro m
  induction m with
  | zero =>
    intro i z z' Q rows acc hi hz hz' hk hR c0 c1
    obtain ⟨z, rfl⟩ : ∃ y, z = y + 1 := ⟨z - 1, by omega⟩
    obtain ⟨z', rfl⟩ : ∃ y, z' = y + 1 := ⟨z' - 1, by omega⟩
    obtain ⟨k1, k2, k3, k4, k5, k6⟩ := pk_6 hk
    have hn := pk_n hk
    have hcn : pj_ce_count Q = jI (nce Q) := hR.2.2.2.2.2.1.1
    have h40 : nce Q ≤ 40 := hR.2.2.2.2.2.1.2.1
    rw [k1, hn] at hcn
    rw [hn] at h40
    have ein : i = nce P := by omega
    refine ⟨acc, Q, rows, ?_, ?_, hR, hk, fun _ _ _ _ => rfl, Int.le_refl _, by rw [← ein]; exact c1, fun _ => ⟨rfl, rfl⟩⟩
    · simp only [f_X5_settleOneDay_4]
      rw [hcn, if_pos ((jI_le (by omega) (by omega)).mpr (by omega))]
    · unfold nxt
      rw [if_neg (fun z => by omega)]
      simp only [f_X9_settles_17]
      rw [if_pos trivial, jI_1, X9_put hb (by omega), zB1_s]
  | succ m ih =>
    intro i z z' Q rows acc hi hz hz' hk hR c0 c1
    obtain ⟨z, rfl⟩ : ∃ y, z = y + 1 := ⟨z - 1, by omega⟩
    obtain ⟨k1, k2, k3, k4, k5, k6⟩ := pk_6 hk
    have hn := pk_n hk
    have hcn : pj_ce_count Q = jI (nce Q) := hR.2.2.2.2.2.1.1
    have h40 : nce Q ≤ 40 := hR.2.2.2.2.2.1.2.1
    rw [k1, hn] at hcn
    rw [hn] at h40
    obtain ⟨oi, on⟩ := ho.1 i (by omega)
    have ei : jI i + (1 : Int32) = jI (i + 1) := by rw [jI_1, jI_add]
    have pre : f_X5_settleOneDay_4 (z + 1) (pj_pr_day P) (pj_pr_accounts Q) (pj_co_parent P) (pj_co_linked P) (pj_ce_count P) (pj_ce_contract P) (pj_ce_open Q) (pj_ce_issued P) (pj_ce_due P) ordr acc (jI i) = (if pj_pr_day P < pj_ce_due P (o i) then f_X5_settleOneDay_4 z (pj_pr_day P) (pj_pr_accounts Q) (pj_co_parent P) (pj_co_linked P) (pj_ce_count P) (pj_ce_contract P) (pj_ce_open Q) (pj_ce_issued P) (pj_ce_due P) ordr acc (jI (i + 1)) else zB1 (f_X5_payFromAccount (pj_pr_accounts Q) (pj_co_parent P) (pj_co_linked P) (pj_ce_count P) (pj_ce_contract P) (pj_ce_open Q) (pj_ce_issued P) (jI (o i))) fun q_44 => f_X5_settleOneDay_4 z (pj_pr_day P) q_44.2.1 (pj_co_parent P) (pj_co_linked P) (pj_ce_count P) (pj_ce_contract P) q_44.2.2 (pj_ce_issued P) (pj_ce_due P) ordr (acc + q_44.1) (jI (i + 1))) := by
      simp only [f_X5_settleOneDay_4]
      rw [if_neg (fun z => by rw [hcn] at z; have := (jI_le (by omega) (by omega)).mp z; omega), zR_n (by omega) (by omega), oi, zR_n (by omega) (by omega), ei, zR_n (by omega) (by omega), oi]
    by_cases cd : pj_pr_day P < pj_ce_due P (o i)
    · rw [if_pos cd] at pre
      have cd' := Int32.lt_iff_toInt_lt.mp cd
      have e1 : nxt (pj_ce_due P) o (nce P) (pj_pr_day P).toInt i = nxt (pj_ce_due P) o (nce P) (pj_pr_day P).toInt (i + 1) := by
        unfold nxt
        rw [if_neg (fun z => by omega), if_neg (fun z => by
          have := lxl_le (ho.2.1 i (i + 1) (by omega) z.1)
          omega)]
      rw [pre, e1]
      exact ih (i + 1) z z' Q rows acc (by omega) (by omega) (by omega) hk hR c0 (by omega)
    · rw [if_neg cd] at pre
      have cd' : ¬ (pj_pr_day P).toInt < (pj_ce_due P (o i)).toInt := fun z => cd (Int32.lt_iff_toInt_lt.mpr z)
      obtain ⟨z', rfl⟩ : ∃ y, z' = y + 1 := ⟨z' - 1, by omega⟩
      obtain ⟨s1, A1, O1, rows1, p1, p2, p3, p4, p5, p6, p7⟩ := pay1 (P := Q) hb hB hR (k := o i) (by omega)
      rw [k1, k2, k3, k5, k6] at p1
      obtain ⟨Q1, hQ1⟩ : ∃ Q1, Q1 = Pst Q A1 O1 := ⟨_, rfl⟩
      have q1 : pj_pr_accounts Q1 = A1 := by rw [hQ1]
      have q2 : pj_ce_open Q1 = O1 := by rw [hQ1]
      have q3 : pk Q1 = pk Q := by rw [hQ1]; rfl
      have q4 := q3.trans hk
      rw [← hQ1] at p3
      rw [← q1, ← q2] at p1 p7
      obtain ⟨j1, j2, j3, j4, j5, j6⟩ := pk_6 q4
      have jn := pk_n q4
      have e4 : zrow b rows1 (320 + 5 * o i + 4) = (pj_ce_due Q1 (o i)).toInt64 := (p3.2.2.2.2.2.1.2.2.2 (o i) (by omega)).2.2.2.2.1
      rw [j4] at e4
      obtain ⟨r, er, hr⟩ := r_dueNext hb p3 (pj_ce_due P (o i)) (pj_pr_day P) (jI (o i))
      rw [j4, jn] at hr
      have er' : r = nxt (pj_ce_due P) o (nce P) (pj_pr_day P).toInt (i + 1) := nx_then (by omega) ho (by omega) hr
      subst er'
      have ea := J_add (a := acc) (b := s1) (by omega) (by omega)
      obtain ⟨s, Q', rows', g1, g2, g3, gk, g4, g5, g6, g7⟩ := ih (i + 1) z z' Q1 rows1 (acc + s1) (by omega) (by omega) (by omega) q4 p3 (by omega) (by omega)
      refine ⟨s, Q', rows', ?_, ?_, g3, gk, fun i hi q hq => (g4 i hi q hq).trans (p4 i hi q hq), by omega, g6, fun hs => ?_⟩
      · rw [pre, p1, zB1_s]
        exact g1
      · have e0 : nxt (pj_ce_due P) o (nce P) (pj_pr_day P).toInt i = jI (o i) := by
          unfold nxt
          rw [if_pos ⟨by omega, by omega⟩]
        rw [e0, p2]
        unfold f_X9_settles_69
        rw [X9_bill, zB1_s, jI_4, jI_add, X9_get hb (by omega), zB1_s, e4, er, zB1_s]
        exact g2
      · have e1 : s1 = 0 := Int64.toInt_inj.mp (by rw [J_0]; rw [hs] at g5; omega)
        obtain ⟨y1, y2⟩ := p7 e1
        have e2 : s = acc + s1 := by rw [hs, e1, L_add0]
        obtain ⟨y3, y4⟩ := g7 e2
        exact ⟨y3.trans y1, y4.trans y2⟩
/-- a day of both -/
theorem day_all {o : Nat → Nat} {ordr : Nat → Int32} (hb : b < 9) (hB : B < 1000000000000) (ho : oS (pj_ce_due P) ordr o (nce P)) (hR : Rl B P (zrow b rows)) (hd : (pj_pr_day P).toInt + 1 ≤ dB B) : ∃ (s : Int64) (Q : PrT) (rows' : Nat → Int64), f_X5_settleOneDay (pj_pr_day P) (pj_pr_accounts P) (pj_co_parent P) (pj_co_linked P) (pj_ce_count P) (pj_ce_contract P) (pj_ce_open P) (pj_ce_issued P) (pj_ce_due P) ordr = some (s, pj_pr_day P + (1 : Int32), pj_pr_accounts Q, pj_ce_open Q) ∧ f_X9_settles (jI b) rows = some (s, rows') ∧ Rl B Q (zrow b rows') ∧ pk Q = pk P ∧ pj_pr_day Q = pj_pr_day P + (1 : Int32) ∧ (∀ i, i ≠ b → ∀ q, q < 2500 → zrow i rows' q = zrow i rows q) ∧ (s = 0 → pj_pr_accounts Q = pj_pr_accounts P ∧ pj_ce_open Q = pj_ce_open P) := by
  have h40 := hR.2.2.2.2.2.1.2.1
  have dh := dB_hi B
  obtain ⟨d1, d2, d3⟩ := hR.1
  have e1 : (1 : Int32).toInt = 1 := rfl
  obtain ⟨r, er, hr⟩ := r_dueNext hb hR 0 (pj_pr_day P) (-1)
  have er' : r = nxt (pj_ce_due P) o (nce P) (pj_pr_day P).toInt 0 := nx_first ho (fun k hk => (hR.2.2.2.2.2.1.2.2.2 k hk).2.2.2.2.2.1) hr
  subst er'
  have hfu := FU_k
  obtain ⟨s, Q', rows', g1, g2, g3, gk, g4, g5, g6, g7⟩ := day1 (P := P) hb hB ho (nce P) 0 FU FU P rows 0 (by omega) (Nat.lt_of_le_of_lt h40 (Nat.lt_trans (by omega) hfu)) (Nat.lt_of_le_of_lt h40 (Nat.lt_trans (by omega) hfu)) rfl hR (by decide) (by decide)
  have ead := I_add (a := pj_pr_day P) (b := (1 : Int32)) (by omega) (by omega)
  refine ⟨s, ps_pr_day Q' (pj_pr_day P + (1 : Int32)), vp_updL rows' (2500 * b + 1) ((pj_pr_day P).toInt64 + 1), g1, ?_, ?_, gk, rfl, fun i hi q hq => (put_o (k := 1) (by omega) i hi q hq).trans (g4 i hi q hq), fun hs => g7 hs⟩
  · unfold f_X9_settles
    rw [jI_1, X9_get hb (by omega), zB1_s, d1]
    exact (congrArg (fun x => zB1 x _) er).trans g2
  · rw [zrow_put]
    have := Rl_day g3 (v := pj_pr_day P + (1 : Int32)) (by omega) (by omega)
    rw [C_add (by omega) (by omega)] at this
    exact this
/-- the class's day, where the same certificates are due -/
theorem sod_day {n : Nat} {A0 : Nat → Int64} {d d' : Int32} {par lnk con iss due ordr : Nat → Int32} (hn : n ≤ 40) (ho : ∀ i, i < n → ∃ k, k < n ∧ ordr i = jI k) (h : ∀ k, k < n → (d < due k ↔ d' < due k)) : ∀ (z i : Nat) (A O : Nat → Int64) (acc : Int64) (r : Int64 × Int32 × (Nat → Int64) × (Nat → Int64)), i ≤ n → f_X5_settleOneDay_4 z d A par lnk (jI n) con O iss due ordr acc (jI i) = some r → f_X5_settleOneDay_4 z d' A par lnk (jI n) con O iss due ordr acc (jI i) = some (r.1, d' + (1 : Int32), r.2.2) := by
  intro z
  induction z with
  | zero =>
    intro i A O acc r hi hf
    simp only [f_X5_settleOneDay_4] at hf
    exact absurd hf (by simp)
  | succ z ih =>
    intro i A O acc r hi hf
    simp only [f_X5_settleOneDay_4] at hf ⊢
    by_cases c : i = n
    · have c' : jI n ≤ jI i := (jI_le (by omega) (by omega)).mpr (by omega)
      rw [if_pos c'] at hf ⊢
      rw [← Option.some.inj hf]
    · have c' : ¬ jI n ≤ jI i := fun z => by have := (jI_le (by omega) (by omega)).mp z; omega
      have ei : jI i + (1 : Int32) = jI (i + 1) := by rw [jI_1, jI_add]
      obtain ⟨k, hk, ek⟩ := ho i (by omega)
      rw [if_neg c', zR_n (by omega) (by omega), ek, zR_n (by omega) (by omega), ei, zR_n (by omega) (by omega), ek] at hf ⊢
      by_cases cd : d < due k
      · rw [if_pos cd] at hf
        rw [if_pos ((h k hk).mp cd)]
        exact ih (i + 1) A O acc r (by omega) hf
      · rw [if_neg cd] at hf
        rw [if_neg (fun z => cd ((h k hk).mpr z))]
        revert hf
        cases f_X5_payFromAccount A par lnk (jI n) con O iss (jI k) with
        | none => intro hf; exact absurd hf (by simp [zB1])
        | some v =>
          intro hf
          rw [zB1_s] at hf ⊢
          exact ih (i + 1) _ _ _ r (by omega) hf
end SETT
