/-! layer 3: copying a state -/
def Ag (P' P : PrT) : Prop :=
  (pj_pr_day P' = pj_pr_day P ∧ ∀ k, k < 9 → pj_pr_accounts P' k = pj_pr_accounts P k) ∧
  (pj_co_count P' = pj_co_count P ∧ ∀ c, c < nco P → pj_co_parent P' c = pj_co_parent P c ∧ pj_co_retentionPercent P' c = pj_co_retentionPercent P c ∧ pj_co_limitPercent P' c = pj_co_limitPercent P c ∧ pj_co_paymentDays P' c = pj_co_paymentDays P c ∧ pj_co_rank P' c = pj_co_rank P c ∧ pj_co_linked P' c = pj_co_linked P c ∧ pj_co_stage P' c = pj_co_stage P c) ∧
  (pgT P' = pgT P) ∧
  ((∀ c, c < 8 → pj_it_count P' c = pj_it_count P c) ∧ ∀ s, s < 48 → pj_it_first P' s = pj_it_first P s ∧ pj_it_price P' s = pj_it_price P s ∧ pj_it_quantity P' s = pj_it_quantity P s ∧ pj_it_progress P' s = pj_it_progress P s) ∧
  (pj_va_count P' = pj_va_count P ∧ ∀ v, v < nva P → pj_va_slot P' v = pj_va_slot P v ∧ pj_va_change P' v = pj_va_change P v ∧ pj_va_approved P' v = pj_va_approved P v) ∧
  (pj_ce_count P' = pj_ce_count P ∧ ∀ k, k < nce P → pj_ce_contract P' k = pj_ce_contract P k ∧ pj_ce_amount P' k = pj_ce_amount P k ∧ pj_ce_open P' k = pj_ce_open P k ∧ pj_ce_issued P' k = pj_ce_issued P k ∧ pj_ce_due P' k = pj_ce_due P k) ∧
  (pj_li_count P' = pj_li_count P ∧ ∀ k, k < nli P → pj_li_contract P' k = pj_li_contract P k ∧ pj_li_amount P' k = pj_li_amount P k ∧ pj_li_filed P' k = pj_li_filed P k ∧ pj_li_withdrawn P' k = pj_li_withdrawn P k)
theorem kD_congr {c c' : Nat → Int32} : ∀ n, (∀ j, j < n → c' j = c j) → kD c' n = kD c n
  | 0, _ => rfl
  | n + 1, h => by
    show (kD c' n).bind _ = (kD c n).bind _
    rw [kD_congr n (fun j hj => h j (by omega)), h n (by omega)]
theorem aS_congr {f g : Nat → Int64} : ∀ n, (∀ k, k < n → f k = g k) → aS f n = aS g n
  | 0, _ => rfl
  | n + 1, h => by
    show aS f n + (f n).toInt = aS g n + (g n).toInt
    rw [aS_congr n (fun k hk => h k (by omega)), h n (by omega)]
theorem Rl_ag {B : Int} {P P' : PrT} {R : Nat → Int64} (hA : Ag P' P) (hR : Rl B P R) : Rl B P' R := by
  obtain ⟨⟨d1, d2⟩, ⟨c1, c2⟩, tt, ⟨i1, i2⟩, ⟨v1, v2⟩, ⟨b1, b2⟩, ⟨l1, l2⟩⟩ := hA
  obtain ⟨gD0, gT0, gC0, gI0, gV0, gB0, gL0, gA0, gK0⟩ := hR
  have t1 : pj_pg_threshold P' = pj_pg_threshold P := congrArg (fun T : PgT => T.2.1) tt
  have t2 : pj_pg_length P' = pj_pg_length P := congrArg (fun T : PgT => T.2.2.1) tt
  have t4 : pj_pg_clen P' = pj_pg_clen P := congrArg (fun T : PgT => T.2.2.2.1) tt
  have t3 : pj_pg_code P' = pj_pg_code P := congrArg (fun T : PgT => T.2.2.2.2) tt
  have nc : nco P' = nco P := by unfold nco; rw [c1]
  have nv : nva P' = nva P := by unfold nva; rw [v1]
  have nb : nce P' = nce P := by unfold nce; rw [b1]
  have nl : nli P' = nli P := by unfold nli; rw [l1]
  have np : npg P' = npg P := by unfold npg; rw [t2]
  have ni : ∀ c, c < 8 → nit P' c = nit P c := fun c hc => by unfold nit; rw [i1 c hc]
  have h8 := gC0.2.1
  refine ⟨?_, ?_, ?_, ?_, ?_, ?_, ?_, ?_, ?_⟩
  · unfold gD
    rw [d1]
    exact gD0
  · unfold gT
    rw [t1]
    exact gT0
  · unfold gC
    rw [nc, c1]
    refine ⟨gC0.1, gC0.2.1, gC0.2.2.1, fun c hc => ?_⟩
    obtain ⟨x1, x2, x3, x4, x5, x6, x7⟩ := c2 c hc
    rw [x1, x2, x3, x4, x5, x6, x7]
    exact gC0.2.2.2 c hc
  · intro c hc
    rw [nc] at hc
    rw [ni c (by omega), i1 c (by omega)]
    refine ⟨(gI0 c hc).1, fun i hi => ?_⟩
    have h6 := (gI0 c hc).1.2.1
    obtain ⟨x1, x2, x3, x4⟩ := i2 (c * 6 + i) (by omega)
    rw [x1, x2, x3, x4, nv, qS_congr (nva P) (fun v hv => ⟨(v2 v hv).1, (v2 v hv).2.2, (v2 v hv).2.1⟩)]
    exact (gI0 c hc).2 i hi
  · unfold gV
    rw [nv, v1, nc]
    refine ⟨gV0.1, gV0.2.1, gV0.2.2.1, fun v hv => ?_⟩
    obtain ⟨⟨c, i, hc, hi, y⟩, z⟩ := gV0.2.2.2 v hv
    obtain ⟨x1, x2, x3⟩ := v2 v hv
    rw [x1, x2, x3]
    exact ⟨⟨c, i, hc, by rw [ni c (by omega)]; exact hi, y⟩, z⟩
  · unfold gB
    rw [nb, b1, nc]
    refine ⟨gB0.1, gB0.2.1, gB0.2.2.1, fun k hk => ?_⟩
    obtain ⟨x1, x2, x3, x4, x5⟩ := b2 k hk
    rw [x1, x2, x3, x4, x5]
    exact gB0.2.2.2 k hk
  · unfold gL
    rw [nl, l1, nc]
    refine ⟨gL0.1, gL0.2.1, gL0.2.2.1, fun k hk => ?_⟩
    obtain ⟨x1, x2, x3, x4⟩ := l2 k hk
    rw [x1, x2, x3, x4]
    exact gL0.2.2.2 k hk
  · refine ⟨fun k hk => ?_, ?_⟩
    · rw [d2 k hk]
      exact gA0.1 k hk
    · rw [aS_congr 9 d2]
      exact gA0.2
  · unfold gK
    rw [np, t2, t3, t4]
    exact gK0
/-! the copying itself -/
theorem cpy0 {α : Type} {f g : Nat → α} {m k : Nat} (h : k < m) : va_cpy f g 0 0 m k = f k := by
  unfold va_cpy
  rw [if_pos ⟨by omega, by omega⟩]
  congr 1
  omega
theorem zCi_n {β : Type} {n0 n1 m : Nat} {f g : Nat → Int32} {K : (Nat → Int32) → Option β} (h0 : m ≤ n0) (h1 : m ≤ n1) (hm : m < 2147483648) : zCi n0 n1 f g (0 : Int32) (0 : Int32) (jI m) K = K (va_cpy f g 0 0 m) := by
  unfold zCi
  rw [jI_nat hm, show (0 : Int32).toNatClampNeg = 0 from rfl, if_neg]
  rintro (z | z | z | z | z)
  · exact absurd z (by decide)
  · exact absurd z (by decide)
  · have e := Int32.lt_iff_toInt_lt.mp z
    rw [jI_toInt hm, show (0 : Int32).toInt = 0 from rfl] at e
    omega
  · omega
  · omega
theorem zCl_n {β : Type} {n0 n1 m : Nat} {f g : Nat → Int64} {K : (Nat → Int64) → Option β} (h0 : m ≤ n0) (h1 : m ≤ n1) (hm : m < 2147483648) : zCl n0 n1 f g (0 : Int32) (0 : Int32) (jI m) K = K (va_cpy f g 0 0 m) := by
  unfold zCl
  rw [jI_nat hm, show (0 : Int32).toNatClampNeg = 0 from rfl, if_neg]
  rintro (z | z | z | z | z)
  · exact absurd z (by decide)
  · exact absurd z (by decide)
  · have e := Int32.lt_iff_toInt_lt.mp z
    rw [jI_toInt hm, show (0 : Int32).toInt = 0 from rfl] at e
    omega
  · omega
  · omega
theorem nar01 {x : Int32} (h : x = 0 ∨ x = 1) : vp_nar .boolean x = x := by
  rcases h with h | h <;> subst h <;> rfl
theorem k_copy1 {n : Nat} (hn : n ≤ 8) {a b c d e l s a' b' c' d' e' l' s' : Nat → Int32} {cn : Int32} (hl : ∀ k, k < n → l' k = 0 ∨ l' k = 1) : ∃ l2 : Nat → Int32, f_X1_copyFrom cn a b c d e l s (jI n) a' b' c' d' e' l' s' = some (jI n, va_cpy a' a 0 0 n, va_cpy b' b 0 0 n, va_cpy c' c 0 0 n, va_cpy d' d 0 0 n, va_cpy e' e 0 0 n, l2, va_cpy s' s 0 0 n) ∧ ∀ k, k < n → l2 k = l' k := by
  unfold f_X1_copyFrom
  have hfu := FU_k
  generalize FU = fu at hfu ⊢
  simp (disch := omega) only [zCi_n]
  have key : ∀ (A B C D E : Nat → Int32) (m k z : Nat) (L : Nat → Int32), k + m = n → m < z → (∀ j, j < k → L j = l' j) → ∃ l2 : Nat → Int32, f_X1_copyFrom_95 z (jI n) A B C D E L s l' s' (jI k) = some (jI n, A, B, C, D, E, l2, va_cpy s' s 0 0 n) ∧ ∀ k, k < n → l2 k = l' k := by
    intro A B C D E m
    induction m with
    | zero =>
      intro k z L hk hz hL
      obtain ⟨z, rfl⟩ : ∃ z', z = z' + 1 := ⟨z - 1, by omega⟩
      refine ⟨L, ?_, fun j hj => hL j (by omega)⟩
      simp (disch := omega) only [f_X1_copyFrom_95, zCi_n]
      rw [if_pos (by rw [jI_le (by omega) (by omega)]; omega)]
    | succ m ih =>
      intro k z L hk hz hL
      obtain ⟨z, rfl⟩ : ∃ z', z = z' + 1 := ⟨z - 1, by omega⟩
      obtain ⟨l2, g1, g2⟩ := ih (k + 1) z (upd L k (l' k)) (by omega) (by omega) (fun j hj => by
        by_cases h : j = k
        · subst h
          rw [upd_same]
        · rw [upd_ne h]
          exact hL j (by omega))
      refine ⟨l2, ?_, g2⟩
      simp only [f_X1_copyFrom_95]
      rw [if_neg (by rw [jI_le (by omega) (by omega)]; omega), zR_n (by omega) (by omega), zSi_n (by omega) (by omega), nar01 (hl k (by omega)), jI_1, jI_add, g1]
  have := key (va_cpy a' a 0 0 n) (va_cpy b' b 0 0 n) (va_cpy c' c 0 0 n) (va_cpy d' d 0 0 n) (va_cpy e' e 0 0 n) n 0 fu l (by omega) (by omega) (fun j hj => by omega)
  exact this
theorem k_copy7 {n : Nat} (hn : n ≤ 20) {a b l a' b' l' : Nat → Int32} {cn : Int32} (hl : ∀ k, k < n → l' k = 0 ∨ l' k = 1) : ∃ l2 : Nat → Int32, f_X7_copyFrom cn a b l (jI n) a' b' l' = some (jI n, va_cpy a' a 0 0 n, va_cpy b' b 0 0 n, l2) ∧ ∀ k, k < n → l2 k = l' k := by
  unfold f_X7_copyFrom
  have hfu := FU_k
  generalize FU = fu at hfu ⊢
  simp (disch := omega) only [zCi_n]
  have key : ∀ (A B : Nat → Int32) (m k z : Nat) (L : Nat → Int32), k + m = n → m < z → (∀ j, j < k → L j = l' j) → ∃ l2 : Nat → Int32, f_X7_copyFrom_44 z (jI n) A B L l' (jI k) = some (jI n, A, B, l2) ∧ ∀ k, k < n → l2 k = l' k := by
    intro A B m
    induction m with
    | zero =>
      intro k z L hk hz hL
      obtain ⟨z, rfl⟩ : ∃ z', z = z' + 1 := ⟨z - 1, by omega⟩
      refine ⟨L, ?_, fun j hj => hL j (by omega)⟩
      simp only [f_X7_copyFrom_44]
      rw [if_pos (by rw [jI_le (by omega) (by omega)]; omega)]
    | succ m ih =>
      intro k z L hk hz hL
      obtain ⟨z, rfl⟩ : ∃ z', z = z' + 1 := ⟨z - 1, by omega⟩
      obtain ⟨l2, g1, g2⟩ := ih (k + 1) z (upd L k (l' k)) (by omega) (by omega) (fun j hj => by
        by_cases h : j = k
        · subst h
          rw [upd_same]
        · rw [upd_ne h]
          exact hL j (by omega))
      refine ⟨l2, ?_, g2⟩
      simp only [f_X7_copyFrom_44]
      rw [if_neg (by rw [jI_le (by omega) (by omega)]; omega), zR_n (by omega) (by omega), zSi_n (by omega) (by omega), nar01 (hl k (by omega)), jI_1, jI_add, g1]
  exact key (va_cpy a' a 0 0 n) (va_cpy b' b 0 0 n) n 0 fu l (by omega) (by omega) (fun j hj => by omega)
theorem k_copy3 {n : Nat} (hn : n ≤ 12) {a d l a' d' l' : Nat → Int32} {b b' : Nat → Int64} {cn : Int32} (hl : ∀ k, k < n → l' k = 0 ∨ l' k = 1) : ∃ l2 : Nat → Int32, f_X3_copyFrom cn a b d l (jI n) a' b' d' l' = some (jI n, va_cpy a' a 0 0 n, va_cpy b' b 0 0 n, va_cpy d' d 0 0 n, l2) ∧ ∀ k, k < n → l2 k = l' k := by
  unfold f_X3_copyFrom
  have hfu := FU_k
  generalize FU = fu at hfu ⊢
  simp (disch := omega) only [zCi_n, zCl_n]
  have key : ∀ (A D : Nat → Int32) (B : Nat → Int64) (m k z : Nat) (L : Nat → Int32), k + m = n → m < z → (∀ j, j < k → L j = l' j) → ∃ l2 : Nat → Int32, f_X3_copyFrom_61 z (jI n) A B D L l' (jI k) = some (jI n, A, B, D, l2) ∧ ∀ k, k < n → l2 k = l' k := by
    intro A D B m
    induction m with
    | zero =>
      intro k z L hk hz hL
      obtain ⟨z, rfl⟩ : ∃ z', z = z' + 1 := ⟨z - 1, by omega⟩
      refine ⟨L, ?_, fun j hj => hL j (by omega)⟩
      simp only [f_X3_copyFrom_61]
      rw [if_pos (by rw [jI_le (by omega) (by omega)]; omega)]
    | succ m ih =>
      intro k z L hk hz hL
      obtain ⟨z, rfl⟩ : ∃ z', z = z' + 1 := ⟨z - 1, by omega⟩
      obtain ⟨l2, g1, g2⟩ := ih (k + 1) z (upd L k (l' k)) (by omega) (by omega) (fun j hj => by
        by_cases h : j = k
        · subst h
          rw [upd_same]
        · rw [upd_ne h]
          exact hL j (by omega))
      refine ⟨l2, ?_, g2⟩
      simp only [f_X3_copyFrom_61]
      rw [if_neg (by rw [jI_le (by omega) (by omega)]; omega), zR_n (by omega) (by omega), zSi_n (by omega) (by omega), nar01 (hl k (by omega)), jI_1, jI_add, g1]
  exact key (va_cpy a' a 0 0 n) (va_cpy d' d 0 0 n) (va_cpy b' b 0 0 n) n 0 fu l (by omega) (by omega) (fun j hj => by omega)
theorem zCi_e {β : Type} {n0 n1 m : Nat} {f g : Nat → Int32} {K : (Nat → Int32) → Option β} {x : Int32} (e : x = jI m) (h0 : m ≤ n0) (h1 : m ≤ n1) (hm : m < 2147483648) : zCi n0 n1 f g (0 : Int32) (0 : Int32) x K = K (va_cpy f g 0 0 m) := by
  rw [e]
  exact zCi_n h0 h1 hm
theorem zCl_e {β : Type} {n0 n1 m : Nat} {f g : Nat → Int64} {K : (Nat → Int64) → Option β} {x : Int32} (e : x = jI m) (h0 : m ≤ n0) (h1 : m ≤ n1) (hm : m < 2147483648) : zCl n0 n1 f g (0 : Int32) (0 : Int32) x K = K (va_cpy f g 0 0 m) := by
  rw [e]
  exact zCl_n h0 h1 hm
theorem k_copy {B : Int} {P : PrT} {R : Nat → Int64} (D : PrT) (hR : Rl B P R) : ∃ q, f_X5_copyFrom (pj_pr_day D) (pj_pr_accounts D) (pj_co_count D) (pj_co_parent D) (pj_co_retentionPercent D) (pj_co_limitPercent D) (pj_co_paymentDays D) (pj_co_rank D) (pj_co_linked D) (pj_co_stage D) (pj_it_count D) (pj_it_first D) (pj_it_price D) (pj_it_quantity D) (pj_it_progress D) (pj_va_count D) (pj_va_slot D) (pj_va_change D) (pj_va_approved D) (pj_ce_count D) (pj_ce_contract D) (pj_ce_amount D) (pj_ce_open D) (pj_ce_issued D) (pj_ce_due D) (pj_li_count D) (pj_li_contract D) (pj_li_amount D) (pj_li_filed D) (pj_li_withdrawn D) (pj_pr_day P) (pj_pr_accounts P) (pj_co_count P) (pj_co_parent P) (pj_co_retentionPercent P) (pj_co_limitPercent P) (pj_co_paymentDays P) (pj_co_rank P) (pj_co_linked P) (pj_co_stage P) (pj_it_count P) (pj_it_first P) (pj_it_price P) (pj_it_quantity P) (pj_it_progress P) (pj_va_count P) (pj_va_slot P) (pj_va_change P) (pj_va_approved P) (pj_ce_count P) (pj_ce_contract P) (pj_ce_amount P) (pj_ce_open P) (pj_ce_issued P) (pj_ce_due P) (pj_li_count P) (pj_li_contract P) (pj_li_amount P) (pj_li_filed P) (pj_li_withdrawn P) = some q ∧ Ag (pm_0 D q.1 q.2.1 q.2.2.1 q.2.2.2.1 q.2.2.2.2.1 q.2.2.2.2.2.1 q.2.2.2.2.2.2.1 q.2.2.2.2.2.2.2.1 q.2.2.2.2.2.2.2.2.1 q.2.2.2.2.2.2.2.2.2.1 q.2.2.2.2.2.2.2.2.2.2.1 q.2.2.2.2.2.2.2.2.2.2.2.1 q.2.2.2.2.2.2.2.2.2.2.2.2.1 q.2.2.2.2.2.2.2.2.2.2.2.2.2.1 q.2.2.2.2.2.2.2.2.2.2.2.2.2.2.1 q.2.2.2.2.2.2.2.2.2.2.2.2.2.2.2.1 q.2.2.2.2.2.2.2.2.2.2.2.2.2.2.2.2.1 q.2.2.2.2.2.2.2.2.2.2.2.2.2.2.2.2.2.1 q.2.2.2.2.2.2.2.2.2.2.2.2.2.2.2.2.2.2.1 q.2.2.2.2.2.2.2.2.2.2.2.2.2.2.2.2.2.2.2.1 q.2.2.2.2.2.2.2.2.2.2.2.2.2.2.2.2.2.2.2.2.1 q.2.2.2.2.2.2.2.2.2.2.2.2.2.2.2.2.2.2.2.2.2.1 q.2.2.2.2.2.2.2.2.2.2.2.2.2.2.2.2.2.2.2.2.2.2.1 q.2.2.2.2.2.2.2.2.2.2.2.2.2.2.2.2.2.2.2.2.2.2.2.1 q.2.2.2.2.2.2.2.2.2.2.2.2.2.2.2.2.2.2.2.2.2.2.2.2.1 q.2.2.2.2.2.2.2.2.2.2.2.2.2.2.2.2.2.2.2.2.2.2.2.2.2.1 q.2.2.2.2.2.2.2.2.2.2.2.2.2.2.2.2.2.2.2.2.2.2.2.2.2.2.1 q.2.2.2.2.2.2.2.2.2.2.2.2.2.2.2.2.2.2.2.2.2.2.2.2.2.2.2.1 q.2.2.2.2.2.2.2.2.2.2.2.2.2.2.2.2.2.2.2.2.2.2.2.2.2.2.2.2.1 q.2.2.2.2.2.2.2.2.2.2.2.2.2.2.2.2.2.2.2.2.2.2.2.2.2.2.2.2.2 (pj_pr_pricing P) (pj_pg_threshold P) (pj_pg_length P) (pj_pg_clen P) (pj_pg_code P)) P := by
  obtain ⟨-, -, ⟨c1, c2, -, c3⟩, -, ⟨v1, v2, -, v3⟩, ⟨b1, b2, -, -⟩, ⟨l1, l2, -, l3⟩, -, -⟩ := hR
  obtain ⟨L1, g1, g1'⟩ := k_copy1 (cn := pj_co_count D) c2 (a := pj_co_parent D) (b := pj_co_retentionPercent D) (c := pj_co_limitPercent D) (d := pj_co_paymentDays D) (e := pj_co_rank D) (l := pj_co_linked D) (s := pj_co_stage D) (a' := pj_co_parent P) (b' := pj_co_retentionPercent P) (c' := pj_co_limitPercent P) (d' := pj_co_paymentDays P) (e' := pj_co_rank P) (l' := pj_co_linked P) (s' := pj_co_stage P) (fun k hk => I_01 (c3 k hk).2.2.2.2.2.1.2.1 (c3 k hk).2.2.2.2.2.1.2.2)
  obtain ⟨L2, g2, g2'⟩ := k_copy7 (cn := pj_va_count D) v2 (a := pj_va_slot D) (b := pj_va_change D) (l := pj_va_approved D) (a' := pj_va_slot P) (b' := pj_va_change P) (l' := pj_va_approved P) (fun k hk => I_01 (v3 k hk).2.2.2.1 (v3 k hk).2.2.2.2)
  obtain ⟨L3, g3, g3'⟩ := k_copy3 (cn := pj_li_count D) l2 (a := pj_li_contract D) (b := pj_li_amount D) (d := pj_li_filed D) (l := pj_li_withdrawn D) (a' := pj_li_contract P) (b' := pj_li_amount P) (d' := pj_li_filed P) (l' := pj_li_withdrawn P) (fun k hk => I_01 (l3 k hk).2.2.2.2.1 (l3 k hk).2.2.2.2.2)
  rw [← c1] at g1
  rw [← v1] at g2
  rw [← l1] at g3
  refine ⟨((pj_pr_day P), va_cpy (pj_pr_accounts P) (pj_pr_accounts D) 0 0 9, (pj_co_count P), va_cpy (pj_co_parent P) (pj_co_parent D) 0 0 (nco P), va_cpy (pj_co_retentionPercent P) (pj_co_retentionPercent D) 0 0 (nco P), va_cpy (pj_co_limitPercent P) (pj_co_limitPercent D) 0 0 (nco P), va_cpy (pj_co_paymentDays P) (pj_co_paymentDays D) 0 0 (nco P), va_cpy (pj_co_rank P) (pj_co_rank D) 0 0 (nco P), L1, va_cpy (pj_co_stage P) (pj_co_stage D) 0 0 (nco P), va_cpy (pj_it_count P) (pj_it_count D) 0 0 8, va_cpy (pj_it_first P) (pj_it_first D) 0 0 48, va_cpy (pj_it_price P) (pj_it_price D) 0 0 48, va_cpy (pj_it_quantity P) (pj_it_quantity D) 0 0 48, va_cpy (pj_it_progress P) (pj_it_progress D) 0 0 48, (pj_va_count P), va_cpy (pj_va_slot P) (pj_va_slot D) 0 0 (nva P), va_cpy (pj_va_change P) (pj_va_change D) 0 0 (nva P), L2, (pj_ce_count P), va_cpy (pj_ce_contract P) (pj_ce_contract D) 0 0 (nce P), va_cpy (pj_ce_amount P) (pj_ce_amount D) 0 0 (nce P), va_cpy (pj_ce_open P) (pj_ce_open D) 0 0 (nce P), va_cpy (pj_ce_issued P) (pj_ce_issued D) 0 0 (nce P), va_cpy (pj_ce_due P) (pj_ce_due D) 0 0 (nce P), (pj_li_count P), va_cpy (pj_li_contract P) (pj_li_contract D) 0 0 (nli P), va_cpy (pj_li_amount P) (pj_li_amount D) 0 0 (nli P), va_cpy (pj_li_filed P) (pj_li_filed D) 0 0 (nli P), L3), ?_, ?_⟩
  · unfold f_X5_copyFrom f_X2_copyFrom f_X0_copyFrom
    rw [zCl_e (show (9 : Int32) = jI 9 from rfl) (by omega) (by omega) (by omega), g1, zB1_s, zCi_e (show (8 : Int32) = jI 8 from rfl) (by omega) (by omega) (by omega)]
    simp (disch := omega) only [zCi_e (show (48 : Int32) = jI 48 from rfl), zB1_s, g2, zCi_e b1, zCl_e b1, g3]
  · refine ⟨⟨rfl, fun k hk => cpy0 hk⟩, ⟨rfl, fun c hc => ⟨cpy0 hc, cpy0 hc, cpy0 hc, cpy0 hc, cpy0 hc, g1' c hc, cpy0 hc⟩⟩, rfl, ⟨fun c hc => cpy0 hc, fun s hs => ⟨cpy0 hs, cpy0 hs, cpy0 hs, cpy0 hs⟩⟩, ⟨rfl, fun v hv => ⟨cpy0 hv, cpy0 hv, g2' v hv⟩⟩, ⟨rfl, fun k hk => ⟨cpy0 hk, cpy0 hk, cpy0 hk, cpy0 hk, cpy0 hk⟩⟩, ⟨rfl, fun k hk => ⟨cpy0 hk, cpy0 hk, cpy0 hk, g3' k hk⟩⟩⟩
