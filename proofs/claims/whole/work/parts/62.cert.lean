/-! layer 3: certificates -/
section CERT
variable {B : Int} {P : PrT} {b : Nat} {rows : Nat → Int64}
abbrev g_cert (P : PrT) (x : Int32) : Nat → Int64 := fun k => if pj_ce_contract P k = x then pj_ce_amount P k else 0
abbrev g_unp (P : PrT) (x : Int32) : Nat → Int64 := fun k => if pj_ce_contract P k = x then pj_ce_open P k else 0
abbrev g_ovd (P : PrT) (x d : Int32) : Nat → Int64 := fun k => if pj_ce_contract P k = x then (if d ≤ pj_ce_due P k then 0 else pj_ce_open P k) else 0
abbrev g_btw (P : PrT) (x y : Int32) : Nat → Int64 := fun k => if pj_ce_due P k < x then 0 else if y < pj_ce_due P k then 0 else pj_ce_open P k
abbrev p_held (P : PrT) (x d : Int32) : Nat → Bool := fun k => decide (pj_ce_contract P k = x) && (decide (¬ pj_ce_open P k ≤ 0) && decide (¬ d < pj_ce_issued P k))
def v_cert (P : PrT) (x : Int32) : Int64 := sS (g_cert P x) 0 (nce P)
def v_unp (P : PrT) (x : Int32) : Int64 := sS (g_unp P x) 0 (nce P)
def v_ovd (P : PrT) (x d : Int32) : Int64 := sS (g_ovd P x d) 0 (nce P)
def v_btw (P : PrT) (x y : Int32) : Int64 := sS (g_btw P x y) 0 (nce P)
def v_open (P : PrT) (x d : Int32) : Bool := sE (p_held P x d) 0 (nce P)
theorem L_0add (x : Int64) : 0 + x = x := Int64.zero_add x
theorem r_zero_S {α : Type} {F : Nat → Int64 → Int32 → Option α} {n : Nat} {g : Nat → Int64} {post : Int64 → Option α} {fu : Nat} (hfu : 1000 < fu) (hn : n < 1000) (h1 : ∀ z acc, F (z + 1) acc (jI n) = post acc) (h2 : ∀ z acc k, k < n → F (z + 1) acc (jI k) = F z (acc + g k) (jI (k + 1))) : F fu 0 0 = post (sS g 0 n) := by
  have h := lo_S h1 h2 n 0 fu 0 (by omega) (by omega)
  rw [L_0add] at h
  exact h
theorem r_zero_E {F : Nat → Int32 → Option Int32} {n : Nat} {p : Nat → Bool} {fu : Nat} (hfu : 1000 < fu) (hn : n < 1000) (h1 : ∀ z, F (z + 1) (jI n) = some 0) (h2 : ∀ z k, k < n → F (z + 1) (jI k) = if p k = true then some 1 else F z (jI (k + 1)))   : F fu 0 = some (if sE p 0 n = true then 1 else 0) := lo_E h1 h2 n 0 fu (by omega) (by omega)
theorem r_zero_N {α : Type} {F : Nat → Int32 → Int32 → Option α} {n : Nat} {p : Nat → Bool} {post : Int32 → Option α} {fu : Nat} (hfu : 1000 < fu) (hn : n < 1000) (h1 : ∀ z acc, F (z + 1) acc (jI n) = post acc) (h2 : ∀ z a k, k < n → F (z + 1) (jI a) (jI k) = F z (jI (a + if p k = true then 1 else 0)) (jI (k + 1))) : F fu 0 0 = post (jI (sN p 0 n)) := by
  have h := lo_N h1 h2 n 0 fu 0 (by omega) (by omega)
  rw [Nat.zero_add] at h
  exact h
theorem r_certifiedOf (hb : b < 9) (hR : Rl B P (zrow b rows)) (x : Int32) : f_X9_certifiedOf (jI b) rows x = some (v_cert P x) := by
  obtain ⟨-, hn, h5, hq⟩ := hR.2.2.2.2.2.1
  unfold f_X9_certifiedOf
  have hfu := FU_k
  generalize FU = fu at hfu ⊢
  refine r_zero_S (F := fun z acc k => f_X9_certifiedOf_5 z (jI b) rows x acc k) (n := nce P) hfu (by omega) ?_ ?_
  · intro z acc
    simp (disch := omega) only [f_X9_certifiedOf_5, jI_1, jI_2, jI_3, jI_4, jI_5, X9_get, zB1_s, h5, jI_L, jL_le, jI_add, X9_bill, X9_openOf, Nat.le_refl, if_true]
  · intro z acc k hk
    obtain ⟨⟨e1, -⟩, ⟨e2, -, -⟩, ⟨e3, -, -⟩, ⟨e4, -, -⟩, ⟨e5, -, -⟩⟩ := hq k hk
    have hk2 : ¬ nce P ≤ k := by omega
    simp (disch := omega) only [f_X9_certifiedOf_5, jI_1, jI_2, jI_3, jI_4, jI_5, X9_get, zB1_s, h5, jI_L, jL_le, jI_add, X9_bill, X9_openOf, hk2, if_false, e1, e2, e4, e5, L_eq, L_le, L_lt]
    repeat' split
    all_goals simp_all
theorem r_openBefore (hb : b < 9) (hR : Rl B P (zrow b rows)) (x d : Int32) : f_X9_openBefore (jI b) rows x d.toInt64 = some (v_ovd P x d) := by
  obtain ⟨-, hn, h5, hq⟩ := hR.2.2.2.2.2.1
  unfold f_X9_openBefore
  have hfu := FU_k
  generalize FU = fu at hfu ⊢
  refine r_zero_S (F := fun z acc k => f_X9_openBefore_6 z (jI b) rows x d.toInt64 acc k) (n := nce P) hfu (by omega) ?_ ?_
  · intro z acc
    simp (disch := omega) only [f_X9_openBefore_6, jI_1, jI_2, jI_3, jI_4, jI_5, X9_get, zB1_s, h5, jI_L, jL_le, jI_add, X9_bill, X9_openOf, Nat.le_refl, if_true]
  · intro z acc k hk
    obtain ⟨⟨e1, -⟩, ⟨e2, -, -⟩, ⟨e3, -, -⟩, ⟨e4, -, -⟩, ⟨e5, -, -⟩⟩ := hq k hk
    have hk2 : ¬ nce P ≤ k := by omega
    simp (disch := omega) only [f_X9_openBefore_6, jI_1, jI_2, jI_3, jI_4, jI_5, X9_get, zB1_s, h5, jI_L, jL_le, jI_add, X9_bill, X9_openOf, hk2, if_false, e1, e3, e4, e5, L_eq, L_le, L_lt]
    repeat' split
    all_goals simp_all
theorem r_dueBetween (hb : b < 9) (hR : Rl B P (zrow b rows)) (x y t : Int32) : f_X9_dueBetween t (jI b) rows x y = some (v_btw P x y, 0) := by
  obtain ⟨-, hn, h5, hq⟩ := hR.2.2.2.2.2.1
  unfold f_X9_dueBetween
  have hfu := FU_k
  generalize FU = fu at hfu ⊢
  refine r_zero_S (F := fun z acc k => f_X9_dueBetween_10 z 0 (jI b) rows x y acc k) (n := nce P) (post := fun a => some (a, 0)) hfu (by omega) ?_ ?_
  · intro z acc
    simp (disch := omega) only [f_X9_dueBetween_10, jI_1, jI_2, jI_3, jI_4, jI_5, X9_get, zB1_s, h5, jI_L, jL_le, jI_add, X9_bill, X9_openOf, Nat.le_refl, if_true]
  · intro z acc k hk
    obtain ⟨⟨e1, -⟩, ⟨e2, -, -⟩, ⟨e3, -, -⟩, ⟨e4, -, -⟩, ⟨e5, -, -⟩⟩ := hq k hk
    have hk2 : ¬ nce P ≤ k := by omega
    simp (disch := omega) only [f_X9_dueBetween_10, jI_1, jI_2, jI_3, jI_4, jI_5, X9_get, zB1_s, h5, jI_L, jL_le, jI_add, X9_bill, X9_openOf, hk2, if_false, e1, e3, e4, e5, L_eq, L_le, L_lt, f_X9_isIn]
    by_cases h1 : pj_ce_due P k < x
    · simp [h1, zB1_s, g_btw]
    · by_cases h2 : y < pj_ce_due P k <;> simp [h1, h2, zB1_s, g_btw, jI1_ne]
theorem k_certifiedOf (hb : b < 9) (hR : Rl B P (zrow b rows)) (x : Int32) : f_X0_certifiedOf (pj_ce_count P) (pj_ce_contract P) (pj_ce_amount P) x = some (v_cert P x) := by
  obtain ⟨hc, hn, -, -⟩ := hR.2.2.2.2.2.1
  unfold f_X0_certifiedOf
  have hfu := FU_k
  generalize FU = fu at hfu ⊢
  refine r_zero_S (F := fun z acc k => f_X0_certifiedOf_5 z (pj_ce_count P) (pj_ce_contract P) (pj_ce_amount P) x acc k) (n := nce P) hfu (by omega) ?_ ?_
  · intro z acc
    simp (disch := omega) only [f_X0_certifiedOf_5, hc, jI_le, Nat.le_refl, if_true]
  · intro z acc k hk
    have hk2 : ¬ nce P ≤ k := by omega
    simp (disch := omega) only [f_X0_certifiedOf_5, hc, jI_le, zR_n, hk2, if_false, jI_1, jI_add]
    repeat' split
    all_goals simp_all
theorem k_unpaidOf (hb : b < 9) (hR : Rl B P (zrow b rows)) (x : Int32) : f_X0_unpaidOf (pj_ce_count P) (pj_ce_contract P) (pj_ce_open P) x = some (v_unp P x) := by
  obtain ⟨hc, hn, -, -⟩ := hR.2.2.2.2.2.1
  unfold f_X0_unpaidOf
  have hfu := FU_k
  generalize FU = fu at hfu ⊢
  refine r_zero_S (F := fun z acc k => f_X0_unpaidOf_5 z (pj_ce_count P) (pj_ce_contract P) (pj_ce_open P) x acc k) (n := nce P) hfu (by omega) ?_ ?_
  · intro z acc
    simp (disch := omega) only [f_X0_unpaidOf_5, hc, jI_le, Nat.le_refl, if_true]
  · intro z acc k hk
    have hk2 : ¬ nce P ≤ k := by omega
    simp (disch := omega) only [f_X0_unpaidOf_5, hc, jI_le, zR_n, hk2, if_false, jI_1, jI_add]
    repeat' split
    all_goals simp_all
theorem k_overdueOf (hb : b < 9) (hR : Rl B P (zrow b rows)) (x d : Int32) : f_X0_overdueOf (pj_ce_count P) (pj_ce_contract P) (pj_ce_open P) (pj_ce_due P) x d = some (v_ovd P x d) := by
  obtain ⟨hc, hn, -, -⟩ := hR.2.2.2.2.2.1
  unfold f_X0_overdueOf
  have hfu := FU_k
  generalize FU = fu at hfu ⊢
  refine r_zero_S (F := fun z acc k => f_X0_overdueOf_5 z (pj_ce_count P) (pj_ce_contract P) (pj_ce_open P) (pj_ce_due P) x d acc k) (n := nce P) hfu (by omega) ?_ ?_
  · intro z acc
    simp (disch := omega) only [f_X0_overdueOf_5, hc, jI_le, Nat.le_refl, if_true]
  · intro z acc k hk
    have hk2 : ¬ nce P ≤ k := by omega
    simp (disch := omega) only [f_X0_overdueOf_5, hc, jI_le, zR_n, hk2, if_false, jI_1, jI_add]
    repeat' split
    all_goals simp_all
theorem k_openDueBetween (hb : b < 9) (hR : Rl B P (zrow b rows)) (x y : Int32) : f_X0_openDueBetween (pj_ce_count P) (pj_ce_open P) (pj_ce_due P) x y = some (v_btw P x y) := by
  obtain ⟨hc, hn, -, -⟩ := hR.2.2.2.2.2.1
  unfold f_X0_openDueBetween
  have hfu := FU_k
  generalize FU = fu at hfu ⊢
  refine r_zero_S (F := fun z acc k => f_X0_openDueBetween_5 z (pj_ce_count P) (pj_ce_open P) (pj_ce_due P) x y acc k) (n := nce P) hfu (by omega) ?_ ?_
  · intro z acc
    simp (disch := omega) only [f_X0_openDueBetween_5, hc, jI_le, Nat.le_refl, if_true]
  · intro z acc k hk
    have hk2 : ¬ nce P ≤ k := by omega
    simp (disch := omega) only [f_X0_openDueBetween_5, hc, jI_le, zR_n, hk2, if_false, jI_1, jI_add]
    repeat' split
    all_goals simp_all
theorem r_unpaidOf (hb : b < 9) (hR : Rl B P (zrow b rows)) (x : Int32) : f_X9_unpaidOf (jI b) rows x = some (v_unp P x) := by
  unfold f_X9_unpaidOf
  rw [show (1000000 : Int64) = (1000000 : Int32).toInt64 from rfl, r_openBefore hb hR x 1000000, zB1_s]
  obtain ⟨-, hn, h5, hq⟩ := hR.2.2.2.2.2.1
  congr 1
  refine sS_congr _ _ (fun k _ hk => ?_)
  obtain ⟨-, -, -, -, ⟨-, e5, e6⟩⟩ := hq k (by omega)
  have : ¬ (1000000 : Int32) ≤ pj_ce_due P k := by
    rw [Int32.le_iff_toInt_le, show (1000000 : Int32).toInt = 1000000 from rfl]
    omega
  simp only [g_ovd, g_unp, this, if_false]
theorem k_hasOpenUpTo (hb : b < 9) (hR : Rl B P (zrow b rows)) (x d : Int32) : f_X0_hasOpenUpTo (pj_ce_count P) (pj_ce_contract P) (pj_ce_open P) (pj_ce_issued P) x d = some (if v_open P x d = true then 1 else 0) := by
  obtain ⟨hc, hn, -, -⟩ := hR.2.2.2.2.2.1
  unfold f_X0_hasOpenUpTo
  have hfu := FU_k
  generalize FU = fu at hfu ⊢
  refine r_zero_E (F := fun z k => f_X0_hasOpenUpTo_2 z (pj_ce_count P) (pj_ce_contract P) (pj_ce_open P) (pj_ce_issued P) x d k) (n := nce P) hfu (by omega) ?_ ?_
  · intro z
    simp (disch := omega) only [f_X0_hasOpenUpTo_2, hc, jI_le, Nat.le_refl, if_true]
  · intro z k hk
    have hk2 : ¬ nce P ≤ k := by omega
    simp (disch := omega) only [f_X0_hasOpenUpTo_2, hc, jI_le, zR_n, hk2, if_false, jI_1, jI_add]
    repeat' split
    all_goals simp_all
def v_held (P : PrT) (k : Nat) : Bool := decide (¬ pj_co_linked P (pj_ce_contract P k).toNatClampNeg = 0) && v_open P (pj_co_parent P (pj_ce_contract P k).toNatClampNeg) (pj_ce_issued P k)
theorem r_isHeld (hb : b < 9) (hR : Rl B P (zrow b rows)) {k : Nat} (hk : k < nce P) : f_X9_isHeld (jI b) rows (jI k) = some (if v_held P k = true then 1 else 0) := by
  obtain ⟨-, hn, h5, hq⟩ := hR.2.2.2.2.2.1
  have hC := hR.2.2.1.2.2.2
  have hco := hR.2.2.1.2.1
  obtain ⟨⟨e1, c, hc, e0⟩, -, -, ⟨e4, -, -⟩, -⟩ := hq k hk
  obtain ⟨⟨c1, -, -⟩, -, -, -, -, ⟨c5, -, -⟩, -⟩ := hC c hc
  unfold f_X9_isHeld v_held
  have hfu := FU_k
  generalize FU = fu at hfu ⊢
  have e7 : (pj_ce_contract P k).toNatClampNeg = c := by rw [e0, jI_nat (by omega)]
  rw [e7]
  simp (disch := omega) only [X9_bill, zB1_s, X9_small, e1, Int32.toInt32_toInt64, e0, X9_at, jI_5, jI_add, X9_get, c5]
  simp only [L_z]
  by_cases h0 : pj_co_linked P c = 0
  · simp [h0]
  · rw [if_neg h0]
    simp only [h0, not_false_eq_true, decide_true, Bool.true_and]
    refine r_zero_E (F := fun z j => f_X9_isHeld_29 z (jI b) rows (jI k) (jI c) j) (n := nce P) hfu (by omega) ?_ ?_
    · intro z
      simp (disch := omega) only [f_X9_isHeld_29, jI_1, jI_2, jI_3, jI_4, jI_5, X9_get, zB1_s, h5, jI_L, jL_le, jI_add, X9_bill, X9_openOf, Nat.le_refl, if_true]
    · intro z j hj
      obtain ⟨⟨d1, -⟩, -, ⟨d3, -, -⟩, ⟨d4, -, -⟩, -⟩ := hq j hj
      have hk2 : ¬ nce P ≤ j := by omega
      simp (disch := omega) only [f_X9_isHeld_29, jI_1, jI_2, jI_3, jI_4, jI_5, X9_get, zB1_s, h5, jI_L, jL_le, jI_add, X9_bill, X9_openOf, hk2, if_false, X9_at, Int32.add_zero, c1, d1, L_eq, d3, d4, e4, L_lt]
      by_cases h1 : pj_ce_contract P j = pj_co_parent P c
      · by_cases h2 : pj_ce_open P j ≤ 0
        · simp [h1, h2, p_held]
        · by_cases h3 : pj_ce_issued P k < pj_ce_issued P j <;> simp [h1, h2, h3, p_held]
      · simp [h1, p_held]
theorem k_isHeldBack (hb : b < 9) (hR : Rl B P (zrow b rows)) {k : Nat} (hk : k < nce P) : f_X5_isHeldBack (pj_co_parent P) (pj_co_linked P) (pj_ce_count P) (pj_ce_contract P) (pj_ce_open P) (pj_ce_issued P) (jI k) = some (if v_held P k = true then 1 else 0) := by
  obtain ⟨-, hn, -, hq⟩ := hR.2.2.2.2.2.1
  have hco := hR.2.2.1.2.1
  obtain ⟨⟨e1, c, hc, e0⟩, -⟩ := hq k hk
  unfold f_X5_isHeldBack v_held
  have e7 : (pj_ce_contract P k).toNatClampNeg = c := by rw [e0, jI_nat (by omega)]
  rw [e7]
  simp (disch := omega) only [zR_n, e0, k_hasOpenUpTo hb hR, zB1_s]
  repeat' split
  all_goals simp_all
end CERT
