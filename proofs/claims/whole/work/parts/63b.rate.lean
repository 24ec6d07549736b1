/-! layer 3: the rate, class and reference -/
theorem jI_m1 {d : Nat} (h1 : 1 ≤ d) (h2 : d < 2147483648) : jI d + (-1 : Int32) = jI (d - 1) := by
  have e1 := jI_toInt h2
  have e2 : (-1 : Int32).toInt = -1 := rfl
  have e3 := jI_toInt (k := d - 1) (by omega)
  rw [← Int32.toInt_inj, I_add (by omega) (by omega)]
  omega
theorem jI_m1' {d : Nat} (h1 : 1 ≤ d) (h2 : d < 2147483648) : jI d + -jI 1 = jI (d - 1) := jI_m1 h1 h2
theorem jI_s1 {d : Nat} (h : 1 ≤ d) : jI d - (1 : Int32) = jI (d - 1) := by
  rw [jI_1, jI_sub h]
theorem I_le4 {x : Int32} : x ≤ (-4 : Int32) ↔ x.toInt ≤ -4 := Int32.le_iff_toInt_le
theorem I_lt4 {x : Int32} : (-4 : Int32) < x ↔ -4 < x.toInt := Int32.lt_iff_toInt_lt
theorem k_operand (x p f e : Int32) : f_X4_operand x p f e = some (kOp x p f e) := by
  unfold f_X4_operand kOp
  by_cases h3 : x = -3
  · rw [if_pos h3, if_pos h3]
  rw [if_neg h3, if_neg h3]
  by_cases h2 : x = -2
  · rw [if_pos h2, if_pos h2]
  rw [if_neg h2, if_neg h2]
  by_cases h1 : x = -1
  · rw [if_pos h1, if_pos h1]
  · rw [if_neg h1, if_neg h1]
theorem upd_same (f : Nat → Int32) (k : Nat) (x : Int32) : upd f k x k = x := by simp [upd]
theorem upd_ne {f : Nat → Int32} {k j : Nat} {x : Int32} (h : j ≠ k) : upd f k x j = f j := by simp [upd, h]
theorem updL_same (f : Nat → Int64) (k : Nat) (x : Int64) : vp_updL f k x k = x := by simp [vp_updL]
theorem updL_ne {f : Nat → Int64} {k j : Nat} {x : Int64} (h : j ≠ k) : vp_updL f k x j = f j := by simp [vp_updL, h]
theorem kS_push {c : Nat → Int32} {p f e : Int32} {n d : Nat} (hd : kD c n = some d) (h : (c n).toInt > -4) : kS c p f e (n + 1) = upd (kS c p f e n) d (kOp (c n) p f e) := by
  show (if (c n).toInt > -4 then _ else _) = _
  rw [if_pos h, hd]
  rfl
theorem kS_op {c : Nat → Int32} {p f e : Int32} {n d : Nat} (hd : kD c n = some d) (h : ¬ (c n).toInt > -4) : kS c p f e (n + 1) = upd (kS c p f e n) (d - 2) (cRes (c n) (kS c p f e n (d - 2)) (kS c p f e n (d - 1))) := by
  show (if (c n).toInt > -4 then _ else _) = _
  rw [if_neg h, hd]
  rfl
theorem kD_push {c : Nat → Int32} {n d d' : Nat} (hd : kD c n = some d) (h : (c n).toInt > -4) (h' : kD c (n + 1) = some d') : d < 16 ∧ d' = d + 1 := by
  have e : kD c (n + 1) = (kD c n).bind fun d => if (c n).toInt > -4 then (if d < 16 then some (d + 1) else none) else (if 2 ≤ d then some (d - 1) else none) := rfl
  rw [e, hd] at h'
  simp only [Option.bind_some, if_pos h] at h'
  by_cases h16 : d < 16
  · rw [if_pos h16] at h'
    cases h'
    exact ⟨h16, rfl⟩
  · rw [if_neg h16] at h'
    cases h'
theorem kD_op {c : Nat → Int32} {n d d' : Nat} (hd : kD c n = some d) (h : ¬ (c n).toInt > -4) (h' : kD c (n + 1) = some d') : 2 ≤ d ∧ d' = d - 1 := by
  have e : kD c (n + 1) = (kD c n).bind fun d => if (c n).toInt > -4 then (if d < 16 then some (d + 1) else none) else (if 2 ≤ d then some (d - 1) else none) := rfl
  rw [e, hd] at h'
  simp only [Option.bind_some, if_neg h] at h'
  by_cases h2 : 2 ≤ d
  · rw [if_pos h2] at h'
    cases h'
    exact ⟨h2, rfl⟩
  · rw [if_neg h2] at h'
    cases h'
def vFin (x : Int32) : Int32 := if (0 : Int32) < (if x < (99999 : Int32) then x else (99999 : Int32)) then (if x < (99999 : Int32) then x else (99999 : Int32)) else (0 : Int32)
section RATE
variable {c : Nat → Int32} {p f e : Int32} {n : Nat}
theorem k_rate_lo {cl : Nat} (hcl : n ≤ cl) (hc9 : cl ≤ 900) (hn : n ≤ 900) (hd1 : kD c n = some 1) : ∀ (m k z d : Nat) (s : Nat → Int32), k + m = n → m < z → kD c k = some d → (∀ j, j < d → s j = kS c p f e k j) → ∃ s', f_X4_rate_15 z (jI n) cl c s p f e (jI d) (jI k) = some (vFin (kS c p f e n 0), s')
  | 0, k, 0, d, s, hk, hz, hd, hs => absurd hz (by omega)
  | m + 1, k, 0, d, s, hk, hz, hd, hs => absurd hz (by omega)
  | 0, k, z + 1, d, s, hk, hz, hd, hs => by
    have ek : k = n := by omega
    subst ek
    rw [hd] at hd1
    cases hd1
    refine ⟨s, ?_⟩
    simp only [f_X4_rate_15]
    rw [if_pos (Int32.le_refl _), jI_0, zR_n (by omega) (by omega), hs 0 (by omega)]
    rfl
  | m + 1, k, z + 1, d, s, hk, hz, hd, hs => by
    obtain ⟨d', hd'⟩ := kD_all (c := c) (n := k + 1) m (by rw [show k + 1 + m = n by omega]; exact hd1)
    have h16 := kD_le hd
    have h16' := kD_le hd'
    simp only [f_X4_rate_15]
    rw [if_neg (by rw [jI_le (by omega) (by omega)]; omega), zR_n (by omega) (by omega)]
    by_cases h4 : (c k).toInt > -4
    · obtain ⟨g1, g2⟩ := kD_push hd h4 hd'
      subst g2
      rw [if_neg (by rw [I_le4]; omega), if_neg (by rw [show (16 : Int32) = jI 16 from rfl, jI_le (by omega) (by omega)]; omega), k_operand, zB1_s, zSi_n (by omega) (by omega), jI_1, jI_add, jI_add]
      refine k_rate_lo hcl hc9 hn hd1 m (k + 1) z (d + 1) _ (by omega) (by omega) hd' (fun j hj => ?_)
      rw [kS_push hd h4]
      by_cases hjd : j = d
      · subst hjd
        rw [upd_same, upd_same]
      · rw [upd_ne hjd, upd_ne hjd, hs j (by omega)]
    · obtain ⟨g1, g2⟩ := kD_op hd h4 hd'
      subst g2
      rw [if_pos (by rw [I_le4]; omega)]
      unfold f_X4_rate_68
      rw [if_neg (by rw [I_lt4]; omega), if_neg (by rw [jI_2, jI_lt (by omega) (by omega)]; omega), jI_m1 (by omega) (by omega), jI_s1 (by omega), zR_n (by omega) (by omega), zR_n (by omega) (by omega), k_result, zB1_s, zSi_n (by omega) (by omega), jI_1, jI_add]
      refine k_rate_lo hcl hc9 hn hd1 m (k + 1) z (d - 1) _ (by omega) (by omega) hd' (fun j hj => ?_)
      rw [kS_op hd h4, show d - 1 - 1 = d - 2 by omega]
      by_cases hjd : j = d - 2
      · subst hjd
        rw [upd_same, upd_same, hs (d - 2) (by omega), hs (d - 1) (by omega)]
      · rw [upd_ne hjd, upd_ne hjd, hs j (by omega)]
theorem kS_bd (hp : 0 ≤ p.toInt ∧ p.toInt ≤ 1000000) (hf : 0 ≤ f.toInt ∧ f.toInt ≤ 1000000) (he : 0 ≤ e.toInt ∧ e.toInt ≤ 1000000) : ∀ (n d : Nat), kD c n = some d → (∀ j, j < n → (c j).toInt ≤ 9999) → ∀ j, j < d → -1000000 ≤ (kS c p f e n j).toInt ∧ (kS c p f e n j).toInt ≤ 1000000
  | 0, d, hd, hc, j, hj => by cases hd; omega
  | n + 1, d, hd, hc, j, hj => by
    obtain ⟨d0, h0⟩ := kD_pre hd
    have ih := kS_bd hp hf he n d0 h0 (fun j hj => hc j (by omega))
    by_cases h4 : (c n).toInt > -4
    · obtain ⟨g1, g2⟩ := kD_push h0 h4 hd
      rw [kS_push h0 h4]
      by_cases hjd : j = d0
      · subst hjd
        rw [upd_same]
        have := hc n (by omega)
        unfold kOp
        split
        · omega
        split
        · omega
        split
        · omega
        · omega
      · rw [upd_ne hjd]
        exact ih j (by omega)
    · obtain ⟨g1, g2⟩ := kD_op h0 h4 hd
      rw [kS_op h0 h4]
      by_cases hjd : j = d0 - 2
      · subst hjd
        rw [upd_same]
        unfold cRes
        split
        · exact (cC_s _).2
        split
        · exact (cC_s _).2
        split
        · exact (cC_s _).2
        split
        · exact (cC_s _).2
        · exact (cC_s _).2
      · rw [upd_ne hjd]
        exact ih j (by omega)
theorem vFin_s (x : Int32) : f_X9_clamped x.toInt64 (0 : Int64) (99999 : Int64) = some (vFin x).toInt64 ∧ 0 ≤ (vFin x).toInt ∧ (vFin x).toInt ≤ 99999 := by
  have e1 : (99999 : Int32).toInt = 99999 := rfl
  have e0 : (0 : Int32).toInt = 0 := rfl
  unfold f_X9_clamped vFin
  rw [show (0 : Int64) = (0 : Int32).toInt64 from rfl, show (99999 : Int64) = (99999 : Int32).toInt64 from rfl]
  simp only [L_le]
  by_cases h1 : x < (99999 : Int32)
  · have h1' := Int32.lt_iff_toInt_lt.mp h1
    rw [if_pos h1]
    by_cases h2 : (0 : Int32) < x
    · have h2' := Int32.lt_iff_toInt_lt.mp h2
      rw [if_pos h2, if_pos (Int32.le_iff_toInt_le.mpr (by omega)), if_pos (Int32.le_iff_toInt_le.mpr (by omega))]
      exact ⟨rfl, by omega, by omega⟩
    · have h2' : ¬ (0 : Int32).toInt < x.toInt := fun z => h2 (Int32.lt_iff_toInt_lt.mpr z)
      rw [if_neg h2]
      refine ⟨?_, by decide, by decide⟩
      by_cases h3 : (0 : Int32) ≤ x
      · have h3' := Int32.le_iff_toInt_le.mp h3
        have : x = 0 := Int32.toInt_inj.mp (by omega)
        subst this
        rfl
      · rw [if_neg h3]
  · have h1' : ¬ x.toInt < (99999 : Int32).toInt := fun z => h1 (Int32.lt_iff_toInt_lt.mpr z)
    rw [if_neg h1, if_pos (show (0 : Int32) < 99999 by decide), if_pos (Int32.le_iff_toInt_le.mpr (by omega))]
    refine ⟨?_, by decide, by decide⟩
    by_cases h3 : x ≤ (99999 : Int32)
    · have h3' := Int32.le_iff_toInt_le.mp h3
      have : x = 99999 := Int32.toInt_inj.mp (by omega)
      subst this
      rfl
    · rw [if_neg h3]
theorem r_rate_lo {b : Nat} {rows : Nat → Int64} (hb : b < 9) (hn : n ≤ 900) (h3 : zrow b rows 3 = jL (2 * n)) (hk : ∀ j, j < n → kR (c j) (zrow b rows (600 + 2 * j)) (zrow b rows (600 + 2 * j + 1))) (hp : 0 ≤ p.toInt ∧ p.toInt ≤ 1000000) (hf : 0 ≤ f.toInt ∧ f.toInt ≤ 1000000) (he : 0 ≤ e.toInt ∧ e.toInt ≤ 1000000) (hd1 : kD c n = some 1) : ∀ (m k z d : Nat) (s : Nat → Int64), k + m = n → m < z → kD c k = some d → (∀ j, j < d → s j = (kS c p f e k j).toInt64) → ∃ s', f_X9_rateOf_18 z (jI b) rows s p.toInt64 f.toInt64 e.toInt64 (jI d) (jI (2 * k)) = some ((vFin (kS c p f e n 0)).toInt64, s')
  | 0, k, 0, d, s, hk', hz, hd, hs => absurd hz (by omega)
  | m + 1, k, 0, d, s, hk', hz, hd, hs => absurd hz (by omega)
  | 0, k, z + 1, d, s, hk', hz, hd, hs => by
    have ek : k = n := by omega
    subst ek
    rw [hd] at hd1
    cases hd1
    refine ⟨s, ?_⟩
    simp only [f_X9_rateOf_18]
    rw [jI_3, X9_get hb (by omega), zB1_s, h3, jI_L (by omega), if_pos (Int64.le_refl _), jI_0, zR_n (by omega) (by omega), hs 0 (by omega), (vFin_s _).1, zB1_s]
  | m + 1, k, z + 1, d, s, hk', hz, hd, hs => by
    obtain ⟨d', hd'⟩ := kD_all (c := c) (n := k + 1) m (by rw [show k + 1 + m = n by omega]; exact hd1)
    have h16 := kD_le hd
    have h16' := kD_le hd'
    have ih := r_rate_lo hb hn h3 hk hp hf he hd1 m (k + 1) z
    simp only [f_X9_rateOf_18]
    rw [jI_3, X9_get hb (by omega), zB1_s, h3, jI_L (by omega), if_neg (by rw [jL_le (by omega) (by omega)]; omega), jI_600, jI_add, X9_small hb (by omega), zB1_s, jI_1, jI_add, X9_get hb (by omega), zB1_s]
    have push : ∀ (v : Int32), (c k).toInt > -4 → kOp (c k) p f e = v → ∃ s', (zSl 128 s (jI d) v.toInt64 fun v_102 => f_X9_rateOf_18 z (jI b) rows v_102 p.toInt64 f.toInt64 e.toInt64 (jI d + jI 1) (jI (2 * k) + (2 : Int32))) = some ((vFin (kS c p f e n 0)).toInt64, s') := by
      intro v h4 hv
      obtain ⟨g1, g2⟩ := kD_push hd h4 hd'
      subst g2
      rw [zSl_n (by omega) (by omega), jI_2, jI_add, jI_add, show 2 * k + 2 = 2 * (k + 1) by omega]
      refine ih (d + 1) _ (by omega) (by omega) hd' (fun j hj => ?_)
      rw [kS_push hd h4, hv]
      by_cases hjd : j = d
      · subst hjd
        rw [updL_same, upd_same]
      · rw [updL_ne hjd, upd_ne hjd, hs j (by omega)]
    have opn : ∀ (v : Int32), ¬ (c k).toInt > -4 → cRes (c k) (kS c p f e k (d - 2)) (kS c p f e k (d - 1)) = v → ∃ s', (zSl 128 s (jI (d - 1 - 1)) v.toInt64 fun v_210 => f_X9_rateOf_18 z (jI b) rows v_210 p.toInt64 f.toInt64 e.toInt64 (jI (d - 1)) (jI (2 * k) + (2 : Int32))) = some ((vFin (kS c p f e n 0)).toInt64, s') := by
      intro v h4 hv
      obtain ⟨g1, g2⟩ := kD_op hd h4 hd'
      subst g2
      rw [zSl_n (by omega) (by omega), jI_2, jI_add, show 2 * k + 2 = 2 * (k + 1) by omega]
      refine ih (d - 1) _ (by omega) (by omega) hd' (fun j hj => ?_)
      rw [kS_op hd h4, hv, show d - 1 - 1 = d - 2 by omega]
      by_cases hjd : j = d - 2
      · subst hjd
        rw [updL_same, upd_same]
      · rw [updL_ne hjd, upd_ne hjd, hs j (by omega)]
    have ops : ¬ (c k).toInt > -4 → 2 ≤ d := fun h4 => (kD_op hd h4 hd').1
    rcases hk k (by omega) with ⟨x1, x2, x3, x4⟩ | ⟨x1, x3, x4⟩ | ⟨x1, x3, x4⟩ | ⟨x1, x3, x4⟩ | ⟨x1, x3⟩ | ⟨x1, x3⟩ | ⟨x1, x3⟩ | ⟨x1, x3⟩
    · rw [x3, x4, if_neg (by decide), if_pos (by decide)]
      refine push (c k) (by omega) ?_
      unfold kOp
      rw [if_neg (fun z => by rw [z] at x1; exact absurd x1 (by decide)), if_neg (fun z => by rw [z] at x1; exact absurd x1 (by decide)), if_neg (fun z => by rw [z] at x1; exact absurd x1 (by decide))]
    · rw [x3, x4, if_neg (by decide), if_neg (by decide), if_pos (by decide)]
      exact push p (by rw [x1]; decide) (by rw [x1]; rfl)
    · rw [x3, x4, if_neg (by decide), if_neg (by decide), if_neg (by decide), if_pos (by decide)]
      exact push f (by rw [x1]; decide) (by rw [x1]; rfl)
    · rw [x3, x4, if_neg (by decide), if_neg (by decide), if_neg (by decide), if_neg (by decide)]
      exact push e (by rw [x1]; decide) (by rw [x1]; rfl)
    · have h4 : ¬ (c k).toInt > -4 := by rw [x1]; decide
      have h2 := ops h4
      rw [x3, if_pos (by decide), jI_m1' (by omega) (by omega), jI_sub (by omega), zR_n (by omega) (by omega), zR_n (by omega) (by omega), if_pos (by decide), hs (d - 1 - 1) (by omega), hs (d - 1) (by omega), (cC_s _).1, zB1_s]
      exact opn _ h4 (by rw [x1, show d - 1 - 1 = d - 2 by omega]; rfl)
    · have h4 : ¬ (c k).toInt > -4 := by rw [x1]; decide
      have h2 := ops h4
      rw [x3, if_pos (by decide), jI_m1' (by omega) (by omega), jI_sub (by omega), zR_n (by omega) (by omega), zR_n (by omega) (by omega), if_neg (by decide), if_pos (by decide), hs (d - 1 - 1) (by omega), hs (d - 1) (by omega), (cC_s _).1, zB1_s]
      exact opn _ h4 (by rw [x1, show d - 1 - 1 = d - 2 by omega]; rfl)
    · have h4 : ¬ (c k).toInt > -4 := by rw [x1]; decide
      have h2 := ops h4
      rw [x3, if_pos (by decide), jI_m1' (by omega) (by omega), jI_sub (by omega), zR_n (by omega) (by omega), zR_n (by omega) (by omega), if_neg (by decide), if_neg (by decide), if_pos (by decide), hs (d - 1 - 1) (by omega), hs (d - 1) (by omega), (cC_s _).1, zB1_s]
      exact opn _ h4 (by rw [x1, show d - 1 - 1 = d - 2 by omega]; rfl)
    · have h4 : ¬ (c k).toInt > -4 := by rw [x1]; decide
      have h2 := ops h4
      have hbd := kS_bd hp hf he k d hd (fun j hj => by
        rcases hk j (by omega) with ⟨y1, y2, -⟩ | ⟨y1, -⟩ | ⟨y1, -⟩ | ⟨y1, -⟩ | ⟨y1, -⟩ | ⟨y1, -⟩ | ⟨y1, -⟩ | ⟨y1, -⟩
        · exact y2
        all_goals (rw [y1]; decide)) (d - 2) (by omega)
      rw [x3, if_pos (by decide), jI_m1' (by omega) (by omega), jI_sub (by omega), zR_n (by omega) (by omega), zR_n (by omega) (by omega), if_neg (by decide), if_neg (by decide), if_neg (by decide), hs (d - 1 - 1) (by omega), hs (d - 1) (by omega)]
      have hr : ∀ r : Int32, cRes (c k) (kS c p f e k (d - 2)) r = if r = 0 then cC 0 else cC (kS c p f e k (d - 2) / r).toInt64 := fun r => by rw [x1]; rfl
      by_cases h0 : kS c p f e k (d - 1) = 0
      · rw [if_pos (L_z.mpr h0), (cC_s _).1, zB1_s]
        exact opn _ h4 (by rw [hr, if_pos h0])
      · rw [if_neg (fun z => h0 (L_z.mp z))]
        unfold zG1
        rw [if_pos (fun z => h0 (L_z.mp z)), show d - 1 - 1 = d - 2 by omega, ← C_div (by omega), (cC_s _).1, zB1_s]
        exact opn _ h4 (by rw [hr, if_neg h0])
end RATE
section RATE2
variable {B : Int} {P : PrT} {b : Nat} {rows : Nat → Int64} {p f e : Int32}
theorem vRate_s (hn : npg P ≠ 0) : vRate P p f e = vFin (kS (pj_pg_code P) p f e (npg P) 0) := by
  unfold vRate
  rw [if_neg hn]
  rfl
theorem k_rate (hR : Rl B P (zrow b rows)) (s : Nat → Int32) : ∃ s', f_X4_rate (pj_pg_length P) (pj_pg_clen P) (pj_pg_code P) s p f e = some (vRate P p f e, s') := by
  obtain ⟨hl, hn, h3, hk, hd, hcl, hc9⟩ := hR.2.2.2.2.2.2.2.2
  unfold f_X4_rate
  have hfu := FU_k
  generalize FU = fu at hfu ⊢
  rw [hl]
  by_cases h0 : npg P = 0
  · rw [h0, if_pos (by decide)]
    refine ⟨s, ?_⟩
    unfold vRate
    rw [if_pos h0]
  · rw [if_neg (by rw [show (0 : Int32) = jI 0 from rfl, jI_eq (by omega) (by omega)]; exact h0), vRate_s h0]
    exact k_rate_lo hcl hc9 hn (hd.resolve_left h0) (npg P) 0 fu 0 s (by omega) (by omega) rfl (fun j hj => by omega)
theorem r_rate (hb : b < 9) (hR : Rl B P (zrow b rows)) (hp : 0 ≤ p.toInt ∧ p.toInt ≤ 1000000) (hf : 0 ≤ f.toInt ∧ f.toInt ≤ 1000000) (he : 0 ≤ e.toInt ∧ e.toInt ≤ 1000000) (s : Nat → Int64) : ∃ s', f_X9_rateOf (jI b) rows s p.toInt64 f.toInt64 e.toInt64 = some ((vRate P p f e).toInt64, s') := by
  obtain ⟨hl, hn, h3, hk, hd, hcl, hc9⟩ := hR.2.2.2.2.2.2.2.2
  unfold f_X9_rateOf
  have hfu := FU_k
  generalize FU = fu at hfu ⊢
  rw [jI_3, X9_get hb (by omega), zB1_s, h3]
  by_cases h0 : npg P = 0
  · rw [h0, if_pos (by decide)]
    refine ⟨s, ?_⟩
    unfold vRate
    rw [if_pos h0]
  · rw [if_neg (by rw [show (0 : Int64) = jL 0 from rfl, jL_eq (by omega) (by omega)]; omega), vRate_s h0]
    exact r_rate_lo hb hn h3 hk hp hf he (hd.resolve_left h0) (npg P) 0 fu 0 s (by omega) (by omega) rfl (fun j hj => by omega)
theorem vRate_bd (hR : Rl B P (zrow b rows)) (hp : 0 ≤ p.toInt ∧ p.toInt ≤ 9999) : 0 ≤ (vRate P p f e).toInt ∧ (vRate P p f e).toInt ≤ 99999 := by
  by_cases h0 : npg P = 0
  · unfold vRate
    rw [if_pos h0]
    omega
  · rw [vRate_s h0]
    exact (vFin_s _).2
end RATE2
