/-! layer 3: sums of claims, shares -/
section SHARE
variable {B : Int} {P : PrT} {b : Nat} {rows : Nat → Int64}
theorem unp_bd (hR : Rl B P (zrow b rows)) (x : Int32) : 0 ≤ (v_unp P x).toInt ∧ (v_unp P x).toInt ≤ 4398046511104 := by
  obtain ⟨-, h40, -, hq⟩ := hR.2.2.2.2.2.1
  obtain ⟨a1, a2, -⟩ := sS_bd (g := g_unp P x) (M := 68719476736) (by omega) (nce P) (by omega) (fun j hj => by
    obtain ⟨-, -, ⟨-, o1, o2⟩, -⟩ := hq j hj
    show 0 ≤ (if pj_ce_contract P j = x then pj_ce_open P j else 0).toInt ∧ (if pj_ce_contract P j = x then pj_ce_open P j else 0).toInt ≤ _
    by_cases h : pj_ce_contract P j = x
    · rw [if_pos h]
      exact ⟨o1, o2⟩
    · rw [if_neg h, J_0]
      omega)
  exact ⟨a1, by show (sS _ _ _).toInt ≤ _; omega⟩
theorem claim_bd (hR : Rl B P (zrow b rows)) {k : Nat} (hk : k < nli P) : 0 ≤ (v_claim P k).toInt ∧ (v_claim P k).toInt ≤ 4398046511104 := by
  obtain ⟨-, ⟨-, a1, a2⟩, -⟩ := hR.2.2.2.2.2.2.1.2.2.2 k hk
  have := unp_bd hR (pj_li_contract P k)
  unfold v_claim
  split
  · split
    · exact this
    · exact ⟨a1, a2⟩
  · rw [J_0]
    omega
def g_cl (P : PrT) (r : Int32) : Nat → Int64 := fun k => if v_rank P k = r then v_claim P k else 0
def v_cl (P : PrT) (r : Int32) : Int64 := sS (g_cl P r) 0 (nli P)
theorem cl_bd (hR : Rl B P (zrow b rows)) (r : Int32) : 0 ≤ (v_cl P r).toInt ∧ (v_cl P r).toInt ≤ 60000000000000 ∧ ∀ k, k < nli P → v_rank P k = r → (v_claim P k).toInt ≤ (v_cl P r).toInt := by
  have h12 := hR.2.2.2.2.2.2.1.2.1
  obtain ⟨a1, a2, a3⟩ := sS_bd (g := g_cl P r) (M := 4398046511104) (by omega) (nli P) (by omega) (fun j hj => by
    have := claim_bd hR hj
    unfold g_cl
    by_cases h : v_rank P j = r
    · rw [if_pos h]
      exact this
    · rw [if_neg h, J_0]
      omega)
  refine ⟨a1, by show (sS _ _ _).toInt ≤ _; omega, fun k hk hr => ?_⟩
  have := a3 k hk
  unfold g_cl at this
  rw [if_pos hr] at this
  exact this
theorem k_claimsOfRank (hb : b < 9) (hR : Rl B P (zrow b rows)) (r : Int32) : f_X5_claimsOfRank (pj_co_rank P) (pj_ce_count P) (pj_ce_contract P) (pj_ce_open P) (pj_li_count P) (pj_li_contract P) (pj_li_amount P) (pj_li_withdrawn P) r = some (v_cl P r) := by
  obtain ⟨hc, h12, -, -⟩ := hR.2.2.2.2.2.2.1
  unfold f_X5_claimsOfRank
  have hfu := FU_k
  generalize FU = fu at hfu ⊢
  refine r_zero_S (F := fun z acc k => f_X5_claimsOfRank_5 z (pj_co_rank P) (pj_ce_count P) (pj_ce_contract P) (pj_ce_open P) (pj_li_count P) (pj_li_contract P) (pj_li_amount P) (pj_li_withdrawn P) r acc k) (n := nli P) hfu (by omega) ?_ ?_
  · intro z acc
    simp (disch := omega) only [f_X5_claimsOfRank_5, hc, jI_le, Nat.le_refl, if_true]
  · intro z acc k hk
    have hk2 : ¬ nli P ≤ k := by omega
    have e1 := k_rankOf hR hk
    have e2 := k_claimOf hb hR hk
    simp (disch := omega) only [f_X5_claimsOfRank_5, hc, jI_le, hk2, if_false, e1, e2, zB1_s, jI_1, jI_add]
    unfold g_cl
    by_cases h : v_rank P k = r
    · rw [if_pos h, if_pos h]
    · rw [if_neg h, if_neg h, L_add0]
theorem r_claimsOf (hb : b < 9) (hR : Rl B P (zrow b rows)) (r : Int32) : f_X9_claimsOf (jI b) rows r.toInt64 = some (v_cl P r) := by
  obtain ⟨-, h12, h6, -⟩ := hR.2.2.2.2.2.2.1
  unfold f_X9_claimsOf
  have hfu := FU_k
  generalize FU = fu at hfu ⊢
  refine r_zero_S (F := fun z acc k => f_X9_claimsOf_5 z (jI b) rows r.toInt64 acc k) (n := nli P) hfu (by omega) ?_ ?_
  · intro z acc
    simp (disch := omega) only [f_X9_claimsOf_5, jI_6, X9_get, zB1_s, h6, jI_L, jL_le, Nat.le_refl, if_true]
  · intro z acc k hk
    have hk2 : ¬ nli P ≤ k := by omega
    have e1 := r_rankOf hb hR hk
    have e2 := r_claimOf hb hR hk
    simp (disch := omega) only [f_X9_claimsOf_5, jI_6, X9_get, zB1_s, h6, jI_L, jL_le, hk2, if_false, e1, e2, L_eq, jI_1, jI_add]
    unfold g_cl
    by_cases h : v_rank P k = r
    · rw [if_pos h, if_pos h]
    · rw [if_neg h, if_neg h]
/-! one lien's part -/
def v_part (P : PrT) (k : Nat) (l c : Int64) : Int64 := v_claim P k * l / c
def g_pt (P : PrT) (x : Nat) (l c : Int64) : Nat → Int64 := fun k => if v_rank P k = v_rank P x then v_part P k l c else 0
def g_ah (P : PrT) (x : Nat) (l c : Int64) : Nat → Int64 := fun k => if v_rank P k = v_rank P x ∧ v_prec P k x = true ∧ ¬ v_claim P k ≤ v_part P k l c then 1 else 0
def v_shr (P : PrT) (x : Nat) (l c : Int64) : Int64 := if v_claim P x ≤ v_part P x l c then v_part P x l c else if l - sS (g_pt P x l c) 0 (nli P) ≤ sS (g_ah P x l c) 0 (nli P) then v_part P x l c else v_part P x l c + 1
theorem k_partOf (hb : b < 9) (hR : Rl B P (zrow b rows)) {x : Nat} (hx : x < nli P) {l c : Int64} (h0 : 0 < c) : f_X5_partOf (pj_co_rank P) (pj_ce_count P) (pj_ce_contract P) (pj_ce_open P) (pj_li_count P) (pj_li_contract P) (pj_li_amount P) (pj_li_filed P) (pj_li_withdrawn P) (jI x) l c = some (v_shr P x l c) := by
  obtain ⟨hc, h12, -, -⟩ := hR.2.2.2.2.2.2.1
  have hc0 : ¬ c = 0 := fun z => by
    rw [z] at h0
    exact absurd h0 (by decide)
  unfold f_X5_partOf
  rw [if_pos h0]
  have hfu := FU_k
  generalize FU = fu at hfu ⊢
  have L := lo_2 (F := fun z r s k => f_X5_partOf_18 z (pj_co_rank P) (pj_ce_count P) (pj_ce_contract P) (pj_ce_open P) (pj_li_count P) (pj_li_contract P) (pj_li_amount P) (pj_li_filed P) (pj_li_withdrawn P) (jI x) l c r s k) (n := nli P) (g := g_pt P x l c) (h := g_ah P x l c) (post := fun r s => if v_claim P x ≤ v_part P x l c then some (v_part P x l c) else if r ≤ s then some (v_part P x l c) else some (v_part P x l c + 1)) ?_ ?_ (nli P) 0 fu l 0 (by omega) (by omega)
  · refine L.trans ?_
    rw [L_0add]
    unfold v_shr
    split
    · rfl
    · split <;> rfl
  · intro z r s
    have e2 := k_claimOf hb hR hx
    simp (disch := omega) only [f_X5_partOf_18, hc, jI_le, Nat.le_refl, if_true, e2, zB1_s]
    unfold zG1
    rw [if_pos hc0]
    rfl
  · intro z r s k hk
    have hk2 : ¬ nli P ≤ k := by omega
    have e1 := k_rankOf hR hk
    have e1' := k_rankOf hR hx
    have e2 := k_claimOf hb hR hk
    have e3 := k_precedes hR hk hx
    simp (disch := omega) only [f_X5_partOf_18, hc, jI_le, hk2, if_false, e1, e1', e2, e3, zB1_s, jI_1, jI_add]
    unfold zG1
    rw [if_pos hc0]
    unfold g_pt g_ah v_part
    by_cases h : v_rank P k = v_rank P x
    · rw [if_pos h, if_pos h]
      by_cases h2 : v_claim P k ≤ v_claim P k * l / c
      · rw [if_pos h2, if_neg (fun z => z.2.2 h2), L_add0]
      · rw [if_neg h2]
        by_cases h3 : v_prec P k x = true
        · rw [show (if v_rank P k = v_rank P x ∧ v_prec P k x = true ∧ ¬v_claim P k ≤ v_claim P k * l / c then (1 : Int64) else 0) = 1 from if_pos ⟨h, h3, h2⟩, show (if v_prec P k x = true then jI 1 else (0 : Int32)) = jI 1 from if_pos h3, if_neg jI1_ne]
        · rw [show (if v_rank P k = v_rank P x ∧ v_prec P k x = true ∧ ¬v_claim P k ≤ v_claim P k * l / c then (1 : Int64) else 0) = 0 from if_neg (fun z => h3 z.2.1), show (if v_prec P k x = true then jI 1 else (0 : Int32)) = 0 from if_neg h3, if_pos rfl, L_add0]
    · rw [if_neg h, if_neg h, if_neg (fun z => h z.1), L_add0, Int64.sub_zero]
theorem r_partsOf (hb : b < 9) (hR : Rl B P (zrow b rows)) {x : Nat} (hx : x < nli P) {l c : Int64} (hc0 : ¬ c = 0) : f_X9_partsOf (jI b) rows (v_rank P x).toInt64 l c = some (sS (g_pt P x l c) 0 (nli P)) := by
  obtain ⟨-, h12, h6, -⟩ := hR.2.2.2.2.2.2.1
  unfold f_X9_partsOf
  have hfu := FU_k
  generalize FU = fu at hfu ⊢
  refine r_zero_S (F := fun z acc k => f_X9_partsOf_6 z (jI b) rows (v_rank P x).toInt64 l c acc k) (n := nli P) hfu (by omega) ?_ ?_
  · intro z acc
    simp (disch := omega) only [f_X9_partsOf_6, jI_6, X9_get, zB1_s, h6, jI_L, jL_le, Nat.le_refl, if_true]
  · intro z acc k hk
    have hk2 : ¬ nli P ≤ k := by omega
    have e1 := r_rankOf hb hR hk
    have e2 := r_claimOf hb hR hk
    simp (disch := omega) only [f_X9_partsOf_6, jI_6, X9_get, zB1_s, h6, jI_L, jL_le, hk2, if_false, e1, e2, L_eq, jI_1, jI_add]
    unfold g_pt zG1
    by_cases h : v_rank P k = v_rank P x
    · rw [if_pos h, if_pos h, if_pos hc0]
      rfl
    · rw [if_neg h, if_neg h]
theorem r_aheadWith (hb : b < 9) (hR : Rl B P (zrow b rows)) {x : Nat} (hx : x < nli P) {l c : Int64} (hc0 : ¬ c = 0) : f_X9_aheadWith (jI b) rows (jI x) l c = some (sS (g_ah P x l c) 0 (nli P)) := by
  obtain ⟨-, h12, h6, -⟩ := hR.2.2.2.2.2.2.1
  unfold f_X9_aheadWith
  have hfu := FU_k
  generalize FU = fu at hfu ⊢
  refine r_zero_S (F := fun z acc k => f_X9_aheadWith_6 z (jI b) rows (jI x) l c acc k) (n := nli P) hfu (by omega) ?_ ?_
  · intro z acc
    simp (disch := omega) only [f_X9_aheadWith_6, jI_6, X9_get, zB1_s, h6, jI_L, jL_le, Nat.le_refl, if_true]
  · intro z acc k hk
    have hk2 : ¬ nli P ≤ k := by omega
    have e1 := r_rankOf hb hR hk
    have e1' := r_rankOf hb hR hx
    have e2 := r_claimOf hb hR hk
    have e3 := r_isAhead hb hR hk hx
    simp (disch := omega) only [f_X9_aheadWith_6, jI_6, X9_get, zB1_s, h6, jI_L, jL_le, hk2, if_false, e1, e1', e2, e3, L_eq, jI_1, jI_add]
    unfold g_ah v_part zG1
    by_cases hkx : k = x
    · subst hkx
      rw [if_pos rfl, if_neg (fun z => by rw [v_prec_self] at z; exact absurd z.2.1 (by decide)), L_add0]
    · rw [if_neg (fun z => hkx ((jI_eq (by omega) (by omega)).mp z))]
      by_cases h : v_rank P k = v_rank P x
      · rw [if_pos h]
        by_cases h3 : v_prec P k x = true
        · rw [show (if v_prec P k x = true then jI 1 else (0 : Int32)) = jI 1 from if_pos h3, if_neg jI1_ne, if_pos hc0]
          by_cases h2 : v_claim P k ≤ v_claim P k * l / c
          · rw [if_pos h2, if_neg (fun z => z.2.2 h2), L_add0]
          · rw [if_neg h2, show (if v_rank P k = v_rank P x ∧ v_prec P k x = true ∧ ¬v_claim P k ≤ v_claim P k * l / c then (1 : Int64) else 0) = 1 from if_pos ⟨h, h3, h2⟩]
        · rw [show (if v_rank P k = v_rank P x ∧ v_prec P k x = true ∧ ¬v_claim P k ≤ v_claim P k * l / c then (1 : Int64) else 0) = 0 from if_neg (fun z => h3 z.2.1), show (if v_prec P k x = true then jI 1 else (0 : Int32)) = 0 from if_neg h3, if_pos rfl, L_add0]
      · rw [if_neg h, if_neg (fun z => h z.1), L_add0]
def vShare (P : PrT) (x : Nat) (s : Int64) : Nat → Nat → Int64
  | r, 0 => if s < v_cl P (jI r) then v_shr P x s (v_cl P (jI r)) else v_claim P x
  | r, m + 1 => if v_cl P (jI r) ≤ s then vShare P x (s - v_cl P (jI r)) (r + 1) m else 0
theorem vShare_0 (P : PrT) (x : Nat) (s : Int64) (r : Nat) : vShare P x s r 0 = if s < v_cl P (jI r) then v_shr P x s (v_cl P (jI r)) else v_claim P x := rfl
theorem vShare_s (P : PrT) (x : Nat) (s : Int64) (r m : Nat) : vShare P x s r (m + 1) = if v_cl P (jI r) ≤ s then vShare P x (s - v_cl P (jI r)) (r + 1) m else 0 := rfl
theorem k_shareOf_lo (hb : b < 9) (hR : Rl B P (zrow b rows)) {x R : Nat} (hx : x < nli P) (hRk : v_rank P x = jI R) (hR3 : R ≤ 3) : ∀ (m r z : Nat) (s : Int64), r + m = R → m < z → 0 ≤ s.toInt → f_X5_shareOf_6 z (pj_co_rank P) (pj_ce_count P) (pj_ce_contract P) (pj_ce_open P) (pj_li_count P) (pj_li_contract P) (pj_li_amount P) (pj_li_filed P) (pj_li_withdrawn P) (jI x) s (jI r) = some (vShare P x s r m)
  | 0, r, 0, s, hk, hz, hs => absurd hz (by omega)
  | m + 1, r, 0, s, hk, hz, hs => absurd hz (by omega)
  | 0, r, z + 1, s, hk, hz, hs => by
    have e : r = R := by omega
    subst e
    simp (disch := omega) only [f_X5_shareOf_6, k_rankOf hR hx, hRk, zB1_s, jI_le, Nat.le_refl, if_true, k_claimsOfRank hb hR, k_claimOf hb hR hx]
    rw [vShare_0]
    by_cases h : s < v_cl P (jI r)
    · have h' := J_lt.mp h
      rw [if_pos h, k_partOf hb hR hx (J_lt.mpr (by rw [J_0]; omega)), zB1_s, if_pos h]
    · rw [if_neg h, if_neg h]
  | m + 1, r, z + 1, s, hk, hz, hs => by
    have hk2 : ¬ R ≤ r := by omega
    simp (disch := omega) only [f_X5_shareOf_6, k_rankOf hR hx, hRk, zB1_s, jI_le, hk2, if_false, k_claimsOfRank hb hR, jI_1, jI_add]
    rw [vShare_s]
    by_cases h : v_cl P (jI r) ≤ s
    · have h' := J_le.mp h
      obtain ⟨c1, c2, -⟩ := cl_bd hR (jI r)
      have := Int64.toInt_lt s
      have e := J_sub (a := s) (b := v_cl P (jI r)) (by omega) (by omega)
      rw [if_pos h, if_pos h, k_shareOf_lo hb hR hx hRk hR3 m (r + 1) z _ (by omega) (by omega) (by omega)]
    · rw [if_neg h, if_neg h]
theorem jL_c {r : Nat} (h : r < 2147483648) : jL r = (jI r).toInt64 := (jI_L h).symm
theorem sS_0 {g : Nat → Int64} : ∀ (m k : Nat), (∀ j, k ≤ j → j < k + m → g j = 0) → sS g k m = 0
  | 0, _, _ => rfl
  | m + 1, k, h => by
    rw [sS_s, h k (by omega) (by omega), sS_0 m (k + 1) (fun j h1 h2 => h j (by omega) (by omega))]
    rfl
theorem z_part (P : PrT) (k : Nat) (c : Int64) : v_part P k 0 c = 0 := by
  unfold v_part
  rw [Int64.mul_zero, Int64.zero_div]
theorem ah_pos (P : PrT) (x : Nat) (l c : Int64) (h12 : nli P ≤ 12) : 0 ≤ (sS (g_ah P x l c) 0 (nli P)).toInt := (sS_bd (g := g_ah P x l c) (M := 1) (by omega) (nli P) (by omega) (fun j hj => by
  unfold g_ah
  split
  · exact ⟨by decide, by decide⟩
  · exact ⟨by decide, by decide⟩)).1
theorem r_share_z (hb : b < 9) (hR : Rl B P (zrow b rows)) {x R : Nat} (hx : x < nli P) (hRk : v_rank P x = jI R) (hR3 : R ≤ 3) (t : Int32) : ∀ (m r z : Nat), r + m = R → m < z → f_X9_share_33 z t (jI b) rows (jI x) 0 (jL r) = some (0, t)
  | 0, r, 0, hk, hz => absurd hz (by omega)
  | m + 1, r, 0, hk, hz => absurd hz (by omega)
  | 0, r, z + 1, hk, hz => by
    have e : r = R := by omega
    subst e
    have h12 := hR.2.2.2.2.2.2.1.2.1
    obtain ⟨c1, c2, c3⟩ := cl_bd hR (jI r)
    simp (disch := omega) only [f_X9_share_33, r_rankOf hb hR hx, hRk, zB1_s, jI_L, jL_le, Nat.le_refl, if_true]
    rw [jL_c (by omega), r_claimsOf hb hR, zB1_s, r_claimOf hb hR hx, zB1_s, zB1_s]
    by_cases h : (0 : Int64) < v_cl P (jI r)
    · have hc0 : ¬ v_cl P (jI r) = 0 := fun z => by
        rw [z] at h
        exact absurd h (by decide)
      rw [if_pos h]
      have hp := r_partsOf hb hR hx (l := 0) hc0
      rw [hRk] at hp
      rw [hp, zB1_s, r_aheadWith hb hR hx hc0, zB1_s]
      have hz0 : v_claim P x * 0 / v_cl P (jI r) = 0 := z_part P x _
      unfold zG1
      rw [if_pos hc0, hz0, sS_0 (g := g_pt P x 0 (v_cl P (jI r))) (nli P) 0 (fun j _ _ => by
        unfold g_pt
        rw [z_part]
        split <;> rfl)]
      split
      · rfl
      · rw [zB1_s, if_pos (J_le.mpr (show (0 - 0 : Int64).toInt ≤ (sS (g_ah P x 0 (v_cl P (jI r))) 0 (nli P)).toInt from ah_pos P x 0 _ h12))]
        rfl
    · rw [if_neg h]
      have h' : ¬ (0 : Int64).toInt < (v_cl P (jI r)).toInt := fun z => h (J_lt.mpr z)
      have := c3 x hx hRk
      have := (claim_bd hR hx).1
      rw [J_0] at h'
      rw [show v_claim P x = 0 from Int64.toInt_inj.mp (by rw [J_0]; omega)]
  | m + 1, r, z + 1, hk, hz => by
    have hk2 : ¬ R ≤ r := by omega
    obtain ⟨c1, c2, c3⟩ := cl_bd hR (jI r)
    simp (disch := omega) only [f_X9_share_33, r_rankOf hb hR hx, hRk, zB1_s, jI_L, jL_le, hk2, if_false]
    rw [jL_c (by omega), r_claimsOf hb hR, zB1_s, ← jL_c (by omega), jL_1, jL_add]
    have e := J_sub (a := 0) (b := v_cl P (jI r)) (by rw [J_0]; omega) (by rw [J_0]; omega)
    rw [J_0] at e
    by_cases h : (0 : Int64) - v_cl P (jI r) < (0 : Int64)
    · rw [if_pos h]
      exact r_share_z hb hR hx hRk hR3 t m (r + 1) z (by omega) (by omega)
    · rw [if_neg h]
      have h' : ¬ ((0 : Int64) - v_cl P (jI r)).toInt < (0 : Int64).toInt := fun z => h (J_lt.mpr z)
      rw [J_0] at h'
      rw [show (0 : Int64) - v_cl P (jI r) = 0 from Int64.toInt_inj.mp (by rw [J_0]; omega)]
      exact r_share_z hb hR hx hRk hR3 t m (r + 1) z (by omega) (by omega)
theorem r_share_lo (hb : b < 9) (hR : Rl B P (zrow b rows)) {x R : Nat} (hx : x < nli P) (hRk : v_rank P x = jI R) (hR3 : R ≤ 3) (t : Int32) : ∀ (m r z : Nat) (s : Int64), r + m = R → m < z → 0 ≤ s.toInt → f_X9_share_33 z t (jI b) rows (jI x) s (jL r) = some (vShare P x s r m, t)
  | 0, r, 0, s, hk, hz, hs => absurd hz (by omega)
  | m + 1, r, 0, s, hk, hz, hs => absurd hz (by omega)
  | 0, r, z + 1, s, hk, hz, hs => by
    have e : r = R := by omega
    subst e
    simp (disch := omega) only [f_X9_share_33, r_rankOf hb hR hx, hRk, zB1_s, jI_L, jL_le, Nat.le_refl, if_true]
    rw [jL_c (by omega), r_claimsOf hb hR, zB1_s, r_claimOf hb hR hx, zB1_s, zB1_s, vShare_0]
    by_cases h : s < v_cl P (jI r)
    · have h' := J_lt.mp h
      have hc0 : ¬ v_cl P (jI r) = 0 := fun z => by
        rw [z, J_0] at h'
        omega
      rw [if_pos h, if_pos h]
      have hp := r_partsOf hb hR hx (l := s) hc0
      rw [hRk] at hp
      rw [hp, zB1_s, r_aheadWith hb hR hx hc0, zB1_s]
      unfold zG1 v_shr
      rw [if_pos hc0, L_add0]
      show (if v_claim P x ≤ v_part P x s (v_cl P (jI r)) then some (v_part P x s (v_cl P (jI r)), t) else if _ then some (v_part P x s (v_cl P (jI r)), t) else some (v_part P x s (v_cl P (jI r)) + 1, t)) = _
      split
      · rfl
      · split <;> rfl
    · rw [if_neg h, if_neg h]
  | m + 1, r, z + 1, s, hk, hz, hs => by
    have hk2 : ¬ R ≤ r := by omega
    obtain ⟨c1, c2, c3⟩ := cl_bd hR (jI r)
    have := Int64.toInt_lt s
    simp (disch := omega) only [f_X9_share_33, r_rankOf hb hR hx, hRk, zB1_s, jI_L, jL_le, hk2, if_false]
    rw [jL_c (by omega), r_claimsOf hb hR, zB1_s, ← jL_c (by omega), jL_1, jL_add, vShare_s]
    have e := J_sub (a := s) (b := v_cl P (jI r)) (by omega) (by omega)
    by_cases h : v_cl P (jI r) ≤ s
    · have h' := J_le.mp h
      rw [if_neg (fun z => by have := J_lt.mp z; rw [J_0] at this; omega), if_pos h]
      exact r_share_lo hb hR hx hRk hR3 t m (r + 1) z _ (by omega) (by omega) (by omega)
    · have h' : ¬ (v_cl P (jI r)).toInt ≤ s.toInt := fun z => h (J_le.mpr z)
      rw [if_pos (J_lt.mpr (by rw [J_0]; omega)), if_neg h]
      exact r_share_z hb hR hx hRk hR3 t m (r + 1) z (by omega) (by omega)
/-! has a contract a claim -/
def v_has (P : PrT) (x : Int32) : Bool := sE (fun k => decide (pj_li_contract P k = x) && decide (¬ v_claim P k ≤ 0)) 0 (nli P)
theorem k_hasClaim (hb : b < 9) (hR : Rl B P (zrow b rows)) (x : Int32) : f_X5_hasClaim (pj_ce_count P) (pj_ce_contract P) (pj_ce_open P) (pj_li_count P) (pj_li_contract P) (pj_li_amount P) (pj_li_withdrawn P) x = some (if v_has P x = true then 1 else 0) := by
  obtain ⟨hc, h12, -, -⟩ := hR.2.2.2.2.2.2.1
  unfold f_X5_hasClaim
  have hfu := FU_k
  generalize FU = fu at hfu ⊢
  refine r_zero_E (F := fun z k => f_X5_hasClaim_2 z (pj_ce_count P) (pj_ce_contract P) (pj_ce_open P) (pj_li_count P) (pj_li_contract P) (pj_li_amount P) (pj_li_withdrawn P) x k) (n := nli P) hfu (by omega) ?_ ?_
  · intro z
    simp (disch := omega) only [f_X5_hasClaim_2, hc, jI_le, Nat.le_refl, if_true]
  · intro z k hk
    have hk2 : ¬ nli P ≤ k := by omega
    have e2 := k_claimOf hb hR hk
    simp (disch := omega) only [f_X5_hasClaim_2, hc, jI_le, hk2, if_false, zR_n, e2, zB1_s, jI_1, jI_add]
    by_cases h1 : pj_li_contract P k = x
    · by_cases h2 : v_claim P k ≤ 0 <;> simp [h1, h2]
    · simp [h1]
theorem r_hasClaim (hb : b < 9) (hR : Rl B P (zrow b rows)) (x : Int32) : f_X9_hasClaim (jI b) rows x = some (if v_has P x = true then 1 else 0) := by
  obtain ⟨-, h12, h6, hq⟩ := hR.2.2.2.2.2.2.1
  unfold f_X9_hasClaim
  have hfu := FU_k
  generalize FU = fu at hfu ⊢
  refine r_zero_E (F := fun z k => f_X9_hasClaim_2 z (jI b) rows x k) (n := nli P) hfu (by omega) ?_ ?_
  · intro z
    simp (disch := omega) only [f_X9_hasClaim_2, jI_6, X9_get, zB1_s, h6, jI_L, jL_le, Nat.le_refl, if_true]
  · intro z k hk
    have hk2 : ¬ nli P ≤ k := by omega
    have e2 := r_claimOf hb hR hk
    obtain ⟨⟨e1, -⟩, -⟩ := hq k hk
    simp (disch := omega) only [f_X9_hasClaim_2, jI_6, X9_get, zB1_s, h6, jI_L, jL_le, hk2, if_false, X9_lien, e1, e2, L_eq, jI_1, jI_add]
    by_cases h1 : pj_li_contract P k = x
    · by_cases h2 : v_claim P k ≤ 0 <;> simp [h1, h2]
    · simp [h1]
end SHARE
