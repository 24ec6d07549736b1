/-! layer 3: liens -/
theorem I_01 {x : Int32} (h0 : 0 ≤ x.toInt) (h1 : x.toInt ≤ 1) : x = 0 ∨ x = 1 := by
  by_cases h : x.toInt = 0
  · exact Or.inl (Int32.toInt_inj.mp h)
  · exact Or.inr (Int32.toInt_inj.mp (show x.toInt = 1 by omega))
theorem J_le {a b : Int64} : a ≤ b ↔ a.toInt ≤ b.toInt := Int64.le_iff_toInt_le
theorem J_lt {a b : Int64} : a < b ↔ a.toInt < b.toInt := Int64.lt_iff_toInt_lt
theorem J_0 : (0 : Int64).toInt = 0 := rfl
theorem sS_bd {g : Nat → Int64} {M : Int} (hM : 0 ≤ M) : ∀ (n : Nat), (n : Int) * M < 9223372036854775808 → (∀ j, j < n → 0 ≤ (g j).toInt ∧ (g j).toInt ≤ M) → 0 ≤ (sS g 0 n).toInt ∧ (sS g 0 n).toInt ≤ (n : Int) * M ∧ ∀ j, j < n → (g j).toInt ≤ (sS g 0 n).toInt
  | 0, _, _ => ⟨Int.le_refl (0 : Int), by rw [show ((0 : Nat) : Int) * M = 0 by simp]; exact Int.le_refl (0 : Int), fun j hj => absurd hj (by omega)⟩
  | n + 1, hn, h => by
    have e : ((n + 1 : Nat) : Int) * M = (n : Int) * M + M := by rw [Int.natCast_add, Int.add_mul]; simp
    rw [e] at hn
    obtain ⟨a1, a2, a3⟩ := sS_bd (g := g) hM n (by omega) (fun j hj => h j (by omega))
    obtain ⟨b1, b2⟩ := h n (by omega)
    rw [sS_r, Nat.zero_add, J_add (by omega) (by omega), e]
    refine ⟨by omega, by omega, fun j hj => ?_⟩
    by_cases hjn : j = n
    · subst hjn
      omega
    · have := a3 j (by omega)
      omega
theorem lo_2 {α : Type} {F : Nat → Int64 → Int64 → Int32 → Option α} {n : Nat} {g h : Nat → Int64} {post : Int64 → Int64 → Option α} (h1 : ∀ z r s, F (z + 1) r s (jI n) = post r s) (h2 : ∀ z r s k, k < n → F (z + 1) r s (jI k) = F z (r - g k) (s + h k) (jI (k + 1))) : ∀ (m k z : Nat) (r s : Int64), k + m = n → m < z → F z r s (jI k) = post (r - sS g k m) (s + sS h k m)
  | 0, k, 0, r, s, hk, hz => absurd hz (by omega)
  | m + 1, k, 0, r, s, hk, hz => absurd hz (by omega)
  | 0, k, z + 1, r, s, hk, hz => by
    have e : k = n := by omega
    subst e
    rw [h1]
    show _ = post (r - 0) (s + 0)
    rw [L_add0, Int64.sub_zero]
  | m + 1, k, z + 1, r, s, hk, hz => by
    rw [h2 z r s k (by omega), lo_2 h1 h2 m (k + 1) z _ _ (by omega) (by omega), sS_s, sS_s, L_assoc]
    congr 1
    rw [Int64.sub_eq_add_neg, Int64.sub_eq_add_neg, Int64.sub_eq_add_neg, Int64.neg_add, Int64.sub_eq_add_neg, L_assoc]
def sF (p : Nat → Bool) : Nat → Nat → Option Nat
  | _, 0 => none
  | k, m + 1 => if p k = true then some k else sF p (k + 1) m
theorem sF_s (p : Nat → Bool) (k m : Nat) : sF p k (m + 1) = if p k = true then some k else sF p (k + 1) m := rfl
def sLst (p : Nat → Bool) : Nat → Nat → Option Nat → Option Nat
  | _, 0, a => a
  | k, m + 1, a => sLst p (k + 1) m (if p k = true then some k else a)
theorem sLst_s (p : Nat → Bool) (k m : Nat) (a : Option Nat) : sLst p k (m + 1) a = sLst p (k + 1) m (if p k = true then some k else a) := rfl
theorem sLst_no {p : Nat → Bool} : ∀ (m k : Nat) (a : Option Nat), (∀ j, k ≤ j → j < k + m → p j = false) → sLst p k m a = a
  | 0, _, _, _ => rfl
  | m + 1, k, a, h => by
    rw [sLst_s, h k (by omega) (by omega), sLst_no m (k + 1) _ (fun j h1 h2 => h j (by omega) (by omega))]
    simp
theorem sF_Lst {p : Nat → Bool} : ∀ (m k : Nat), (∀ i j, k ≤ i → i < k + m → k ≤ j → j < k + m → p i = true → p j = true → i = j) → sLst p k m none = sF p k m
  | 0, _, _ => rfl
  | m + 1, k, h => by
    rw [sLst_s, sF_s]
    by_cases hp : p k = true
    · rw [if_pos hp, if_pos hp]
      refine sLst_no m (k + 1) _ (fun j h1 h2 => ?_)
      cases hj : p j with
      | false => rfl
      | true => exact absurd (h k j (by omega) (by omega) (by omega) (by omega) hp hj) (by omega)
    · rw [if_neg hp, if_neg hp]
      exact sF_Lst m (k + 1) (fun i j a1 a2 a3 a4 => h i j (by omega) (by omega) (by omega) (by omega))
def oI : Option Nat → Int32
  | some i => jI i
  | none => -1
theorem sN_lt {p q : Nat → Bool} : ∀ (m k : Nat) (h : ∀ j, k ≤ j → j < k + m → p j = true → q j = true), sN p k m ≤ sN q k m ∧ ∀ i, k ≤ i → i < k + m → p i = false → q i = true → sN p k m < sN q k m
  | 0, k, h => ⟨Nat.le_refl _, fun i h1 h2 => absurd h2 (by omega)⟩
  | m + 1, k, h => by
    obtain ⟨a1, a2⟩ := sN_lt (p := p) (q := q) m (k + 1) (fun j h1 h2 => h j (by omega) (by omega))
    have hk := h k (by omega) (by omega)
    rw [sN_s, sN_s]
    refine ⟨?_, fun i h1 h2 h3 h4 => ?_⟩
    · cases hp : p k with
      | false => simp; omega
      | true => rw [hk hp]; simp; omega
    · by_cases hik : i = k
      · subst hik
        rw [h3, h4]
        simp
        omega
      · have := a2 i (by omega) (by omega) h3 h4
        cases hp : p k with
        | false => simp; omega
        | true => rw [hk hp]; simp; omega
section LIEN
variable {B : Int} {P : PrT} {b : Nat} {rows : Nat → Int64}
def v_claim (P : PrT) (k : Nat) : Int64 := if pj_li_withdrawn P k = 0 then (if v_unp P (pj_li_contract P k) < pj_li_amount P k then v_unp P (pj_li_contract P k) else pj_li_amount P k) else 0
def v_rank (P : PrT) (k : Nat) : Int32 := pj_co_rank P (pj_li_contract P k).toNatClampNeg
def v_prec (P : PrT) (a c : Nat) : Bool := if v_rank P a = v_rank P c then (if pj_li_filed P a = pj_li_filed P c then decide (a < c) else decide (pj_li_filed P a < pj_li_filed P c)) else decide (v_rank P a < v_rank P c)
theorem li_f (hR : Rl B P (zrow b rows)) {k : Nat} (hk : k < nli P) : ∃ c, c < nco P ∧ pj_li_contract P k = jI c ∧ (pj_li_contract P k).toNatClampNeg = c := by
  have h8 := hR.2.2.1.2.1
  obtain ⟨⟨-, c, hc, e⟩, -⟩ := hR.2.2.2.2.2.2.1.2.2.2 k hk
  exact ⟨c, hc, e, by rw [e, jI_nat (by omega)]⟩
theorem k_claimOf (hb : b < 9) (hR : Rl B P (zrow b rows)) {k : Nat} (hk : k < nli P) : f_X5_claimOf (pj_ce_count P) (pj_ce_contract P) (pj_ce_open P) (pj_li_contract P) (pj_li_amount P) (pj_li_withdrawn P) (jI k) = some (v_claim P k) := by
  have h12 := hR.2.2.2.2.2.2.1.2.1
  unfold f_X5_claimOf v_claim
  rw [zR_n (by omega) (by omega)]
  by_cases h : pj_li_withdrawn P k = 0
  · rw [if_pos h, if_pos h, zR_n (by omega) (by omega), zR_n (by omega) (by omega), k_unpaidOf hb hR, zB1_s]
  · rw [if_neg h, if_neg h]
theorem r_claimOf (hb : b < 9) (hR : Rl B P (zrow b rows)) {k : Nat} (hk : k < nli P) : f_X9_claimOf (jI b) rows (jI k) = some (v_claim P k) := by
  have h12 := hR.2.2.2.2.2.2.1.2.1
  obtain ⟨⟨e1, -⟩, ⟨e2, -⟩, -, ⟨e4, w0, w1⟩⟩ := hR.2.2.2.2.2.2.1.2.2.2 k hk
  unfold f_X9_claimOf v_claim
  rw [X9_lien, zB1_s, jI_3, jI_add, X9_get hb (by omega), zB1_s, e4]
  rcases I_01 w0 w1 with h | h
  · rw [h, if_neg (by decide), if_pos rfl, zB1_s, jI_1, jI_add, X9_get hb (by omega), zB1_s, zB1_s, X9_small hb (by omega), zB1_s, e1, Int32.toInt32_toInt64, r_unpaidOf hb hR, zB1_s, e2]
  · rw [h, if_pos (by decide), if_neg (by decide)]
theorem k_rankOf (hR : Rl B P (zrow b rows)) {k : Nat} (hk : k < nli P) : f_X5_rankOf (pj_co_rank P) (pj_li_contract P) (jI k) = some (v_rank P k) := by
  have h12 := hR.2.2.2.2.2.2.1.2.1
  have h8 := hR.2.2.1.2.1
  obtain ⟨c, hc, e1, e2⟩ := li_f hR hk
  unfold f_X5_rankOf v_rank
  rw [zR_n (by omega) (by omega), e1, zR_n (by omega) (by omega), jI_nat (by omega)]
theorem r_rankOf (hb : b < 9) (hR : Rl B P (zrow b rows)) {k : Nat} (hk : k < nli P) : f_X9_rankOf (jI b) rows (jI k) = some (v_rank P k).toInt64 := by
  have h12 := hR.2.2.2.2.2.2.1.2.1
  have h8 := hR.2.2.1.2.1
  obtain ⟨⟨e0, -⟩, -⟩ := hR.2.2.2.2.2.2.1.2.2.2 k hk
  obtain ⟨c, hc, e1, e2⟩ := li_f hR hk
  obtain ⟨-, -, -, -, ⟨r1, -⟩, -⟩ := hR.2.2.1.2.2.2 c hc
  unfold f_X9_rankOf v_rank
  rw [X9_lien, zB1_s, X9_small hb (by omega), zB1_s, e0, Int32.toInt32_toInt64, e2, e1, X9_at, zB1_s, jI_4, jI_add, X9_get hb (by omega), zB1_s, r1]
theorem rank_bd (hR : Rl B P (zrow b rows)) {k : Nat} (hk : k < nli P) : ∃ r, r ≤ 3 ∧ v_rank P k = jI r := by
  obtain ⟨c, hc, e1, e2⟩ := li_f hR hk
  obtain ⟨-, -, -, -, ⟨-, r1, r2⟩, -⟩ := hR.2.2.1.2.2.2 c hc
  refine ⟨(v_rank P k).toInt.toNat, ?_, ?_⟩
  · unfold v_rank
    rw [e2]
    omega
  · unfold v_rank
    rw [e2, ← Int32.toInt_inj, jI_toInt (by omega)]
    omega
theorem k_precedes (hR : Rl B P (zrow b rows)) {a k : Nat} (ha : a < nli P) (hk : k < nli P) : f_X5_precedes (pj_co_rank P) (pj_li_contract P) (pj_li_filed P) (jI a) (jI k) = some (if v_prec P a k = true then 1 else 0) := by
  have h12 := hR.2.2.2.2.2.2.1.2.1
  unfold f_X5_precedes v_prec
  rw [k_rankOf hR ha, k_rankOf hR hk, zB1_s, zB1_s, zB1_s, zB1_s, zR_n (by omega) (by omega), zR_n (by omega) (by omega)]
  by_cases h1 : v_rank P a = v_rank P k
  · rw [if_pos h1, if_pos h1]
    by_cases h2 : pj_li_filed P a = pj_li_filed P k
    · rw [if_pos h2, if_pos h2]
      by_cases h3 : a < k
      · rw [if_neg (by rw [jI_le (by omega) (by omega)]; omega), if_pos (decide_eq_true h3)]
      · rw [if_pos (by rw [jI_le (by omega) (by omega)]; omega), if_neg (by simp [h3])]
    · rw [if_neg h2, if_neg h2, zR_n (by omega) (by omega), zR_n (by omega) (by omega)]
      by_cases h3 : pj_li_filed P a < pj_li_filed P k
      · rw [if_neg (I_nle.mpr h3), if_pos (decide_eq_true h3)]
      · rw [if_pos (I_nlt.mp h3), if_neg (by simp [h3])]
  · rw [if_neg h1, if_neg h1]
    by_cases h3 : v_rank P a < v_rank P k
    · rw [if_neg (I_nle.mpr h3), if_pos (decide_eq_true h3)]
    · rw [if_pos (I_nlt.mp h3), if_neg (by simp [h3])]
theorem r_isAhead (hb : b < 9) (hR : Rl B P (zrow b rows)) {a k : Nat} (ha : a < nli P) (hk : k < nli P) : f_X9_isAhead (jI b) rows (jI a) (jI k) = some (if v_prec P a k = true then 1 else 0) := by
  have h12 := hR.2.2.2.2.2.2.1.2.1
  obtain ⟨-, -, ⟨fa, -⟩, -⟩ := hR.2.2.2.2.2.2.1.2.2.2 a ha
  obtain ⟨-, -, ⟨fk, -⟩, -⟩ := hR.2.2.2.2.2.2.1.2.2.2 k hk
  unfold f_X9_isAhead v_prec
  simp (disch := omega) only [r_rankOf hb hR ha, r_rankOf hb hR hk, zB1_s, X9_lien, jI_2, jI_add, X9_get, fa, fk, L_eq, L_le]
  by_cases h1 : v_rank P a = v_rank P k
  · rw [if_pos h1, if_pos h1]
    by_cases h2 : pj_li_filed P a = pj_li_filed P k
    · rw [if_pos h2, if_pos h2]
      by_cases h3 : a < k
      · rw [if_neg (by rw [jI_le (by omega) (by omega)]; omega), if_pos (decide_eq_true h3)]
      · rw [if_pos (by rw [jI_le (by omega) (by omega)]; omega), if_neg (by simp [h3])]
    · rw [if_neg h2, if_neg h2]
      by_cases h3 : pj_li_filed P a < pj_li_filed P k
      · rw [if_neg (I_nle.mpr h3), if_pos (decide_eq_true h3)]
      · rw [if_pos (I_nlt.mp h3), if_neg (by simp [h3])]
  · rw [if_neg h1, if_neg h1]
    by_cases h3 : v_rank P a < v_rank P k
    · rw [if_neg (I_nle.mpr h3), if_pos (decide_eq_true h3)]
    · rw [if_pos (I_nlt.mp h3), if_neg (by simp [h3])]
theorem v_prec_self (P : PrT) (k : Nat) : v_prec P k k = false := by simp [v_prec]
theorem I_lt_trans {x y z : Int32} (h1 : x < y) (h2 : y < z) : x < z := by
  have := Int32.lt_iff_toInt_lt.mp h1
  have := Int32.lt_iff_toInt_lt.mp h2
  exact Int32.lt_iff_toInt_lt.mpr (by omega)
theorem I_lt_irr {x : Int32} : ¬ x < x := fun h => by have := Int32.lt_iff_toInt_lt.mp h; omega
theorem I_lt_tot {x y : Int32} (h : ¬ x = y) : x < y ∨ y < x := by
  by_cases h1 : x.toInt < y.toInt
  · exact Or.inl (Int32.lt_iff_toInt_lt.mpr h1)
  · by_cases h2 : y.toInt < x.toInt
    · exact Or.inr (Int32.lt_iff_toInt_lt.mpr h2)
    · exact absurd (Int32.toInt_inj.mp (by omega)) h
theorem v_prec_iff {P : PrT} {a c : Nat} : v_prec P a c = true ↔ (v_rank P a < v_rank P c ∨ (v_rank P a = v_rank P c ∧ (pj_li_filed P a < pj_li_filed P c ∨ (pj_li_filed P a = pj_li_filed P c ∧ a < c)))) := by
  unfold v_prec
  by_cases h1 : v_rank P a = v_rank P c
  · rw [if_pos h1]
    by_cases h2 : pj_li_filed P a = pj_li_filed P c
    · rw [if_pos h2, decide_eq_true_iff]
      constructor
      · exact fun h => Or.inr ⟨h1, Or.inr ⟨h2, h⟩⟩
      · rintro (h | ⟨-, h | ⟨-, h⟩⟩)
        · rw [h1] at h
          exact absurd h I_lt_irr
        · rw [h2] at h
          exact absurd h I_lt_irr
        · exact h
    · rw [if_neg h2, decide_eq_true_iff]
      constructor
      · exact fun h => Or.inr ⟨h1, Or.inl h⟩
      · rintro (h | ⟨-, h | ⟨h, -⟩⟩)
        · rw [h1] at h
          exact absurd h I_lt_irr
        · exact h
        · exact absurd h h2
  · rw [if_neg h1, decide_eq_true_iff]
    constructor
    · exact Or.inl
    · rintro (h | ⟨h, -⟩)
      · exact h
      · exact absurd h h1
theorem v_prec_trans {P : PrT} {x y z : Nat} (h1 : v_prec P x y = true) (h2 : v_prec P y z = true) : v_prec P x z = true := by
  rw [v_prec_iff] at h1 h2 ⊢
  rcases h1 with h1 | ⟨e1, h1 | ⟨f1, h1⟩⟩ <;> rcases h2 with h2 | ⟨e2, h2 | ⟨f2, h2⟩⟩
  · exact Or.inl (I_lt_trans h1 h2)
  · exact Or.inl (e2 ▸ h1)
  · exact Or.inl (e2 ▸ h1)
  · exact Or.inl (e1 ▸ h2)
  · exact Or.inr ⟨e1.trans e2, Or.inl (I_lt_trans h1 h2)⟩
  · exact Or.inr ⟨e1.trans e2, Or.inl (f2 ▸ h1)⟩
  · exact Or.inl (e1 ▸ h2)
  · exact Or.inr ⟨e1.trans e2, Or.inl (f1 ▸ h2)⟩
  · exact Or.inr ⟨e1.trans e2, Or.inr ⟨f1.trans f2, by omega⟩⟩
theorem v_prec_tot {P : PrT} {x y : Nat} (h : x ≠ y) : v_prec P x y = true ∨ v_prec P y x = true := by
  rw [v_prec_iff, v_prec_iff]
  by_cases h1 : v_rank P x = v_rank P y
  · by_cases h2 : pj_li_filed P x = pj_li_filed P y
    · rcases Nat.lt_or_gt_of_ne h with h3 | h3
      · exact Or.inl (Or.inr ⟨h1, Or.inr ⟨h2, h3⟩⟩)
      · exact Or.inr (Or.inr ⟨h1.symm, Or.inr ⟨h2.symm, h3⟩⟩)
    · rcases I_lt_tot h2 with h3 | h3
      · exact Or.inl (Or.inr ⟨h1, Or.inl h3⟩)
      · exact Or.inr (Or.inr ⟨h1.symm, Or.inl h3⟩)
  · rcases I_lt_tot h1 with h3 | h3
    · exact Or.inl (Or.inl h3)
    · exact Or.inr (Or.inl h3)
def vPl (P : PrT) (k : Nat) : Nat := sN (fun j => v_prec P j k) 0 (nli P)
theorem vPl_lt {P : PrT} {x y : Nat} (hx : x < nli P) (h : v_prec P x y = true) : vPl P x < vPl P y :=
  (sN_lt (p := fun j => v_prec P j x) (q := fun j => v_prec P j y) (nli P) 0 (fun j _ _ hj => v_prec_trans hj h)).2 x (by omega) (by omega) (v_prec_self P x) h
theorem vPl_inj {P : PrT} {x y : Nat} (hx : x < nli P) (hy : y < nli P) (h : vPl P x = vPl P y) : x = y := by
  by_cases e : x = y
  · exact e
  · rcases v_prec_tot (P := P) e with h1 | h1
    · have := vPl_lt hx h1
      omega
    · have := vPl_lt hy h1
      omega
theorem sN_le (p : Nat → Bool) : ∀ (m k : Nat), sN p k m ≤ m
  | 0, _ => Nat.le_refl _
  | m + 1, k => by
    have := sN_le p m (k + 1)
    rw [sN_s]
    cases p k <;> simp <;> omega
theorem r_placeOf (hb : b < 9) (hR : Rl B P (zrow b rows)) {k : Nat} (hk : k < nli P) : f_X9_placeOf (jI b) rows (jI k) = some (jI (vPl P k)) := by
  obtain ⟨-, h12, h6, -⟩ := hR.2.2.2.2.2.2.1
  unfold f_X9_placeOf
  have hfu := FU_k
  generalize FU = fu at hfu ⊢
  refine r_zero_N (F := fun z a j => f_X9_placeOf_4 z (jI b) rows (jI k) a j) (n := nli P) (p := fun j => v_prec P j k) (post := fun a => some a) hfu (by omega) ?_ ?_
  · intro z acc
    simp (disch := omega) only [f_X9_placeOf_4, jI_6, X9_get, zB1_s, h6, jI_L, jL_le, Nat.le_refl, if_true]
  · intro z a j hj
    have hk2 : ¬ nli P ≤ j := by omega
    have hah := r_isAhead hb hR hj hk
    simp (disch := omega) only [f_X9_placeOf_4, jI_6, X9_get, zB1_s, h6, jI_L, jL_le, hk2, if_false, jI_eq, hah, Int32.add_zero]
    by_cases hjk : j = k
    · subst hjk
      rw [if_pos rfl, v_prec_self, if_neg (by decide), jI_1, jI_add]
      rfl
    · rw [if_neg hjk]
      by_cases h : v_prec P j k = true
      · simp only [h, if_true]
        rw [if_neg (by decide), jI_1, jI_add, jI_add]
      · simp only [h, if_false, Bool.false_eq_true, if_true]
        rw [jI_1, jI_add]
        rfl
theorem k_lienAt (hR : Rl B P (zrow b rows)) {x : Nat} (hx : x < nli P) : f_X5_lienAt (pj_co_rank P) (pj_li_count P) (pj_li_contract P) (pj_li_filed P) (jI x) = some (oI (sF (fun k => decide (vPl P k = x)) 0 (nli P))) := by
  obtain ⟨hc, h12, -, -⟩ := hR.2.2.2.2.2.2.1
  unfold f_X5_lienAt
  have key : ∀ (m k z : Nat), k + m = nli P → m < z → f_X5_lienAt_2 z (pj_co_rank P) (pj_li_count P) (pj_li_contract P) (pj_li_filed P) (jI x) (jI k) = some (oI (sF (fun k => decide (vPl P k = x)) k m)) := by
    intro m
    induction m with
    | zero =>
      intro k z hk hz
      obtain ⟨z, rfl⟩ : ∃ z', z = z' + 1 := ⟨z - 1, by omega⟩
      simp only [f_X5_lienAt_2]
      rw [hc, if_pos (by rw [jI_le (by omega) (by omega)]; omega)]
      rfl
    | succ m ih =>
      intro k z hk hz
      obtain ⟨z, rfl⟩ : ∃ z', z = z' + 1 := ⟨z - 1, by omega⟩
      simp only [f_X5_lienAt_2]
      rw [hc, if_neg (by rw [jI_le (by omega) (by omega)]; omega)]
      have hfu := FU_k
      generalize FU = fu at hfu ⊢
      have ih' := ih (k + 1) z (by omega) (by omega)
      rw [hc] at ih'
      have N := r_zero_N (F := fun z2 a j => f_X5_lienAt_18 (f_X5_lienAt_2 z) z2 (pj_co_rank P) (jI (nli P)) (pj_li_contract P) (pj_li_filed P) (jI x) (jI k) a j) (n := nli P) (p := fun j => v_prec P j k) (post := fun a => if a = jI x then some (jI k) else f_X5_lienAt_2 z (pj_co_rank P) (jI (nli P)) (pj_li_contract P) (pj_li_filed P) (jI x) (jI k + 1)) hfu (by omega) ?_ ?_
      · refine N.trans ?_
        have hle : vPl P k ≤ nli P := sN_le _ _ _
        rw [sF_s]
        show (if jI (vPl P k) = jI x then _ else _) = _
        by_cases h : vPl P k = x
        · rw [if_pos (by rw [h]), if_pos (decide_eq_true h)]
          rfl
        · rw [if_neg (fun z => h ((jI_eq (by omega) (by omega)).mp z)), if_neg (by simp [h]), jI_1, jI_add, ih']
      · intro z2 acc
        simp only [f_X5_lienAt_18]
        rw [if_pos (Int32.le_refl _)]
      · intro z2 a j hj
        have hpr := k_precedes hR (a := j) (k := k) hj (by omega)
        simp only [f_X5_lienAt_18]
        rw [if_neg (by rw [jI_le (by omega) (by omega)]; omega), hpr, zB1_s]
        by_cases h : v_prec P j k = true
        · simp only [h, if_true]
          rw [if_neg (by decide), jI_1, jI_add, jI_add]
        · simp only [h, if_false, Bool.false_eq_true, if_true]
          rw [jI_1, jI_add]
          rfl
  have hfu := FU_k
  generalize FU = fu at hfu ⊢
  exact key (nli P) 0 fu (by omega) (by omega)
theorem r_priority_lo (hb : b < 9) (hR : Rl B P (zrow b rows)) {x : Nat} (hx : x < nli P) (t : Int32) : f_X9_priority_14 FU t (jI b) rows (jI x) (-1 : Int32) (0 : Int32) = some (oI (sF (fun k => decide (vPl P k = x)) 0 (nli P)), t) := by
  obtain ⟨-, h12, h6, -⟩ := hR.2.2.2.2.2.2.1
  have key : ∀ (m k z : Nat) (a : Option Nat), k + m = nli P → m < z → f_X9_priority_14 z t (jI b) rows (jI x) (oI a) (jI k) = some (oI (sLst (fun k => decide (vPl P k = x)) k m a), t) := by
    intro m
    induction m with
    | zero =>
      intro k z a hk hz
      obtain ⟨z, rfl⟩ : ∃ z', z = z' + 1 := ⟨z - 1, by omega⟩
      simp only [f_X9_priority_14]
      rw [jI_6, X9_get hb (by omega), zB1_s, h6, jI_L (by omega), if_pos (by rw [jL_le (by omega) (by omega)]; omega)]
      rfl
    | succ m ih =>
      intro k z a hk hz
      obtain ⟨z, rfl⟩ : ∃ z', z = z' + 1 := ⟨z - 1, by omega⟩
      simp only [f_X9_priority_14]
      have hle : vPl P k ≤ nli P := sN_le _ _ _
      rw [jI_6, X9_get hb (by omega), zB1_s, h6, jI_L (by omega), if_neg (by rw [jL_le (by omega) (by omega)]; omega), r_placeOf hb hR (by omega), zB1_s, sLst_s, jI_1, jI_add]
      by_cases h : vPl P k = x
      · rw [if_pos (by rw [h]), if_pos (decide_eq_true h)]
        exact ih (k + 1) z (some k) (by omega) (by omega)
      · rw [if_neg (fun z => h ((jI_eq (by omega) (by omega)).mp z)), if_neg (by simp [h])]
        exact ih (k + 1) z a (by omega) (by omega)
  have hfu := FU_k
  generalize FU = fu at hfu ⊢
  rw [← sF_Lst (nli P) 0 (fun i j _ hi _ hj h1 h2 => vPl_inj (by omega) (by omega) ((of_decide_eq_true h1).trans (of_decide_eq_true h2).symm))]
  exact key (nli P) 0 fu none (by omega) (by omega)
end LIEN
