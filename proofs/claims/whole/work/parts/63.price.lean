/-! layer 3: numbers as integers; the rate -/
theorem I_add {a b : Int32} (h1 : -2147483648 ≤ a.toInt + b.toInt) (h2 : a.toInt + b.toInt < 2147483648) : (a + b).toInt = a.toInt + b.toInt := by
  rw [Int32.toInt_add]
  exact Int.bmod_eq_of_le (by omega) (by omega)
theorem I_sub {a b : Int32} (h1 : -2147483648 ≤ a.toInt - b.toInt) (h2 : a.toInt - b.toInt < 2147483648) : (a - b).toInt = a.toInt - b.toInt := by
  rw [Int32.toInt_sub]
  exact Int.bmod_eq_of_le (by omega) (by omega)
theorem I_mul {a b : Int32} (h1 : -2147483648 ≤ a.toInt * b.toInt) (h2 : a.toInt * b.toInt < 2147483648) : (a * b).toInt = a.toInt * b.toInt := by
  rw [Int32.toInt_mul]
  exact Int.bmod_eq_of_le (by omega) (by omega)
theorem J_add {a b : Int64} (h1 : -9223372036854775808 ≤ a.toInt + b.toInt) (h2 : a.toInt + b.toInt < 9223372036854775808) : (a + b).toInt = a.toInt + b.toInt := by
  rw [Int64.toInt_add]
  exact Int.bmod_eq_of_le (by omega) (by omega)
theorem J_sub {a b : Int64} (h1 : -9223372036854775808 ≤ a.toInt - b.toInt) (h2 : a.toInt - b.toInt < 9223372036854775808) : (a - b).toInt = a.toInt - b.toInt := by
  rw [Int64.toInt_sub]
  exact Int.bmod_eq_of_le (by omega) (by omega)
theorem J_mul {a b : Int64} (h1 : -9223372036854775808 ≤ a.toInt * b.toInt) (h2 : a.toInt * b.toInt < 9223372036854775808) : (a * b).toInt = a.toInt * b.toInt := by
  rw [Int64.toInt_mul]
  exact Int.bmod_eq_of_le (by omega) (by omega)
theorem C_add {a b : Int32} (h1 : -2147483648 ≤ a.toInt + b.toInt) (h2 : a.toInt + b.toInt < 2147483648) : (a + b).toInt64 = a.toInt64 + b.toInt64 := by
  rw [← Int64.toInt_inj, Int32.toInt_toInt64, I_add h1 h2, J_add (by rw [Int32.toInt_toInt64, Int32.toInt_toInt64]; omega) (by rw [Int32.toInt_toInt64, Int32.toInt_toInt64]; omega), Int32.toInt_toInt64, Int32.toInt_toInt64]
theorem C_sub {a b : Int32} (h1 : -2147483648 ≤ a.toInt - b.toInt) (h2 : a.toInt - b.toInt < 2147483648) : (a - b).toInt64 = a.toInt64 - b.toInt64 := by
  rw [← Int64.toInt_inj, Int32.toInt_toInt64, I_sub h1 h2, J_sub (by rw [Int32.toInt_toInt64, Int32.toInt_toInt64]; omega) (by rw [Int32.toInt_toInt64, Int32.toInt_toInt64]; omega), Int32.toInt_toInt64, Int32.toInt_toInt64]
theorem C_mul {a b : Int32} (h1 : -2147483648 ≤ a.toInt * b.toInt) (h2 : a.toInt * b.toInt < 2147483648) : (a * b).toInt64 = a.toInt64 * b.toInt64 := by
  rw [← Int64.toInt_inj, Int32.toInt_toInt64, I_mul h1 h2, J_mul (by rw [Int32.toInt_toInt64, Int32.toInt_toInt64]; omega) (by rw [Int32.toInt_toInt64, Int32.toInt_toInt64]; omega), Int32.toInt_toInt64, Int32.toInt_toInt64]
theorem C_div {a b : Int32} (h : -2147483648 < a.toInt) : (a / b).toInt64 = a.toInt64 / b.toInt64 := by
  rw [← Int64.toInt_inj, Int32.toInt_toInt64, Int32.toInt_div_of_ne_left a b (fun z => by rw [z] at h; exact absurd h (by decide)), Int64.toInt_div_of_ne_left _ _ (fun z => by
    have := congrArg Int64.toInt z
    rw [Int32.toInt_toInt64, show Int64.minValue.toInt = -9223372036854775808 from rfl] at this
    omega), Int32.toInt_toInt64, Int32.toInt_toInt64]
theorem mul_bd {x y a b : Int} (h1 : 0 ≤ x) (h2 : x ≤ a) (h3 : 0 ≤ y) (h4 : y ≤ b) : 0 ≤ x * y ∧ x * y ≤ a * b := ⟨Int.mul_nonneg h1 h3, Int.mul_le_mul h2 h4 h3 (Int.le_trans h1 h2)⟩
theorem tdiv_bd {x a : Int} (h1 : 0 ≤ x) (h2 : x ≤ a * 100) : 0 ≤ x.tdiv 100 ∧ x.tdiv 100 ≤ a := by
  rw [Int.tdiv_eq_ediv_of_nonneg h1]
  omega
/-! clamping -/
def cC (s : Int64) : Int32 := (if (if s < (1000000 : Int64) then s else (1000000 : Int64)) < (-1000000 : Int64) then (-1000000 : Int64) else (if s < (1000000 : Int64) then s else (1000000 : Int64))).toInt32
theorem to32 {s : Int64} (h1 : -2147483648 ≤ s.toInt) (h2 : s.toInt < 2147483648) : s.toInt32.toInt = s.toInt := by
  rw [Int64.toInt_toInt32]
  exact Int.bmod_eq_of_le (by omega) (by omega)
theorem cC_s (s : Int64) : f_X9_clamped s (-1000000 : Int64) (1000000 : Int64) = some (cC s).toInt64 ∧ -1000000 ≤ (cC s).toInt ∧ (cC s).toInt ≤ 1000000 := by
  have e1 : (1000000 : Int64).toInt = 1000000 := rfl
  have e2 : (-1000000 : Int64).toInt = -1000000 := rfl
  unfold f_X9_clamped cC
  have key : ∀ y : Int64, -1000000 ≤ y.toInt → y.toInt ≤ 1000000 → y.toInt32.toInt64 = y ∧ -1000000 ≤ y.toInt32.toInt ∧ y.toInt32.toInt ≤ 1000000 := fun y h1 h2 => by
    have h := to32 (s := y) (by omega) (by omega)
    refine ⟨?_, by omega, by omega⟩
    rw [← Int64.toInt_inj, Int32.toInt_toInt64, h]
  by_cases h1 : s < (1000000 : Int64)
  · rw [if_pos h1]
    have h1' := Int64.lt_iff_toInt_lt.mp h1
    by_cases h2 : s < (-1000000 : Int64)
    · rw [if_pos h2]
      have h2' := Int64.lt_iff_toInt_lt.mp h2
      rw [if_neg (fun z => by have := Int64.le_iff_toInt_le.mp z; omega)]
      exact ⟨rfl, by decide, by decide⟩
    · rw [if_neg h2]
      have h2' : ¬ s.toInt < (-1000000 : Int64).toInt := fun z => h2 (Int64.lt_iff_toInt_lt.mpr z)
      rw [if_pos (Int64.le_iff_toInt_le.mpr (by omega)), if_pos (Int64.le_iff_toInt_le.mpr (by omega))]
      obtain ⟨k1, k2, k3⟩ := key s (by omega) (by omega)
      exact ⟨by rw [k1], k2, k3⟩
  · rw [if_neg h1]
    have h1' : ¬ s.toInt < (1000000 : Int64).toInt := fun z => h1 (Int64.lt_iff_toInt_lt.mpr z)
    rw [if_neg (show ¬ (1000000 : Int64) < -1000000 by decide), if_pos (Int64.le_iff_toInt_le.mpr (by omega))]
    refine ⟨?_, by decide, by decide⟩
    by_cases h3 : s ≤ (1000000 : Int64)
    · rw [if_pos h3]
      have h3' := Int64.le_iff_toInt_le.mp h3
      have : s = 1000000 := Int64.toInt_inj.mp (by omega)
      rw [this]
      rfl
    · rw [if_neg h3]
      rfl
/-! the rate expression -/
def cRes (o l r : Int32) : Int32 := if o = -4 then cC (l.toInt64 + r.toInt64) else if o = -5 then cC (l.toInt64 - r.toInt64) else if o = -6 then cC (l.toInt64 * r.toInt64) else if r = 0 then cC 0 else cC (l / r).toInt64
theorem k_result (o l r : Int32) : f_X4_result o l r = some (cRes o l r) := by
  unfold f_X4_result cRes f_X4_result_67
  by_cases h6 : o = -6
  · subst h6
    rfl
  rw [if_neg h6]
  by_cases h5 : o = -5
  · subst h5
    rfl
  rw [if_neg h5]
  by_cases h4 : o = -4
  · subst h4
    rfl
  rw [if_neg h4, if_neg h4, if_neg h5, if_neg h6]
  by_cases h0 : r = 0
  · rw [if_pos h0, if_pos h0]
    rfl
  · rw [if_neg h0, if_neg h0]
    unfold zG1
    rw [if_pos h0]
    rfl
def kOp (x p f e : Int32) : Int32 := if x = -3 then e else if x = -2 then f else if x = -1 then p else x
def kS (c : Nat → Int32) (p f e : Int32) : Nat → (Nat → Int32)
  | 0 => fun _ => 0
  | n + 1 => if (c n).toInt > -4 then upd (kS c p f e n) ((kD c n).getD 0) (kOp (c n) p f e) else upd (kS c p f e n) ((kD c n).getD 0 - 2) (cRes (c n) (kS c p f e n ((kD c n).getD 0 - 2)) (kS c p f e n ((kD c n).getD 0 - 1)))
def vRate (P : PrT) (p f e : Int32) : Int32 := if npg P = 0 then p else (if (0 : Int32) < (if kS (pj_pg_code P) p f e (npg P) 0 < (99999 : Int32) then kS (pj_pg_code P) p f e (npg P) 0 else (99999 : Int32)) then (if kS (pj_pg_code P) p f e (npg P) 0 < (99999 : Int32) then kS (pj_pg_code P) p f e (npg P) 0 else (99999 : Int32)) else (0 : Int32))
theorem kD_pre {c : Nat → Int32} {n : Nat} {d : Nat} (h : kD c (n + 1) = some d) : ∃ d0, kD c n = some d0 := by
  unfold kD at h
  cases h0 : kD c n with
  | none => rw [h0] at h; cases h
  | some d0 => exact ⟨d0, rfl⟩
theorem kD_all {c : Nat → Int32} : ∀ (m : Nat) {n d : Nat}, kD c (n + m) = some d → ∃ d0, kD c n = some d0
  | 0, n, d, h => ⟨d, h⟩
  | m + 1, n, d, h => by
    obtain ⟨d1, h1⟩ := kD_pre (n := n + m) h
    exact kD_all m h1
theorem kD_le {c : Nat → Int32} : ∀ {n d : Nat}, kD c n = some d → d ≤ 16
  | 0, d, h => by cases h; omega
  | n + 1, d, h => by
    obtain ⟨d0, h0⟩ := kD_pre h
    have := kD_le h0
    unfold kD at h
    rw [h0] at h
    simp only [Option.bind_some] at h
    split at h
    · split at h
      · cases h; omega
      · cases h
    · split at h
      · cases h; omega
      · cases h
