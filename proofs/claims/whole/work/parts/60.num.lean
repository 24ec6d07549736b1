/-! layer 3: small numbers -/
def jI (k : Nat) : Int32 := Int32.ofNat k
def jL (k : Nat) : Int64 := Int64.ofNat k
theorem jI_lit (n : Nat) : (OfNat.ofNat n : Int32) = jI n := rfl
theorem jL_lit (n : Nat) : (OfNat.ofNat n : Int64) = jL n := rfl
theorem jI_add (a b : Nat) : jI a + jI b = jI (a + b) := (Int32.ofNat_add a b).symm
theorem jI_mul (a b : Nat) : jI a * jI b = jI (a * b) := (Int32.ofNat_mul a b).symm
theorem jI_sub {a b : Nat} (h : b ≤ a) : jI a - jI b = jI (a - b) := (Int32.ofNat_sub a b h).symm
theorem jL_add (a b : Nat) : jL a + jL b = jL (a + b) := (Int64.ofNat_add a b).symm
theorem jL_mul (a b : Nat) : jL a * jL b = jL (a * b) := (Int64.ofNat_mul a b).symm
theorem jL_sub {a b : Nat} (h : b ≤ a) : jL a - jL b = jL (a - b) := (Int64.ofNat_sub a b h).symm
theorem jI_toInt {k : Nat} (h : k < 2147483648) : (jI k).toInt = (k : Int) := Int32.toInt_ofNat_of_lt h
theorem jL_toInt {k : Nat} (h : k < 2147483648) : (jL k).toInt = (k : Int) := Int64.toInt_ofNat_of_lt (by omega)
theorem jI_nat {k : Nat} (h : k < 2147483648) : (jI k).toNatClampNeg = k := Int32.toNatClampNeg_ofNat_of_lt h
theorem jI_le {a b : Nat} (ha : a < 2147483648) (hb : b < 2147483648) : jI a ≤ jI b ↔ a ≤ b := by
  rw [Int32.le_iff_toInt_le, jI_toInt ha, jI_toInt hb]
  omega
theorem jI_lt {a b : Nat} (ha : a < 2147483648) (hb : b < 2147483648) : jI a < jI b ↔ a < b := by
  rw [Int32.lt_iff_toInt_lt, jI_toInt ha, jI_toInt hb]
  omega
theorem jI_eq {a b : Nat} (ha : a < 2147483648) (hb : b < 2147483648) : jI a = jI b ↔ a = b := by
  rw [← Int32.toInt_inj, jI_toInt ha, jI_toInt hb]
  omega
theorem jL_le {a b : Nat} (ha : a < 2147483648) (hb : b < 2147483648) : jL a ≤ jL b ↔ a ≤ b := by
  rw [Int64.le_iff_toInt_le, jL_toInt ha, jL_toInt hb]
  omega
theorem jL_lt {a b : Nat} (ha : a < 2147483648) (hb : b < 2147483648) : jL a < jL b ↔ a < b := by
  rw [Int64.lt_iff_toInt_lt, jL_toInt ha, jL_toInt hb]
  omega
theorem jL_eq {a b : Nat} (ha : a < 2147483648) (hb : b < 2147483648) : jL a = jL b ↔ a = b := by
  rw [← Int64.toInt_inj, jL_toInt ha, jL_toInt hb]
  omega
theorem jI_L {k : Nat} (h : k < 2147483648) : (jI k).toInt64 = jL k := by
  rw [← Int64.toInt_inj, Int32.toInt_toInt64, jI_toInt h, jL_toInt h]
theorem jL_I (k : Nat) : (jL k).toInt32 = jI k := Int64.toInt32_ofNat'
theorem L_le {a b : Int32} : a.toInt64 ≤ b.toInt64 ↔ a ≤ b := by
  rw [Int64.le_iff_toInt_le, Int32.le_iff_toInt_le, Int32.toInt_toInt64, Int32.toInt_toInt64]
theorem L_lt {a b : Int32} : a.toInt64 < b.toInt64 ↔ a < b := by
  rw [Int64.lt_iff_toInt_lt, Int32.lt_iff_toInt_lt, Int32.toInt_toInt64, Int32.toInt_toInt64]
theorem L_eq {a b : Int32} : a.toInt64 = b.toInt64 ↔ a = b := by
  rw [← Int64.toInt_inj, ← Int32.toInt_inj, Int32.toInt_toInt64, Int32.toInt_toInt64]
/-- an Int32 between 0 and n is a small number -/
theorem I_nat {x : Int32} {n : Nat} (h0 : ¬ x < 0) (h1 : x < jI n) (hn : n < 2147483648) : ∃ k, k < n ∧ x = jI k := by
  have e0 : (0 : Int) ≤ x.toInt := by
    have : ¬ x.toInt < 0 := fun q => h0 (Int32.lt_iff_toInt_lt.mpr q)
    omega
  rw [Int32.lt_iff_toInt_lt, jI_toInt hn] at h1
  refine ⟨x.toInt.toNat, by omega, ?_⟩
  rw [← Int32.toInt_inj, jI_toInt (by omega)]
  omega
theorem I_nle {x y : Int32} : ¬ x ≤ y ↔ y < x := by
  rw [Int32.le_iff_toInt_le, Int32.lt_iff_toInt_lt]
  omega
theorem I_nlt {x y : Int32} : ¬ x < y ↔ y ≤ x := by
  rw [Int32.le_iff_toInt_le, Int32.lt_iff_toInt_lt]
  omega
theorem L_nle {x y : Int64} : ¬ x ≤ y ↔ y < x := by
  rw [Int64.le_iff_toInt_le, Int64.lt_iff_toInt_lt]
  omega
theorem L_nlt {x y : Int64} : ¬ x < y ↔ y ≤ x := by
  rw [Int64.le_iff_toInt_le, Int64.lt_iff_toInt_lt]
  omega
theorem jI_in {k n : Nat} (h : k < n) (hn : n ≤ 2147483648) : ¬ (jI k < 0 ∨ n ≤ (jI k).toNatClampNeg) := by
  rw [jI_nat (by omega), Int32.lt_iff_toInt_lt, jI_toInt (by omega), show (0 : Int32).toInt = 0 from rfl]
  omega
theorem zR_n {α β : Type} {n k : Nat} {f : Nat → α} {K : α → Option β} (h : k < n) (hn : n ≤ 2147483648) : zR n f (jI k) K = K (f k) := by
  unfold zR
  rw [if_neg (jI_in h hn), jI_nat (by omega)]
theorem zSi_n {β : Type} {n k : Nat} {f : Nat → Int32} {x : Int32} {K : (Nat → Int32) → Option β} (h : k < n) (hn : n ≤ 2147483648) : zSi n f (jI k) x K = K (upd f k x) := by
  unfold zSi
  rw [if_neg (jI_in h hn), jI_nat (by omega)]
theorem zSl_n {β : Type} {n k : Nat} {f : Nat → Int64} {x : Int64} {K : (Nat → Int64) → Option β} (h : k < n) (hn : n ≤ 2147483648) : zSl n f (jI k) x K = K (vp_updL f k x) := by
  unfold zSl
  rw [if_neg (jI_in h hn), jI_nat (by omega)]
theorem zB1_s {α β : Type} (x : α) (k : α → Option β) : zB1 (some x) k = k x := Eq.trans rfl rfl
theorem jI_0 : (0 : Int32) = jI 0 := Eq.trans rfl rfl
theorem jI_1 : (1 : Int32) = jI 1 := Eq.trans rfl rfl
theorem jI_2 : (2 : Int32) = jI 2 := Eq.trans rfl rfl
theorem jI_3 : (3 : Int32) = jI 3 := Eq.trans rfl rfl
theorem jI_4 : (4 : Int32) = jI 4 := Eq.trans rfl rfl
theorem jI_5 : (5 : Int32) = jI 5 := Eq.trans rfl rfl
theorem jI_6 : (6 : Int32) = jI 6 := Eq.trans rfl rfl
theorem jI_7 : (7 : Int32) = jI 7 := Eq.trans rfl rfl
theorem jI_8 : (8 : Int32) = jI 8 := Eq.trans rfl rfl
theorem jI_9 : (9 : Int32) = jI 9 := Eq.trans rfl rfl
theorem jI_20 : (20 : Int32) = jI 20 := Eq.trans rfl rfl
theorem jI_26 : (26 : Int32) = jI 26 := Eq.trans rfl rfl
theorem jI_40 : (40 : Int32) = jI 40 := Eq.trans rfl rfl
theorem jI_48 : (48 : Int32) = jI 48 := Eq.trans rfl rfl
theorem jI_100 : (100 : Int32) = jI 100 := Eq.trans rfl rfl
theorem jI_230 : (230 : Int32) = jI 230 := Eq.trans rfl rfl
theorem jI_320 : (320 : Int32) = jI 320 := Eq.trans rfl rfl
theorem jI_530 : (530 : Int32) = jI 530 := Eq.trans rfl rfl
theorem jI_600 : (600 : Int32) = jI 600 := Eq.trans rfl rfl
theorem jI_2500 : (2500 : Int32) = jI 2500 := Eq.trans rfl rfl
theorem jL_0 : (0 : Int64) = jL 0 := Eq.trans rfl rfl
theorem jL_1 : (1 : Int64) = jL 1 := Eq.trans rfl rfl
theorem jL_2 : (2 : Int64) = jL 2 := Eq.trans rfl rfl
theorem jL_3 : (3 : Int64) = jL 3 := Eq.trans rfl rfl
theorem jL_4 : (4 : Int64) = jL 4 := Eq.trans rfl rfl
theorem jL_5 : (5 : Int64) = jL 5 := Eq.trans rfl rfl
theorem jL_6 : (6 : Int64) = jL 6 := Eq.trans rfl rfl
theorem jL_7 : (7 : Int64) = jL 7 := Eq.trans rfl rfl
theorem jL_8 : (8 : Int64) = jL 8 := Eq.trans rfl rfl
theorem jL_9 : (9 : Int64) = jL 9 := Eq.trans rfl rfl
theorem jL_100 : (100 : Int64) = jL 100 := Eq.trans rfl rfl
theorem X1_r {ε ρ ε' β : Type} {g : ε → ε'} {K : ρ → Option (ε' ⊕ β)} (q : ρ) : zX1 (some (.inr q)) g K = K q := Eq.trans rfl rfl
theorem X1_l {ε ρ ε' β : Type} {g : ε → ε'} {K : ρ → Option (ε' ⊕ β)} (e : ε) : zX1 (some (.inl e)) g K = some (.inl (g e)) := Eq.trans rfl rfl
/-! a row of the reference -/
def zrow (b : Nat) (rows : Nat → Int64) : Nat → Int64 := fun q => rows (2500 * b + q)
section ROW
variable {b q : Nat} {rows : Nat → Int64} {v : Int64}
theorem X9_get (hb : b < 9) (hq : q < 2500) : f_X9_get (jI b) rows (jI q) = some (zrow b rows q) := by
  unfold f_X9_get
  rw [jI_2500, jI_mul, jI_add, zR_n (by omega) (by omega)]
  rfl
theorem X9_small (hb : b < 9) (hq : q < 2500) : f_X9_small (jI b) rows (jI q) = some (zrow b rows q).toInt32 := by
  unfold f_X9_small
  rw [X9_get hb hq]
  rfl
theorem X9_put (hb : b < 9) (hq : q < 2500) : f_X9_put (jI b) rows (jI q) v = some (vp_updL rows (2500 * b + q) v) := by
  unfold f_X9_put
  rw [jI_2500, jI_mul, jI_add, zSl_n (by omega) (by omega)]
theorem zrow_put : zrow b (vp_updL rows (2500 * b + q) v) = vp_updL (zrow b rows) q v := by
  funext j
  unfold zrow vp_updL
  by_cases h : j = q
  · subst h
    simp
  · have : ¬ 2500 * b + j = 2500 * b + q := by omega
    simp [h, this]
theorem zrow_put' {b' j : Nat} (hq : q < 2500) (hj : j < 2500) (hb : b' ≠ b) : zrow b' (vp_updL rows (2500 * b + q) v) j = zrow b' rows j := by
  unfold zrow vp_updL
  have : ¬ 2500 * b' + j = 2500 * b + q := by omega
  simp [this]
theorem X9_at (c : Nat) : f_X9_at (jI c) = some (jI (20 + 26 * c)) := by
  unfold f_X9_at
  rw [jI_20, jI_26, jI_mul, jI_add]
theorem X9_itemAt (c i : Nat) : f_X9_itemAt (jI c) (jI i) = some (jI (20 + 26 * c + 8 + 3 * i)) := by
  unfold f_X9_itemAt
  rw [X9_at, zB1_s, jI_8, jI_3, jI_add, jI_mul, jI_add]
theorem X9_bill (k : Nat) : f_X9_bill (jI k) = some (jI (320 + 5 * k)) := by
  unfold f_X9_bill
  rw [jI_320, jI_5, jI_mul, jI_add]
theorem X9_lien (k : Nat) : f_X9_lien (jI k) = some (jI (530 + 4 * k)) := by
  unfold f_X9_lien
  rw [jI_530, jI_4, jI_mul, jI_add]
theorem X9_openOf {k : Nat} (hb : b < 9) (hk : k < 40) : f_X9_openOf (jI b) rows (jI k) = some (zrow b rows (320 + 5 * k + 1) - zrow b rows (320 + 5 * k + 2)) := by
  unfold f_X9_openOf
  rw [X9_bill, zB1_s, jI_1, jI_add, X9_get hb (by omega), zB1_s, zB1_s, jI_2, jI_add, X9_get hb (by omega), zB1_s]
end ROW
/-! sums, searches over k .. k + m - 1 -/
def sS (g : Nat → Int64) : Nat → Nat → Int64
  | _, 0 => 0
  | k, m + 1 => g k + sS g (k + 1) m
def sN (p : Nat → Bool) : Nat → Nat → Nat
  | _, 0 => 0
  | k, m + 1 => (if p k then 1 else 0) + sN p (k + 1) m
def sE (p : Nat → Bool) : Nat → Nat → Bool
  | _, 0 => false
  | k, m + 1 => p k || sE p (k + 1) m
theorem sS_s (g : Nat → Int64) (k m : Nat) : sS g k (m + 1) = g k + sS g (k + 1) m := rfl
theorem sN_s (p : Nat → Bool) (k m : Nat) : sN p k (m + 1) = (if p k then 1 else 0) + sN p (k + 1) m := rfl
theorem sE_s (p : Nat → Bool) (k m : Nat) : sE p k (m + 1) = (p k || sE p (k + 1) m) := rfl
theorem sS_congr {f g : Nat → Int64} : ∀ (m k : Nat), (∀ j, k ≤ j → j < k + m → f j = g j) → sS f k m = sS g k m
  | 0, _, _ => rfl
  | m + 1, k, h => by
    unfold sS
    rw [h k (Nat.le_refl _) (by omega), sS_congr m (k + 1) (fun j h1 h2 => h j (by omega) (by omega))]
theorem sN_congr {f g : Nat → Bool} : ∀ (m k : Nat), (∀ j, k ≤ j → j < k + m → f j = g j) → sN f k m = sN g k m
  | 0, _, _ => rfl
  | m + 1, k, h => by
    unfold sN
    rw [h k (Nat.le_refl _) (by omega), sN_congr m (k + 1) (fun j h1 h2 => h j (by omega) (by omega))]
theorem sE_congr {f g : Nat → Bool} : ∀ (m k : Nat), (∀ j, k ≤ j → j < k + m → f j = g j) → sE f k m = sE g k m
  | 0, _, _ => rfl
  | m + 1, k, h => by
    unfold sE
    rw [h k (Nat.le_refl _) (by omega), sE_congr m (k + 1) (fun j h1 h2 => h j (by omega) (by omega))]
theorem L_add0 (x : Int64) : x + 0 = x := Int64.add_zero x
theorem L_assoc (x y z : Int64) : x + (y + z) = x + y + z := (Int64.add_assoc x y z).symm
theorem I_add0 (x : Int32) : x + 0 = x := Int32.add_zero x
theorem L_z {x : Int32} : x.toInt64 = 0 ↔ x = 0 := L_eq (b := 0)
theorem L_1 {x : Int32} : x.toInt64 = 1 ↔ x = 1 := L_eq (b := 1)
theorem jI1_ne : ¬ jI 1 = 0 := by decide
