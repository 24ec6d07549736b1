/-! layer 3: the class's state P and the reference's row R -/
def nco (P : PrT) : Nat := (pj_co_count P).toNatClampNeg
def nit (P : PrT) (c : Nat) : Nat := (pj_it_count P c).toNatClampNeg
def nva (P : PrT) : Nat := (pj_va_count P).toNatClampNeg
def nce (P : PrT) : Nat := (pj_ce_count P).toNatClampNeg
def nli (P : PrT) : Nat := (pj_li_count P).toNatClampNeg
def npg (P : PrT) : Nat := (pj_pg_length P).toNatClampNeg
/-- R's long is the class's int, between two bounds -/
def zeq (r : Int64) (x : Int32) (lo hi : Int) : Prop := r = x.toInt64 ∧ lo ≤ x.toInt ∧ x.toInt ≤ hi
/-- the last day: further on where a forecast is made -/
def dB (B : Int) : Int := if B < 100000000000 then 100000 else 200000
theorem dB_lo (B : Int) : 100000 ≤ dB B := by
  unfold dB
  split <;> omega
theorem dB_hi (B : Int) : dB B ≤ 200000 := by
  unfold dB
  split <;> omega
theorem dB_mono {B B' : Int} (h : B ≤ B') : dB B ≤ dB B' := by
  unfold dB
  split <;> split <;> omega
theorem dB_s {B : Int} (h : B < 100000000000) : dB B = 100000 := if_pos h
def gD (B : Int) (P : PrT) (R : Nat → Int64) : Prop := zeq (R 1) (pj_pr_day P) 0 (dB B)
def gT (P : PrT) (R : Nat → Int64) : Prop := zeq (R 2) (pj_pg_threshold P) 0 100
def gC (P : PrT) (R : Nat → Int64) : Prop := pj_co_count P = jI (nco P) ∧ nco P ≤ 8 ∧ R 0 = jL (nco P) ∧ ∀ c, c < nco P →
  zeq (R (20 + 26 * c)) (pj_co_parent P c) (-1) (c - 1) ∧ zeq (R (20 + 26 * c + 1)) (pj_co_retentionPercent P c) 0 20 ∧ zeq (R (20 + 26 * c + 2)) (pj_co_limitPercent P c) 0 20 ∧ zeq (R (20 + 26 * c + 3)) (pj_co_paymentDays P c) 0 60 ∧ zeq (R (20 + 26 * c + 4)) (pj_co_rank P c) 0 3 ∧ zeq (R (20 + 26 * c + 5)) (pj_co_linked P c) 0 1 ∧ zeq (R (20 + 26 * c + 6)) (pj_co_stage P c) 0 2
/-- what the approved variations of a slot change -/
def qS (P : PrT) (s : Nat) : Nat → Int
  | 0 => 0
  | v + 1 => qS P s v + (if pj_va_slot P v = jI s ∧ pj_va_approved P v = 1 then (pj_va_change P v).toInt else 0)
def gI (P : PrT) (R : Nat → Int64) : Prop := ∀ c, c < nco P → (pj_it_count P c = jI (nit P c) ∧ nit P c ≤ 6 ∧ R (20 + 26 * c + 7) = jL (nit P c)) ∧ ∀ i, i < nit P c →
  zeq (R (20 + 26 * c + 8 + 3 * i)) (pj_it_first P (c * 6 + i)) 1 999 ∧ zeq (R (20 + 26 * c + 8 + 3 * i + 1)) (pj_it_price P (c * 6 + i)) 0 9999 ∧ zeq (R (20 + 26 * c + 8 + 3 * i + 2)) (pj_it_progress P (c * 6 + i)) 0 100 ∧ (pj_it_quantity P (c * 6 + i)).toInt = (pj_it_first P (c * 6 + i)).toInt + qS P (c * 6 + i) (nva P) ∧ 0 ≤ (pj_it_quantity P (c * 6 + i)).toInt
def gV (P : PrT) (R : Nat → Int64) : Prop := pj_va_count P = jI (nva P) ∧ nva P ≤ 20 ∧ R 4 = jL (nva P) ∧ ∀ v, v < nva P →
  (∃ c i, c < nco P ∧ i < nit P c ∧ pj_va_slot P v = jI (c * 6 + i) ∧ R (230 + 4 * v) = jL c ∧ R (230 + 4 * v + 1) = jL i) ∧ zeq (R (230 + 4 * v + 2)) (pj_va_change P v) (-999) 999 ∧ zeq (R (230 + 4 * v + 3)) (pj_va_approved P v) 0 1
def gB (P : PrT) (R : Nat → Int64) : Prop := pj_ce_count P = jI (nce P) ∧ nce P ≤ 40 ∧ R 5 = jL (nce P) ∧ ∀ k, k < nce P →
  (R (320 + 5 * k) = (pj_ce_contract P k).toInt64 ∧ ∃ c, c < nco P ∧ pj_ce_contract P k = jI c) ∧ (R (320 + 5 * k + 1) = pj_ce_amount P k ∧ 0 < (pj_ce_amount P k).toInt ∧ (pj_ce_amount P k).toInt ≤ 68719476736) ∧ (R (320 + 5 * k + 1) - R (320 + 5 * k + 2) = pj_ce_open P k ∧ 0 ≤ (pj_ce_open P k).toInt ∧ (pj_ce_open P k).toInt ≤ 68719476736) ∧ zeq (R (320 + 5 * k + 3)) (pj_ce_issued P k) 0 100000 ∧ zeq (R (320 + 5 * k + 4)) (pj_ce_due P k) 0 100060
def gL (P : PrT) (R : Nat → Int64) : Prop := pj_li_count P = jI (nli P) ∧ nli P ≤ 12 ∧ R 6 = jL (nli P) ∧ ∀ k, k < nli P →
  (R (530 + 4 * k) = (pj_li_contract P k).toInt64 ∧ ∃ c, c < nco P ∧ pj_li_contract P k = jI c) ∧ (R (530 + 4 * k + 1) = pj_li_amount P k ∧ 0 ≤ (pj_li_amount P k).toInt ∧ (pj_li_amount P k).toInt ≤ 4398046511104) ∧ zeq (R (530 + 4 * k + 2)) (pj_li_filed P k) 0 100000 ∧ zeq (R (530 + 4 * k + 3)) (pj_li_withdrawn P k) 0 1
/-- the first n accounts, summed -/
def aS (f : Nat → Int64) : Nat → Int
  | 0 => 0
  | k + 1 => aS f k + (f k).toInt
def gA (B : Int) (P : PrT) (R : Nat → Int64) : Prop := (∀ k, k < 9 → R (8 + k) = pj_pr_accounts P k ∧ 0 ≤ (pj_pr_accounts P k).toInt) ∧ aS (pj_pr_accounts P) 9 ≤ B
/-- a part of the rate expression, here and there -/
def kR (x : Int32) (a v : Int64) : Prop := (0 ≤ x.toInt ∧ x.toInt ≤ 9999 ∧ a = 0 ∧ v = x.toInt64) ∨ (x = -1 ∧ a = 1 ∧ v = 0) ∨ (x = -2 ∧ a = 1 ∧ v = 1) ∨ (x = -3 ∧ a = 1 ∧ v = 2) ∨ (x = -4 ∧ a = 43) ∨ (x = -5 ∧ a = 45) ∨ (x = -6 ∧ a = 42) ∨ (x = -7 ∧ a = 47)
/-- the depth of the stack behind n parts that start at d: every operation finds two, never more than 16 -/
def kD (f : Nat → Int32) : Nat → Option Nat
  | 0 => some 0
  | n + 1 => (kD f n).bind fun d => if (f n).toInt > -4 then (if d < 16 then some (d + 1) else none) else (if 2 ≤ d then some (d - 1) else none)
def gK (P : PrT) (R : Nat → Int64) : Prop := pj_pg_length P = jI (npg P) ∧ npg P ≤ 900 ∧ R 3 = jL (2 * npg P) ∧ (∀ j, j < npg P → kR (pj_pg_code P j) (R (600 + 2 * j)) (R (600 + 2 * j + 1))) ∧ (npg P = 0 ∨ kD (pj_pg_code P) (npg P) = some 1) ∧ npg P ≤ pj_pg_clen P ∧ pj_pg_clen P ≤ 900
def Rl (B : Int) (P : PrT) (R : Nat → Int64) : Prop := gD B P R ∧ gT P R ∧ gC P R ∧ gI P R ∧ gV P R ∧ gB P R ∧ gL P R ∧ gA B P R ∧ gK P R
/-! loops -/
theorem lo_S {α : Type} {F : Nat → Int64 → Int32 → Option α} {n : Nat} {g : Nat → Int64} {post : Int64 → Option α} (h1 : ∀ z acc, F (z + 1) acc (jI n) = post acc) (h2 : ∀ z acc k, k < n → F (z + 1) acc (jI k) = F z (acc + g k) (jI (k + 1))) : ∀ (m k z : Nat) (acc : Int64), k + m = n → m < z → F z acc (jI k) = post (acc + sS g k m)
  | 0, k, 0, acc, hk, hz => absurd hz (by omega)
  | m + 1, k, 0, acc, hk, hz => absurd hz (by omega)
  | 0, k, z + 1, acc, hk, hz => by
    have e : k = n := by omega
    subst e
    rw [h1]
    show _ = post (acc + 0)
    rw [L_add0]
  | m + 1, k, z + 1, acc, hk, hz => by
    rw [h2 z acc k (by omega), lo_S h1 h2 m (k + 1) z (acc + g k) (by omega) (by omega)]
    rw [sS_s, L_assoc]
theorem lo_Ss {α σ : Type} {F : Nat → σ → Int64 → Int32 → Option α} {n : Nat} {g : Nat → Int64} {post : σ → Int64 → Option α} (h1 : ∀ z s acc, F (z + 1) s acc (jI n) = post s acc) (h2 : ∀ z s acc k, k < n → ∃ s', F (z + 1) s acc (jI k) = F z s' (acc + g k) (jI (k + 1))) : ∀ (m k z : Nat) (s : σ) (acc : Int64), k + m = n → m < z → ∃ s', F z s acc (jI k) = post s' (acc + sS g k m)
  | 0, k, 0, s, acc, hk, hz => absurd hz (by omega)
  | m + 1, k, 0, s, acc, hk, hz => absurd hz (by omega)
  | 0, k, z + 1, s, acc, hk, hz => by
    have e : k = n := by omega
    subst e
    refine ⟨s, ?_⟩
    rw [h1]
    show _ = post s (acc + 0)
    rw [L_add0]
  | m + 1, k, z + 1, s, acc, hk, hz => by
    obtain ⟨s', e⟩ := h2 z s acc k (by omega)
    obtain ⟨s'', e'⟩ := lo_Ss h1 h2 m (k + 1) z s' (acc + g k) (by omega) (by omega)
    refine ⟨s'', ?_⟩
    rw [e, e', sS_s, L_assoc]
theorem lo_E {F : Nat → Int32 → Option Int32} {n : Nat} {p : Nat → Bool} (h1 : ∀ z, F (z + 1) (jI n) = some 0) (h2 : ∀ z k, k < n → F (z + 1) (jI k) = if p k = true then some 1 else F z (jI (k + 1))) : ∀ (m k z : Nat), k + m = n → m < z → F z (jI k) = some (if sE p k m = true then 1 else 0)
  | 0, k, 0, hk, hz => absurd hz (by omega)
  | m + 1, k, 0, hk, hz => absurd hz (by omega)
  | 0, k, z + 1, hk, hz => by
    have e : k = n := by omega
    subst e
    rw [h1]
    rfl
  | m + 1, k, z + 1, hk, hz => by
    rw [h2 z k (by omega), lo_E h1 h2 m (k + 1) z (by omega) (by omega)]
    rw [sE_s]
    cases p k <;> simp
theorem lo_N {α : Type} {F : Nat → Int32 → Int32 → Option α} {n : Nat} {p : Nat → Bool} {post : Int32 → Option α} (h1 : ∀ z acc, F (z + 1) acc (jI n) = post acc) (h2 : ∀ z a k, k < n → F (z + 1) (jI a) (jI k) = F z (jI (a + if p k = true then 1 else 0)) (jI (k + 1))) : ∀ (m k z a : Nat), k + m = n → m < z → F z (jI a) (jI k) = post (jI (a + sN p k m))
  | 0, k, 0, a, hk, hz => absurd hz (by omega)
  | m + 1, k, 0, a, hk, hz => absurd hz (by omega)
  | 0, k, z + 1, a, hk, hz => by
    have e : k = n := by omega
    subst e
    rw [h1]
    rfl
  | m + 1, k, z + 1, a, hk, hz => by
    rw [h2 z a k (by omega), lo_N h1 h2 m (k + 1) z _ (by omega) (by omega)]
    rw [sN_s, Nat.add_assoc]
theorem FU_k : 1000 < FU := by decide
