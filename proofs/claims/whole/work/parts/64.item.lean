/-! layer 3: items -/
theorem r_zero_Ss {α σ : Type} {F : Nat → σ → Int64 → Int32 → Option α} {n : Nat} {g : Nat → Int64} {post : σ → Int64 → Option α} {fu : Nat} (s : σ) (hfu : 1000 < fu) (hn : n < 1000) (h1 : ∀ z s acc, F (z + 1) s acc (jI n) = post s acc) (h2 : ∀ z s acc k, k < n → ∃ s', F (z + 1) s acc (jI k) = F z s' (acc + g k) (jI (k + 1))) : ∃ s', F fu s 0 0 = post s' (sS g 0 n) := by
  obtain ⟨s', h⟩ := lo_Ss h1 h2 n 0 fu s 0 (by omega) (by omega)
  rw [L_0add] at h
  exact ⟨s', h⟩
theorem sS_r (g : Nat → Int64) : ∀ (m k : Nat), sS g k (m + 1) = sS g k m + g (k + m)
  | 0, k => by
    show g k + 0 = 0 + g (k + 0)
    rw [L_add0, L_0add]
    rfl
  | m + 1, k => by
    rw [sS_s, sS_r g m (k + 1), sS_s g k m, L_assoc, show k + 1 + m = k + (m + 1) by omega]
section ITEM
variable {B : Int} {P : PrT} {b : Nat} {rows : Nat → Int64} {c i : Nat}
def vBound (P : PrT) (s : Nat) : Int32 := pj_it_first P s + ((pj_it_first P s * pj_pg_threshold P) / (100 : Int32))
def vExc (P : PrT) (s : Nat) (q : Int32) : Int32 := if (0 : Int32) < (q - vBound P s) then (q - vBound P s) else (0 : Int32)
def vFull (P : PrT) (s : Nat) (q : Int32) : Int64 := if (q - (if vBound P s < q then vBound P s else q)) ≤ 0 then (if vBound P s < q then vBound P s else q).toInt64 * (pj_it_price P s).toInt64 else (if vBound P s < q then vBound P s else q).toInt64 * (pj_it_price P s).toInt64 + (q - (if vBound P s < q then vBound P s else q)).toInt64 * (vRate P (pj_it_price P s) (pj_it_first P s) (q - (if vBound P s < q then vBound P s else q))).toInt64
theorem bound_s (hR : Rl B P (zrow b rows)) (hc : c < nco P) (hi : i < nit P c) : (pj_it_first P (c * 6 + i)).toInt64 + (pj_it_first P (c * 6 + i)).toInt64 * (pj_pg_threshold P).toInt64 / (100 : Int64) = (vBound P (c * 6 + i)).toInt64 ∧ 1 ≤ (vBound P (c * 6 + i)).toInt ∧ (vBound P (c * 6 + i)).toInt ≤ 1998 := by
  obtain ⟨⟨-, f1, f2⟩, -⟩ := (hR.2.2.2.1 c hc).2 i hi
  obtain ⟨-, t1, t2⟩ := hR.2.1
  have m := mul_bd (x := (pj_it_first P (c * 6 + i)).toInt) (y := (pj_pg_threshold P).toInt) (a := 999) (b := 100) (by omega) (by omega) (by omega) (by omega)
  have e1 : (pj_it_first P (c * 6 + i) * pj_pg_threshold P).toInt = (pj_it_first P (c * 6 + i)).toInt * (pj_pg_threshold P).toInt := I_mul (by omega) (by omega)
  have e2 : (pj_it_first P (c * 6 + i) * pj_pg_threshold P / (100 : Int32)).toInt = ((pj_it_first P (c * 6 + i)).toInt * (pj_pg_threshold P).toInt).tdiv 100 := by
    rw [Int32.toInt_div_of_ne_right _ _ (by decide), e1]
    rfl
  have d := tdiv_bd (a := 999) m.1 (by omega)
  unfold vBound
  refine ⟨?_, ?_, ?_⟩
  · rw [C_add (by omega) (by omega), C_div (by omega), C_mul (by omega) (by omega)]
    rfl
  · rw [I_add (by omega) (by omega)]
    omega
  · rw [I_add (by omega) (by omega)]
    omega
theorem exc_s (hR : Rl B P (zrow b rows)) (hc : c < nco P) (hi : i < nit P c) {q : Int32} (h0 : 0 ≤ q.toInt) (h1 : q.toInt ≤ 100000) : (if (q.toInt64 - (vBound P (c * 6 + i)).toInt64) < (0 : Int64) then (0 : Int64) else (q.toInt64 - (vBound P (c * 6 + i)).toInt64)) = (vExc P (c * 6 + i) q).toInt64 ∧ 0 ≤ (vExc P (c * 6 + i) q).toInt ∧ (vExc P (c * 6 + i) q).toInt ≤ 100000 := by
  obtain ⟨-, b1, b2⟩ := bound_s hR hc hi
  have e := I_sub (a := q) (b := vBound P (c * 6 + i)) (by omega) (by omega)
  rw [← C_sub (by omega) (by omega), show (0 : Int64) = (0 : Int32).toInt64 from rfl]
  simp only [L_lt]
  unfold vExc
  by_cases h2 : (0 : Int32) < q - vBound P (c * 6 + i)
  · have h2' := Int32.lt_iff_toInt_lt.mp h2
    have e0 : (0 : Int32).toInt = 0 := rfl
    rw [if_pos h2, if_neg (fun z => by have := Int32.lt_iff_toInt_lt.mp z; omega)]
    exact ⟨rfl, by omega, by omega⟩
  · have h2' : ¬ (0 : Int32).toInt < (q - vBound P (c * 6 + i)).toInt := fun z => h2 (Int32.lt_iff_toInt_lt.mpr z)
    have e0 : (0 : Int32).toInt = 0 := rfl
    rw [if_neg h2]
    refine ⟨?_, by decide, by decide⟩
    by_cases h3 : q - vBound P (c * 6 + i) < (0 : Int32)
    · rw [if_pos h3]
    · rw [if_neg h3]
      have h3' : ¬ (q - vBound P (c * 6 + i)).toInt < (0 : Int32).toInt := fun z => h3 (Int32.lt_iff_toInt_lt.mpr z)
      have : q - vBound P (c * 6 + i) = 0 := Int32.toInt_inj.mp (by omega)
      rw [this]
theorem full_s (hR : Rl B P (zrow b rows)) (hc : c < nco P) (hi : i < nit P c) {q : Int32} (h0 : 0 ≤ q.toInt) (h1 : q.toInt ≤ 100000) : (q.toInt64 - (vExc P (c * 6 + i) q).toInt64) * (pj_it_price P (c * 6 + i)).toInt64 + (vExc P (c * 6 + i) q).toInt64 * (vRate P (pj_it_price P (c * 6 + i)) (pj_it_first P (c * 6 + i)) (vExc P (c * 6 + i) q)).toInt64 = vFull P (c * 6 + i) q := by
  obtain ⟨-, b1, b2⟩ := bound_s hR hc hi
  obtain ⟨-, x1, x2⟩ := exc_s hR hc hi h0 h1
  have e := I_sub (a := q) (b := vBound P (c * 6 + i)) (by omega) (by omega)
  have e0 : (0 : Int32).toInt = 0 := rfl
  have e2 : q - q = 0 := Int32.toInt_inj.mp (by rw [I_sub (by omega) (by omega), e0]; omega)
  unfold vFull
  by_cases h2 : vBound P (c * 6 + i) < q
  · have h2' := Int32.lt_iff_toInt_lt.mp h2
    have hx : vExc P (c * 6 + i) q = q - vBound P (c * 6 + i) := by
      unfold vExc
      rw [if_pos (Int32.lt_iff_toInt_lt.mpr (by omega))]
    rw [hx] at x1 x2 ⊢
    simp only [if_pos h2]
    rw [if_neg (fun z => by have := Int32.le_iff_toInt_le.mp z; omega)]
    rw [← C_sub (by omega) (by omega)]
    have e3 : q - (q - vBound P (c * 6 + i)) = vBound P (c * 6 + i) := Int32.toInt_inj.mp (by rw [I_sub (by omega) (by omega)]; omega)
    rw [e3]
  · have h2' : ¬ (vBound P (c * 6 + i)).toInt < q.toInt := fun z => h2 (Int32.lt_iff_toInt_lt.mpr z)
    have hx : vExc P (c * 6 + i) q = 0 := by
      unfold vExc
      rw [if_neg (fun z => by have := Int32.lt_iff_toInt_lt.mp z; omega)]
    rw [hx]
    simp only [if_neg h2, e2]
    rw [if_pos (by decide), show (0 : Int32).toInt64 = 0 from rfl, Int64.sub_zero, Int64.zero_mul, Int64.add_zero]
/-! the class -/
theorem k_boundOf (P : PrT) (s : Nat) : f_X4_boundOf (pj_pg_threshold P) (pj_it_first P s) = some (vBound P s) := rfl
theorem k_excessOf (P : PrT) (s : Nat) (q : Int32) : f_X4_excessOf (pj_pg_threshold P) (pj_it_first P s) q = some (vExc P s q) := by
  unfold f_X4_excessOf
  rw [k_boundOf, zB1_s]
  rfl
theorem k_fullValue (hR : Rl B P (zrow b rows)) (s : Nat) (q : Int32) (st : Nat → Int32) : ∃ st', f_X4_fullValue (pj_pg_threshold P) (pj_pg_length P) (pj_pg_clen P) (pj_pg_code P) st (pj_it_price P s) (pj_it_first P s) q = some (vFull P s q, st') := by
  unfold f_X4_fullValue
  rw [k_boundOf, zB1_s]
  unfold vFull
  by_cases h : (q - (if vBound P s < q then vBound P s else q)) ≤ 0
  · rw [if_pos h, if_pos h]
    exact ⟨_, rfl⟩
  · rw [if_neg h, if_neg h]
    obtain ⟨st', e⟩ := k_rate hR (p := pj_it_price P s) (f := pj_it_first P s) (e := q - (if vBound P s < q then vBound P s else q)) st
    rw [e, zB1_s]
    exact ⟨_, rfl⟩
theorem k_fullValueOf (hR : Rl B P (zrow b rows)) {s : Nat} (hs : s < 48) (q : Int32) (st : Nat → Int32) : ∃ st', f_X2_fullValueOf (pj_it_first P) (pj_it_price P) (pj_pg_threshold P) (pj_pg_length P) (pj_pg_clen P) (pj_pg_code P) st (jI s) q = some (vFull P s q, st') := by
  unfold f_X2_fullValueOf
  obtain ⟨st', e⟩ := k_fullValue hR s q st
  rw [zR_n hs (by omega), zR_n hs (by omega), e, zB1_s]
  exact ⟨_, rfl⟩
def vVal (P : PrT) (s : Nat) : Int64 := vFull P s (pj_it_quantity P s) * (pj_it_progress P s).toInt64 / (100 : Int64)
theorem k_valueOf (hR : Rl B P (zrow b rows)) {s : Nat} (hs : s < 48) (st : Nat → Int32) : ∃ st', f_X2_valueOf (pj_it_first P) (pj_it_price P) (pj_it_quantity P) (pj_it_progress P) (pj_pg_threshold P) (pj_pg_length P) (pj_pg_clen P) (pj_pg_code P) st (jI s) = some (vVal P s, st') := by
  unfold f_X2_valueOf
  obtain ⟨st', e⟩ := k_fullValue hR s (pj_it_quantity P s) st
  rw [zR_n hs (by omega), zR_n hs (by omega), zR_n hs (by omega), e, zB1_s, zR_n hs (by omega)]
  exact ⟨_, rfl⟩
theorem k_specialRateOf (hR : Rl B P (zrow b rows)) {s : Nat} (hs : s < 48) (st : Nat → Int32) : ∃ st', f_X2_specialRateOf (pj_it_first P) (pj_it_price P) (pj_it_quantity P) (pj_pg_threshold P) (pj_pg_length P) (pj_pg_clen P) (pj_pg_code P) st (jI s) = some (vRate P (pj_it_price P s) (pj_it_first P s) (vExc P s (pj_it_quantity P s)), st') := by
  unfold f_X2_specialRateOf
  obtain ⟨st', e⟩ := k_rate hR (p := pj_it_price P s) (f := pj_it_first P s) (e := vExc P s (pj_it_quantity P s)) st
  rw [zR_n hs (by omega), zR_n hs (by omega), k_excessOf, zB1_s, zR_n hs (by omega), zR_n hs (by omega), e, zB1_s]
  exact ⟨_, rfl⟩
theorem k_slotOf (c i : Nat) : f_X2_slotOf (jI c) (jI i) = some (jI (c * 6 + i)) := by
  unfold f_X2_slotOf
  rw [jI_6, jI_mul, jI_add]
def vFirst (P : PrT) (c : Nat) : Int64 := sS (fun i => (pj_it_first P (c * 6 + i)).toInt64 * (pj_it_price P (c * 6 + i)).toInt64) 0 (nit P c)
def vPres (P : PrT) (c : Nat) : Int64 := sS (fun i => vFull P (c * 6 + i) (pj_it_quantity P (c * 6 + i))) 0 (nit P c)
def vGross (P : PrT) (c : Nat) : Int64 := sS (fun i => vVal P (c * 6 + i)) 0 (nit P c)
theorem k_firstSumOf (hR : Rl B P (zrow b rows)) (hc : c < nco P) : f_X2_firstSumOf (pj_it_count P) (pj_it_first P) (pj_it_price P) (jI c) = some (vFirst P c) := by
  have h8 := hR.2.2.1.2.1
  obtain ⟨⟨hq, hn, -⟩, -⟩ := hR.2.2.2.1 c hc
  unfold f_X2_firstSumOf
  have hfu := FU_k
  generalize FU = fu at hfu ⊢
  refine r_zero_S (F := fun z acc k => f_X2_firstSumOf_5 z (pj_it_count P) (pj_it_first P) (pj_it_price P) (jI c) acc k) (n := nit P c) hfu (by omega) ?_ ?_
  · intro z acc
    simp (disch := omega) only [f_X2_firstSumOf_5, zR_n, hq, jI_le, Nat.le_refl, if_true]
  · intro z acc k hk
    have hk2 : ¬ nit P c ≤ k := by omega
    simp (disch := omega) only [f_X2_firstSumOf_5, zR_n, hq, jI_le, hk2, if_false, k_slotOf, zB1_s, jI_1, jI_add]
theorem k_presentSumOf (hR : Rl B P (zrow b rows)) (hc : c < nco P) (st : Nat → Int32) : ∃ st', f_X5_presentSumOf (pj_pg_threshold P) (pj_pg_length P) (pj_pg_clen P) (pj_pg_code P) st (pj_it_count P) (pj_it_first P) (pj_it_price P) (pj_it_quantity P) (jI c) = some (vPres P c, st') := by
  have h8 := hR.2.2.1.2.1
  obtain ⟨⟨hq, hn, -⟩, -⟩ := hR.2.2.2.1 c hc
  unfold f_X5_presentSumOf
  have hfu := FU_k
  generalize FU = fu at hfu ⊢
  refine r_zero_Ss (F := fun z s acc k => f_X5_presentSumOf_5 z (pj_pg_threshold P) (pj_pg_length P) (pj_pg_clen P) (pj_pg_code P) s (pj_it_count P) (pj_it_first P) (pj_it_price P) (pj_it_quantity P) (jI c) acc k) (n := nit P c) (post := fun s a => some (a, s)) st hfu (by omega) ?_ ?_
  · intro z s acc
    simp (disch := omega) only [f_X5_presentSumOf_5, zR_n, hq, jI_le, Nat.le_refl, if_true]
  · intro z s acc k hk
    have hk2 : ¬ nit P c ≤ k := by omega
    obtain ⟨s', e⟩ := k_fullValueOf hR (s := c * 6 + k) (by omega) (pj_it_quantity P (c * 6 + k)) s
    refine ⟨s', ?_⟩
    simp (disch := omega) only [f_X5_presentSumOf_5, zR_n, hq, jI_le, hk2, if_false, k_slotOf, zB1_s, e, jI_1, jI_add]
theorem k_grossOf (hR : Rl B P (zrow b rows)) (hc : c < nco P) (st : Nat → Int32) : ∃ st', f_X5_grossOf (pj_pg_threshold P) (pj_pg_length P) (pj_pg_clen P) (pj_pg_code P) st (pj_it_count P) (pj_it_first P) (pj_it_price P) (pj_it_quantity P) (pj_it_progress P) (jI c) = some (vGross P c, st') := by
  have h8 := hR.2.2.1.2.1
  obtain ⟨⟨hq, hn, -⟩, -⟩ := hR.2.2.2.1 c hc
  unfold f_X5_grossOf
  have hfu := FU_k
  generalize FU = fu at hfu ⊢
  refine r_zero_Ss (F := fun z s acc k => f_X5_grossOf_5 z (pj_pg_threshold P) (pj_pg_length P) (pj_pg_clen P) (pj_pg_code P) s (pj_it_count P) (pj_it_first P) (pj_it_price P) (pj_it_quantity P) (pj_it_progress P) (jI c) acc k) (n := nit P c) (post := fun s a => some (a, s)) st hfu (by omega) ?_ ?_
  · intro z s acc
    simp (disch := omega) only [f_X5_grossOf_5, zR_n, hq, jI_le, Nat.le_refl, if_true]
  · intro z s acc k hk
    have hk2 : ¬ nit P c ≤ k := by omega
    obtain ⟨s', e⟩ := k_valueOf hR (s := c * 6 + k) (by omega) s
    refine ⟨s', ?_⟩
    simp (disch := omega) only [f_X5_grossOf_5, zR_n, hq, jI_le, hk2, if_false, k_slotOf, zB1_s, e, jI_1, jI_add]
/-! the reference -/
def g_qty (P : PrT) (s : Nat) : Nat → Int64 := fun v => if pj_va_slot P v = jI s ∧ pj_va_approved P v = 1 then (pj_va_change P v).toInt64 else 0
theorem qty_s (hR : Rl B P (zrow b rows)) (s : Nat) : ∀ n, n ≤ nva P → (sS (g_qty P s) 0 n).toInt = qS P s n ∧ -999 * (n : Int) ≤ qS P s n ∧ qS P s n ≤ 999 * (n : Int)
  | 0, _ => ⟨rfl, by show _ ≤ (0 : Int); omega, by show (0 : Int) ≤ _; omega⟩
  | n + 1, h => by
    obtain ⟨e, h1, h2⟩ := qty_s hR s n (by omega)
    have h20 := hR.2.2.2.2.1.2.1
    obtain ⟨-, ⟨-, c1, c2⟩, -⟩ := hR.2.2.2.2.1.2.2.2 n (by omega)
    have eq : qS P s (n + 1) = qS P s n + (if pj_va_slot P n = jI s ∧ pj_va_approved P n = 1 then (pj_va_change P n).toInt else 0) := rfl
    rw [sS_r, Nat.zero_add, eq]
    unfold g_qty
    by_cases hh : pj_va_slot P n = jI s ∧ pj_va_approved P n = 1
    · have hi : ((pj_va_change P n).toInt64).toInt = (pj_va_change P n).toInt := Int32.toInt_toInt64 _
      rw [if_pos hh, if_pos hh, J_add (by rw [show sS (fun v => if pj_va_slot P v = jI s ∧ pj_va_approved P v = 1 then (pj_va_change P v).toInt64 else 0) 0 n = sS (g_qty P s) 0 n from rfl]; omega) (by rw [show sS (fun v => if pj_va_slot P v = jI s ∧ pj_va_approved P v = 1 then (pj_va_change P v).toInt64 else 0) 0 n = sS (g_qty P s) 0 n from rfl]; omega), hi]
      refine ⟨by rw [← e]; rfl, by omega, by omega⟩
    · rw [if_neg hh, if_neg hh, L_add0, Int.add_zero]
      exact ⟨e, by omega, by omega⟩
theorem r_boundOf (hb : b < 9) (hR : Rl B P (zrow b rows)) (hc : c < nco P) (hi : i < nit P c) : f_X9_boundOf (jI b) rows (jI c) (jI i) = some (vBound P (c * 6 + i)).toInt64 := by
  have h8 := hR.2.2.1.2.1
  have h6 := (hR.2.2.2.1 c hc).1.2.1
  obtain ⟨⟨e1, -⟩, -⟩ := (hR.2.2.2.1 c hc).2 i hi
  obtain ⟨e2, -⟩ := hR.2.1
  unfold f_X9_boundOf
  rw [X9_itemAt, zB1_s, X9_get hb (by omega), zB1_s, jI_2, X9_get hb (by omega), zB1_s, e1, e2, (bound_s hR hc hi).1]
theorem r_quantityOf (hb : b < 9) (hR : Rl B P (zrow b rows)) (hc : c < nco P) (hi : i < nit P c) : f_X9_quantityOf (jI b) rows (jI c) (jI i) = some (pj_it_quantity P (c * 6 + i)).toInt64 := by
  have h8 := hR.2.2.1.2.1
  have h6 := (hR.2.2.2.1 c hc).1.2.1
  obtain ⟨⟨e1, f1, f2⟩, -, -, hq, -⟩ := (hR.2.2.2.1 c hc).2 i hi
  obtain ⟨-, h20, h4, hv⟩ := hR.2.2.2.2.1
  have hI := hR.2.2.2.1
  unfold f_X9_quantityOf
  have hfu := FU_k
  generalize FU = fu at hfu ⊢
  rw [X9_itemAt, zB1_s, X9_get hb (by omega), zB1_s, e1]
  have L := lo_S (F := fun z acc k => f_X9_quantityOf_14 z (jI b) rows (jI c) (jI i) acc k) (n := nva P) (g := g_qty P (c * 6 + i)) (post := fun a => some a) ?_ ?_ (nva P) 0 fu (pj_it_first P (c * 6 + i)).toInt64 (by omega) (by omega)
  · refine L.trans (congrArg some ?_)
    obtain ⟨q1, q2, q3⟩ := qty_s hR (c * 6 + i) (nva P) (Nat.le_refl _)
    have hi : ((pj_it_first P (c * 6 + i)).toInt64).toInt = (pj_it_first P (c * 6 + i)).toInt := Int32.toInt_toInt64 _
    rw [← Int64.toInt_inj, J_add (by omega) (by omega), hi, q1, Int32.toInt_toInt64, hq]
  · intro z acc
    simp (disch := omega) only [f_X9_quantityOf_14, jI_4, X9_get, zB1_s, h4, jI_L, jL_le, Nat.le_refl, if_true]
  · intro z acc k hk
    have hk2 : ¬ nva P ≤ k := by omega
    obtain ⟨⟨c', i', hc', hi', v1, v2, v3⟩, ⟨v4, -⟩, ⟨v5, -⟩⟩ := hv k hk
    have h6' := (hI c' hc').1.2.1
    simp (disch := omega) only [f_X9_quantityOf_14, jI_4, X9_get, zB1_s, h4, jI_L, jL_le, hk2, if_false, jI_230, jI_mul, jI_add, jI_1, jI_2, jI_3, v2, v3, v4, v5, L_1]
    unfold g_qty
    rw [v1]
    by_cases hcc : c' = c
    · subst hcc
      rw [if_pos rfl]
      by_cases hii : i' = i
      · subst hii
        rw [if_pos rfl, show jI 1 = (1 : Int32) from rfl]
        by_cases ha : pj_va_approved P k = 1
        · rw [if_pos ha, if_pos ⟨rfl, ha⟩]
        · rw [if_neg ha, if_neg (fun z => ha z.2), L_add0]
      · rw [if_neg (fun z => hii ((jL_eq (by omega) (by omega)).mp z)), if_neg (fun z => hii (by have := (jI_eq (by omega) (by omega)).mp z.1; omega)), L_add0]
    · rw [if_neg (fun z => hcc ((jL_eq (by omega) (by omega)).mp z)), if_neg (fun z => hcc (by have := (jI_eq (by omega) (by omega)).mp z.1; omega)), L_add0]
theorem qty_bd (hR : Rl B P (zrow b rows)) (hc : c < nco P) (hi : i < nit P c) : 0 ≤ (pj_it_quantity P (c * 6 + i)).toInt ∧ (pj_it_quantity P (c * 6 + i)).toInt ≤ 30000 := by
  obtain ⟨⟨e1, f1, f2⟩, -, -, hq, h0⟩ := (hR.2.2.2.1 c hc).2 i hi
  obtain ⟨q1, q2, q3⟩ := qty_s hR (c * 6 + i) (nva P) (Nat.le_refl _)
  have h20 := hR.2.2.2.2.1.2.1
  omega
theorem r_rateBy (hb : b < 9) (hR : Rl B P (zrow b rows)) (hc : c < nco P) (hi : i < nit P c) {q : Int32} (h0 : 0 ≤ q.toInt) (h1 : q.toInt ≤ 100000) (pl : Nat → Int64) : ∃ pl', f_X9_rateBy (jI b) rows pl (jI c) (jI i) q.toInt64 = some ((vRate P (pj_it_price P (c * 6 + i)) (pj_it_first P (c * 6 + i)) (vExc P (c * 6 + i) q)).toInt64, pl') := by
  have h8 := hR.2.2.1.2.1
  have h6 := (hR.2.2.2.1 c hc).1.2.1
  obtain ⟨⟨e1, f1, f2⟩, ⟨e2, p1, p2⟩, -⟩ := (hR.2.2.2.1 c hc).2 i hi
  obtain ⟨x1, x2, x3⟩ := exc_s hR hc hi h0 h1
  obtain ⟨pl', e⟩ := r_rate hb hR (p := pj_it_price P (c * 6 + i)) (f := pj_it_first P (c * 6 + i)) (e := vExc P (c * 6 + i) q) ⟨by omega, by omega⟩ ⟨by omega, by omega⟩ ⟨x2, by omega⟩ pl
  refine ⟨pl', ?_⟩
  unfold f_X9_rateBy
  rw [X9_itemAt, zB1_s, jI_1, jI_add, X9_get hb (by omega), zB1_s, zB1_s, X9_get hb (by omega), zB1_s, r_boundOf hb hR hc hi, zB1_s, x1, e1, e2, e, zB1_s]
theorem r_fullBy (hb : b < 9) (hR : Rl B P (zrow b rows)) (hc : c < nco P) (hi : i < nit P c) {q : Int32} (h0 : 0 ≤ q.toInt) (h1 : q.toInt ≤ 100000) (pl : Nat → Int64) : ∃ pl', f_X9_fullBy (jI b) rows pl (jI c) (jI i) q.toInt64 = some (vFull P (c * 6 + i) q, pl') := by
  have h8 := hR.2.2.1.2.1
  have h6 := (hR.2.2.2.1 c hc).1.2.1
  obtain ⟨-, ⟨e2, p1, p2⟩, -⟩ := (hR.2.2.2.1 c hc).2 i hi
  obtain ⟨x1, x2, x3⟩ := exc_s hR hc hi h0 h1
  obtain ⟨pl', e⟩ := r_rateBy hb hR hc hi h0 h1 pl
  refine ⟨pl', ?_⟩
  unfold f_X9_fullBy
  rw [r_boundOf hb hR hc hi, zB1_s, X9_itemAt, zB1_s, jI_1, jI_add, X9_get hb (by omega), zB1_s, e, zB1_s, x1, e2, full_s hR hc hi h0 h1]
theorem r_valueOf (hb : b < 9) (hR : Rl B P (zrow b rows)) (hc : c < nco P) (hi : i < nit P c) (pl : Nat → Int64) : ∃ pl', f_X9_valueOf (jI b) rows pl (jI c) (jI i) = some (vVal P (c * 6 + i), pl') := by
  have h8 := hR.2.2.1.2.1
  have h6 := (hR.2.2.2.1 c hc).1.2.1
  obtain ⟨-, -, ⟨e3, -⟩, -⟩ := (hR.2.2.2.1 c hc).2 i hi
  obtain ⟨q1, q2⟩ := qty_bd hR hc hi
  obtain ⟨pl', e⟩ := r_fullBy hb hR hc hi (q := pj_it_quantity P (c * 6 + i)) q1 (by omega) pl
  refine ⟨pl', ?_⟩
  unfold f_X9_valueOf
  rw [r_quantityOf hb hR hc hi, zB1_s, e, zB1_s, X9_itemAt, zB1_s, jI_2, jI_add, X9_get hb (by omega), zB1_s, e3]
  rfl
theorem r_firstOf (hb : b < 9) (hR : Rl B P (zrow b rows)) (hc : c < nco P) : f_X9_firstOf (jI b) rows (jI c) = some (vFirst P c) := by
  have h8 := hR.2.2.1.2.1
  obtain ⟨⟨hq, hn, h7⟩, hI⟩ := hR.2.2.2.1 c hc
  unfold f_X9_firstOf
  have hfu := FU_k
  generalize FU = fu at hfu ⊢
  refine r_zero_S (F := fun z acc k => f_X9_firstOf_5 z (jI b) rows (jI c) acc k) (n := nit P c) hfu (by omega) ?_ ?_
  · intro z acc
    simp (disch := omega) only [f_X9_firstOf_5, X9_at, zB1_s, jI_7, jI_add, X9_get, h7, jI_L, jL_le, Nat.le_refl, if_true]
  · intro z acc k hk
    have hk2 : ¬ nit P c ≤ k := by omega
    obtain ⟨⟨e1, -⟩, ⟨e2, -⟩, -⟩ := hI k hk
    simp (disch := omega) only [f_X9_firstOf_5, X9_at, X9_itemAt, zB1_s, jI_7, jI_1, jI_add, X9_get, h7, jI_L, jL_le, hk2, if_false, e1, e2]
theorem r_presentOf (hb : b < 9) (hR : Rl B P (zrow b rows)) (hc : c < nco P) (pl : Nat → Int64) : ∃ pl', f_X9_presentOf (jI b) rows pl (jI c) = some (vPres P c, pl') := by
  have h8 := hR.2.2.1.2.1
  obtain ⟨⟨hq, hn, h7⟩, hI⟩ := hR.2.2.2.1 c hc
  unfold f_X9_presentOf
  have hfu := FU_k
  generalize FU = fu at hfu ⊢
  refine r_zero_Ss (F := fun z s acc k => f_X9_presentOf_5 z (jI b) rows s (jI c) acc k) (n := nit P c) (post := fun s a => some (a, s)) pl hfu (by omega) ?_ ?_
  · intro z s acc
    simp (disch := omega) only [f_X9_presentOf_5, X9_at, zB1_s, jI_7, jI_add, X9_get, h7, jI_L, jL_le, Nat.le_refl, if_true]
  · intro z s acc k hk
    have hk2 : ¬ nit P c ≤ k := by omega
    obtain ⟨q1, q2⟩ := qty_bd hR hc hk
    obtain ⟨s', e⟩ := r_fullBy hb hR hc hk (q := pj_it_quantity P (c * 6 + k)) q1 (by omega) s
    refine ⟨s', ?_⟩
    simp (disch := omega) only [f_X9_presentOf_5, X9_at, zB1_s, jI_7, jI_add, X9_get, h7, jI_L, jL_le, hk2, if_false]
    rw [r_quantityOf hb hR hc hk, zB1_s, e, zB1_s, jI_1, jI_add]
theorem r_grossOf (hb : b < 9) (hR : Rl B P (zrow b rows)) (hc : c < nco P) (pl : Nat → Int64) : ∃ pl', f_X9_grossOf (jI b) rows pl (jI c) = some (vGross P c, pl') := by
  have h8 := hR.2.2.1.2.1
  obtain ⟨⟨hq, hn, h7⟩, hI⟩ := hR.2.2.2.1 c hc
  unfold f_X9_grossOf
  have hfu := FU_k
  generalize FU = fu at hfu ⊢
  refine r_zero_Ss (F := fun z s acc k => f_X9_grossOf_5 z (jI b) rows s (jI c) acc k) (n := nit P c) (post := fun s a => some (a, s)) pl hfu (by omega) ?_ ?_
  · intro z s acc
    simp (disch := omega) only [f_X9_grossOf_5, X9_at, zB1_s, jI_7, jI_add, X9_get, h7, jI_L, jL_le, Nat.le_refl, if_true]
  · intro z s acc k hk
    have hk2 : ¬ nit P c ≤ k := by omega
    obtain ⟨s', e⟩ := r_valueOf hb hR hc hk s
    refine ⟨s', ?_⟩
    simp (disch := omega) only [f_X9_grossOf_5, X9_at, zB1_s, jI_7, jI_add, X9_get, h7, jI_L, jL_le, hk2, if_false]
    rw [e, zB1_s, jI_1, jI_add]
end ITEM
