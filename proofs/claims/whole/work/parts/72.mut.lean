/-! layer 3: what one change does to the relation -/
theorem aS_upd {f : Nat → Int64} {k : Nat} {x : Int64} : ∀ n, aS (vp_updL f k x) n = aS f n + (if k < n then x.toInt - (f k).toInt else 0)
  | 0 => by simp [aS]
  | n + 1 => by
    have e1 : aS (vp_updL f k x) (n + 1) = aS (vp_updL f k x) n + (vp_updL f k x n).toInt := rfl
    have e2 : aS f (n + 1) = aS f n + (f n).toInt := rfl
    rw [e1, e2, aS_upd n]
    by_cases h : k = n
    · subst h
      rw [updL_same, if_neg (by omega), if_pos (by omega)]
      omega
    · rw [updL_ne (fun z => h z.symm)]
      by_cases h2 : k < n
      · rw [if_pos h2, if_pos (by omega)]
        omega
      · rw [if_neg h2, if_neg (by omega)]
        omega
section MUT
variable {B : Int} {P : PrT} {R : Nat → Int64} {c i : Nat}
theorem Rl_measure (hR : Rl B P R) (hc : c < nco P) (hi : i < nit P c) {v : Int32} (h0 : 0 ≤ v.toInt) (h1 : v.toInt ≤ 100) : Rl B (ps_it_progress P (upd (pj_it_progress P) (c * 6 + i) v)) (vp_updL R (20 + 26 * c + 8 + 3 * i + 2) v.toInt64) := by
  have h8 := hR.2.2.1.2.1
  have h6 := (hR.2.2.2.1 c hc).1.2.1
  refine ⟨?_, ?_, gC_c (updL_ne (by omega)) (fun c' o _ _ => updL_ne (fun z => by
    have e : c' = c := by omega
    subst e
    omega)) hR.2.2.1, ?_, gV_c (updL_ne (by omega)) (fun c' o _ _ => updL_ne (by omega)) hR.2.2.2.2.1, gB_c (updL_ne (by omega)) (fun c' o _ _ => updL_ne (by omega)) hR.2.2.2.2.2.1, gL_c (updL_ne (by omega)) (fun c' o _ _ => updL_ne (by omega)) hR.2.2.2.2.2.2.1, gA_c (fun k _ => updL_ne (by omega)) hR.2.2.2.2.2.2.2.1, gK_c (updL_ne (by omega)) (fun j _ => updL_ne (by omega)) hR.2.2.2.2.2.2.2.2⟩
  · show zeq (vp_updL R _ _ 1) _ _ _
    rw [updL_ne (by omega)]
    exact hR.1
  · show zeq (vp_updL R _ _ 2) _ _ _
    rw [updL_ne (by omega)]
    exact hR.2.1
  · intro c' hc'
    have hc' : c' < nco P := hc'
    obtain ⟨⟨a1, a2, a3⟩, d⟩ := hR.2.2.2.1 c' hc'
    refine ⟨⟨a1, a2, (updL_ne (fun z => by
      have e : c' = c := by omega
      subst e
      omega)).trans a3⟩, fun i' hi' => ?_⟩
    have hi' : i' < nit P c' := hi'
    obtain ⟨b1, b2, b3, b4, b5⟩ := d i' hi'
    have eq : qS (ps_it_progress P (upd (pj_it_progress P) (c * 6 + i) v)) (c' * 6 + i') (nva P) = qS P (c' * 6 + i') (nva P) := qS_congr _ (fun v _ => ⟨rfl, rfl, rfl⟩)
    refine ⟨?_, ?_, ?_, b4.trans (congrArg _ eq.symm), b5⟩
    · rw [updL_ne (by omega)]
      exact b1
    · rw [updL_ne (by omega)]
      exact b2
    · show zeq _ (upd (pj_it_progress P) (c * 6 + i) v (c' * 6 + i')) 0 100
      by_cases h : c' = c ∧ i' = i
      · obtain ⟨rfl, rfl⟩ := h
        rw [updL_same, upd_same]
        exact ⟨rfl, h0, h1⟩
      · rw [updL_ne (by omega), upd_ne (by omega)]
        exact b3
theorem Rl_stage (hR : Rl B P R) (hc : c < nco P) {v : Int32} (h0 : 0 ≤ v.toInt) (h1 : v.toInt ≤ 2) : Rl B (ps_co_stage P (upd (pj_co_stage P) c v)) (vp_updL R (20 + 26 * c + 6) v.toInt64) := by
  have h8 := hR.2.2.1.2.1
  refine ⟨?_, ?_, ?_, ?_, gV_c (updL_ne (by omega)) (fun c' o _ _ => updL_ne (by omega)) hR.2.2.2.2.1, gB_c (updL_ne (by omega)) (fun c' o _ _ => updL_ne (by omega)) hR.2.2.2.2.2.1, gL_c (updL_ne (by omega)) (fun c' o _ _ => updL_ne (by omega)) hR.2.2.2.2.2.2.1, gA_c (fun k _ => updL_ne (by omega)) hR.2.2.2.2.2.2.2.1, gK_c (updL_ne (by omega)) (fun j _ => updL_ne (by omega)) hR.2.2.2.2.2.2.2.2⟩
  · show zeq (vp_updL R _ _ 1) _ _ _
    rw [updL_ne (by omega)]
    exact hR.1
  · show zeq (vp_updL R _ _ 2) _ _ _
    rw [updL_ne (by omega)]
    exact hR.2.1
  · obtain ⟨a1, a2, a3, a4⟩ := hR.2.2.1
    refine ⟨a1, a2, (updL_ne (by omega)).trans a3, fun c' hc' => ?_⟩
    have hc' : c' < nco P := hc'
    obtain ⟨b1, b2, b3, b4, b5, b6, b7⟩ := a4 c' hc'
    refine ⟨?_, ?_, ?_, ?_, ?_, ?_, ?_⟩
    · rw [updL_ne (by omega)]
      exact b1
    · rw [updL_ne (by omega)]
      exact b2
    · rw [updL_ne (by omega)]
      exact b3
    · rw [updL_ne (by omega)]
      exact b4
    · rw [updL_ne (by omega)]
      exact b5
    · rw [updL_ne (by omega)]
      exact b6
    · show zeq _ (upd (pj_co_stage P) c v c') 0 2
      by_cases h : c' = c
      · subst h
        rw [updL_same, upd_same]
        exact ⟨rfl, h0, h1⟩
      · rw [updL_ne (by omega), upd_ne h]
        exact b7
  · have g := gI_c (R' := vp_updL R (20 + 26 * c + 6) v.toInt64) h8 (fun c' _ => updL_ne (by omega)) (fun c' i' o _ _ _ => updL_ne (fun z => by
      have e : c' = c := by omega
      subst e
      omega)) hR.2.2.2.1
    intro c' hc'
    obtain ⟨a, d⟩ := g c' hc'
    refine ⟨a, fun i' hi' => ?_⟩
    obtain ⟨b1, b2, b3, b4, b5⟩ := d i' hi'
    have eq : qS (ps_co_stage P (upd (pj_co_stage P) c v)) (c' * 6 + i') (nva P) = qS P (c' * 6 + i') (nva P) := qS_congr _ (fun v _ => ⟨rfl, rfl, rfl⟩)
    exact ⟨b1, b2, b3, b4.trans (congrArg _ eq.symm), b5⟩
theorem gI_va {P' : PrT} (h1 : nco P' = nco P) (h2 : nva P' = nva P) (h3 : ∀ c, pj_it_count P' c = pj_it_count P c) (h4 : ∀ s, pj_it_first P' s = pj_it_first P s ∧ pj_it_price P' s = pj_it_price P s ∧ pj_it_progress P' s = pj_it_progress P s ∧ pj_it_quantity P' s = pj_it_quantity P s) (h5 : ∀ v, pj_va_slot P' v = pj_va_slot P v ∧ pj_va_approved P' v = pj_va_approved P v ∧ pj_va_change P' v = pj_va_change P v) (g : gI P R) : gI P' R := by
  intro c hc
  rw [h1] at hc
  obtain ⟨a, d⟩ := g c hc
  have en : nit P' c = nit P c := by
    unfold nit
    rw [h3]
  rw [en, h3]
  refine ⟨a, fun i hi => ?_⟩
  obtain ⟨x1, x2, x3, x4⟩ := h4 (c * 6 + i)
  rw [x1, x2, x3, x4, h2, qS_congr (nva P) (fun v _ => h5 v)]
  exact d i hi
theorem Rl_acc0 {B' : Int} (hR : Rl B P R) {x : Int64} (h0 : 0 ≤ x.toInt) (hBB : B ≤ B') (hB : B + x.toInt - (pj_pr_accounts P 0).toInt ≤ B') : Rl B' (ps_pr_accounts P (vp_updL (pj_pr_accounts P) 0 x)) (vp_updL R 8 x) := by
  have h8 := hR.2.2.1.2.1
  refine ⟨?_, ?_, gC_c (updL_ne (by omega)) (fun c' o _ _ => updL_ne (by omega)) hR.2.2.1, gI_va (P := P) rfl rfl (fun _ => rfl) (fun _ => ⟨rfl, rfl, rfl, rfl⟩) (fun _ => ⟨rfl, rfl, rfl⟩) (gI_c h8 (fun c' _ => updL_ne (by omega)) (fun c' i' o _ _ _ => updL_ne (by omega)) hR.2.2.2.1), gV_c (updL_ne (by omega)) (fun c' o _ _ => updL_ne (by omega)) hR.2.2.2.2.1, gB_c (updL_ne (by omega)) (fun c' o _ _ => updL_ne (by omega)) hR.2.2.2.2.2.1, gL_c (updL_ne (by omega)) (fun c' o _ _ => updL_ne (by omega)) hR.2.2.2.2.2.2.1, ⟨fun k hk => ?_, ?_⟩, gK_c (updL_ne (by omega)) (fun j _ => updL_ne (by omega)) hR.2.2.2.2.2.2.2.2⟩
  · show zeq (vp_updL R _ _ 1) _ _ _
    rw [updL_ne (by omega)]
    exact ⟨hR.1.1, hR.1.2.1, Int.le_trans hR.1.2.2 (dB_mono hBB)⟩
  · show zeq (vp_updL R _ _ 2) _ _ _
    rw [updL_ne (by omega)]
    exact hR.2.1
  · show vp_updL R 8 x (8 + k) = vp_updL (pj_pr_accounts P) 0 x k ∧ 0 ≤ (vp_updL (pj_pr_accounts P) 0 x k).toInt
    by_cases h : k = 0
    · subst h
      rw [updL_same, updL_same]
      exact ⟨rfl, h0⟩
    · rw [updL_ne (by omega), updL_ne h]
      exact hR.2.2.2.2.2.2.2.1.1 k hk
  · show aS (vp_updL (pj_pr_accounts P) 0 x) 9 ≤ B'
    rw [aS_upd, if_pos (by omega)]
    have := hR.2.2.2.2.2.2.2.1.2
    omega
theorem Rl_day (hR : Rl B P R) {v : Int32} (h0 : 0 ≤ v.toInt) (h1 : v.toInt ≤ dB B) : Rl B (ps_pr_day P v) (vp_updL R 1 v.toInt64) := by
  have h8 := hR.2.2.1.2.1
  refine ⟨?_, ?_, gC_c (updL_ne (by omega)) (fun c' o _ _ => updL_ne (by omega)) hR.2.2.1, gI_va (P := P) rfl rfl (fun _ => rfl) (fun _ => ⟨rfl, rfl, rfl, rfl⟩) (fun _ => ⟨rfl, rfl, rfl⟩) (gI_c h8 (fun c' _ => updL_ne (by omega)) (fun c' i' o _ _ _ => updL_ne (by omega)) hR.2.2.2.1), gV_c (updL_ne (by omega)) (fun c' o _ _ => updL_ne (by omega)) hR.2.2.2.2.1, gB_c (updL_ne (by omega)) (fun c' o _ _ => updL_ne (by omega)) hR.2.2.2.2.2.1, gL_c (updL_ne (by omega)) (fun c' o _ _ => updL_ne (by omega)) hR.2.2.2.2.2.2.1, gA_c (fun k _ => updL_ne (by omega)) hR.2.2.2.2.2.2.2.1, gK_c (updL_ne (by omega)) (fun j _ => updL_ne (by omega)) hR.2.2.2.2.2.2.2.2⟩
  · show zeq (vp_updL R 1 v.toInt64 1) v 0 (dB B)
    rw [updL_same]
    exact ⟨rfl, h0, h1⟩
  · show zeq (vp_updL R _ _ 2) _ _ _
    rw [updL_ne (by omega)]
    exact hR.2.1
theorem Rl_withdraw (hR : Rl B P R) {k : Nat} (hk : k < nli P) : Rl B (ps_li_withdrawn P (upd (pj_li_withdrawn P) k 1)) (vp_updL R (530 + 4 * k + 3) 1) := by
  have h8 := hR.2.2.1.2.1
  obtain ⟨a1, a2, a3, a4⟩ := hR.2.2.2.2.2.2.1
  refine ⟨?_, ?_, gC_c (updL_ne (by omega)) (fun c' o _ _ => updL_ne (by omega)) hR.2.2.1, gI_va (P := P) rfl rfl (fun _ => rfl) (fun _ => ⟨rfl, rfl, rfl, rfl⟩) (fun _ => ⟨rfl, rfl, rfl⟩) (gI_c h8 (fun c' _ => updL_ne (by omega)) (fun c' i' o _ _ _ => updL_ne (by omega)) hR.2.2.2.1), gV_c (updL_ne (by omega)) (fun c' o _ _ => updL_ne (by omega)) hR.2.2.2.2.1, gB_c (updL_ne (by omega)) (fun c' o _ _ => updL_ne (by omega)) hR.2.2.2.2.2.1, ⟨a1, a2, (updL_ne (by omega)).trans a3, fun k' hk' => ?_⟩, gA_c (fun k _ => updL_ne (by omega)) hR.2.2.2.2.2.2.2.1, gK_c (updL_ne (by omega)) (fun j _ => updL_ne (by omega)) hR.2.2.2.2.2.2.2.2⟩
  · show zeq (vp_updL R _ _ 1) _ _ _
    rw [updL_ne (by omega)]
    exact hR.1
  · show zeq (vp_updL R _ _ 2) _ _ _
    rw [updL_ne (by omega)]
    exact hR.2.1
  · have hk' : k' < nli P := hk'
    obtain ⟨b1, b2, b3, b4⟩ := a4 k' hk'
    refine ⟨?_, ?_, ?_, ?_⟩
    · rw [updL_ne (by omega)]
      exact b1
    · rw [updL_ne (by omega)]
      exact b2
    · rw [updL_ne (by omega)]
      exact b3
    · show zeq _ (upd (pj_li_withdrawn P) k 1 k') 0 1
      by_cases h : k' = k
      · subst h
        rw [updL_same, upd_same]
        exact ⟨rfl, by decide, by decide⟩
      · rw [updL_ne (by omega), upd_ne h]
        exact b4
/-- a transfer along a certificate -/
theorem Rl_transfer (hR : Rl B P R) {k pi : Nat} (hk : k < nce P) (hcc : pj_ce_contract P k = jI c) (hc : c < nco P) (hp : (pj_co_parent P c).toInt + 1 = (pi : Int)) {s : Int64} (h0 : 0 ≤ s.toInt) (h1 : s.toInt ≤ (pj_pr_accounts P pi).toInt) (h2 : s.toInt ≤ (pj_ce_open P k).toInt) (hB : B < 1000000000000) : Rl B (ps_ce_open (ps_pr_accounts P (vp_updL (vp_updL (pj_pr_accounts P) pi (pj_pr_accounts P pi - s)) (c + 1) (pj_pr_accounts P (c + 1) + s))) (vp_updL (pj_ce_open P) k (pj_ce_open P k - s))) (vp_updL (vp_updL (vp_updL R (8 + pi) (pj_pr_accounts P pi - s)) (8 + (c + 1)) (pj_pr_accounts P (c + 1) + s)) (320 + 5 * k + 2) (R (320 + 5 * k + 2) + s)) := by
  have h8 := hR.2.2.1.2.1
  have hpar := (hR.2.2.1.2.2.2 c hc).1.2
  obtain ⟨g1, g2⟩ := hR.2.2.2.2.2.2.2.1
  obtain ⟨a1, a2, a3, a4⟩ := hR.2.2.2.2.2.1
  have hpi : pi ≤ c := by omega
  have nn := fun j (hj : j < 9) => (g1 j hj).2
  have hle : ∀ (n j : Nat), (∀ q, q < n → 0 ≤ (pj_pr_accounts P q).toInt) → j < n → (pj_pr_accounts P j).toInt ≤ aS (pj_pr_accounts P) n := by
    intro n
    induction n with
    | zero => intro j _ hj; omega
    | succ n ih =>
      intro j hq hj
      show _ ≤ aS (pj_pr_accounts P) n + (pj_pr_accounts P n).toInt
      have hs : 0 ≤ aS (pj_pr_accounts P) n := by
        clear ih hj
        have : ∀ m, m ≤ n → 0 ≤ aS (pj_pr_accounts P) m := by
          intro m
          induction m with
          | zero => intro _; exact Int.le_refl (0 : Int)
          | succ m ih2 =>
            intro hm
            have e : aS (pj_pr_accounts P) (m + 1) = aS (pj_pr_accounts P) m + (pj_pr_accounts P m).toInt := rfl
            rw [e]
            have := ih2 (by omega)
            have := hq m (by omega)
            omega
        exact this n (Nat.le_refl _)
      by_cases h : j = n
      · subst h
        omega
      · have := ih j (fun q hq' => hq q (by omega)) (by omega)
        have := hq n (by omega)
        omega
  have u1 := hle 9 pi nn (by omega)
  have u2 := hle 9 (c + 1) nn (by omega)
  have e1 := J_sub (a := pj_pr_accounts P pi) (b := s) (by have := nn pi (by omega); omega) (by have := nn pi (by omega); omega)
  have e2 := J_add (a := pj_pr_accounts P (c + 1)) (b := s) (by have := nn (c + 1) (by omega); omega) (by omega)
  refine ⟨?_, ?_, gC_c ?_ (fun c' o _ _ => ?_) hR.2.2.1, gI_va (P := P) rfl rfl (fun _ => rfl) (fun _ => ⟨rfl, rfl, rfl, rfl⟩) (fun _ => ⟨rfl, rfl, rfl⟩) (gI_c h8 (fun c' _ => ?_) (fun c' i' o _ _ _ => ?_) hR.2.2.2.1), gV_c ?_ (fun c' o _ _ => ?_) hR.2.2.2.2.1, ⟨a1, a2, ?_, fun k' hk' => ?_⟩, gL_c ?_ (fun c' o _ _ => ?_) hR.2.2.2.2.2.2.1, ⟨fun q hq => ?_, ?_⟩, gK_c ?_ (fun j _ => ?_) hR.2.2.2.2.2.2.2.2⟩
  · show zeq (vp_updL (vp_updL (vp_updL R _ _) _ _) _ _ 1) _ _ _
    rw [updL_ne (by omega), updL_ne (by omega), updL_ne (by omega)]
    exact hR.1
  · show zeq (vp_updL (vp_updL (vp_updL R _ _) _ _) _ _ 2) _ _ _
    rw [updL_ne (by omega), updL_ne (by omega), updL_ne (by omega)]
    exact hR.2.1
  · rw [updL_ne (by omega), updL_ne (by omega), updL_ne (by omega)]
  · rw [updL_ne (by omega), updL_ne (by omega), updL_ne (by omega)]
  · rw [updL_ne (by omega), updL_ne (by omega), updL_ne (by omega)]
  · rw [updL_ne (by omega), updL_ne (by omega), updL_ne (by omega)]
  · rw [updL_ne (by omega), updL_ne (by omega), updL_ne (by omega)]
  · rw [updL_ne (by omega), updL_ne (by omega), updL_ne (by omega)]
  · rw [updL_ne (by omega), updL_ne (by omega), updL_ne (by omega)]
    exact a3
  · have hk' : k' < nce P := hk'
    obtain ⟨b1, b2, b3, b4, b5⟩ := a4 k' hk'
    refine ⟨?_, ?_, ?_, ?_, ?_⟩
    · rw [updL_ne (by omega), updL_ne (by omega), updL_ne (by omega)]
      exact b1
    · rw [updL_ne (by omega), updL_ne (by omega), updL_ne (by omega)]
      exact b2
    · show _ - _ = vp_updL (pj_ce_open P) k (pj_ce_open P k - s) k' ∧ 0 ≤ (vp_updL (pj_ce_open P) k (pj_ce_open P k - s) k').toInt ∧ (vp_updL (pj_ce_open P) k (pj_ce_open P k - s) k').toInt ≤ _
      by_cases h : k' = k
      · subst h
        have e3 := J_sub (a := pj_ce_open P k') (b := s) (by omega) (by omega)
        rw [updL_ne (by omega), updL_ne (by omega), updL_ne (by omega), updL_same, updL_same, ← b3.1]
        refine ⟨?_, by rw [b3.1]; omega, by rw [b3.1]; omega⟩
        rw [Int64.sub_eq_add_neg, Int64.neg_add, Int64.sub_eq_add_neg, Int64.sub_eq_add_neg, Int64.sub_eq_add_neg, L_assoc]
      · rw [updL_ne (by omega), updL_ne (by omega), updL_ne (by omega), updL_ne (by omega), updL_ne (by omega), updL_ne (by omega), updL_ne h]
        exact b3
    · rw [updL_ne (by omega), updL_ne (by omega), updL_ne (by omega)]
      exact b4
    · rw [updL_ne (by omega), updL_ne (by omega), updL_ne (by omega)]
      exact b5
  · rw [updL_ne (by omega), updL_ne (by omega), updL_ne (by omega)]
  · rw [updL_ne (by omega), updL_ne (by omega), updL_ne (by omega)]
  · show _ = vp_updL (vp_updL (pj_pr_accounts P) pi (pj_pr_accounts P pi - s)) (c + 1) (pj_pr_accounts P (c + 1) + s) q ∧ 0 ≤ (vp_updL (vp_updL (pj_pr_accounts P) pi (pj_pr_accounts P pi - s)) (c + 1) (pj_pr_accounts P (c + 1) + s) q).toInt
    rw [updL_ne (by omega)]
    by_cases h : q = c + 1
    · subst h
      rw [updL_same, updL_same]
      refine ⟨rfl, ?_⟩
      have := nn (c + 1) (by omega)
      omega
    · rw [updL_ne (by omega), updL_ne h]
      by_cases h3 : q = pi
      · subst h3
        rw [updL_same, updL_same]
        exact ⟨rfl, by omega⟩
      · rw [updL_ne (by omega), updL_ne h3]
        exact g1 q hq
  · show aS (vp_updL (vp_updL (pj_pr_accounts P) pi (pj_pr_accounts P pi - s)) (c + 1) (pj_pr_accounts P (c + 1) + s)) 9 ≤ B
    rw [aS_upd, aS_upd, if_pos (by omega), if_pos (by omega), updL_ne (by omega)]
    omega
  · rw [updL_ne (by omega), updL_ne (by omega), updL_ne (by omega)]
  · rw [updL_ne (by omega), updL_ne (by omega), updL_ne (by omega)]
end MUT
