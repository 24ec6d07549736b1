/-! layer 3: settling over days -/
theorem k_fore {B : Int} {P : PrT} {R : Nat → Int64} (D : PrT) (hR : Rl B P R) : ∃ F0 : PrT, Ag F0 P ∧ f_X5_copyFrom (pj_pr_day D) (pj_pr_accounts D) (pj_co_count D) (pj_co_parent D) (pj_co_retentionPercent D) (pj_co_limitPercent D) (pj_co_paymentDays D) (pj_co_rank D) (pj_co_linked D) (pj_co_stage D) (pj_it_count D) (pj_it_first D) (pj_it_price D) (pj_it_quantity D) (pj_it_progress D) (pj_va_count D) (pj_va_slot D) (pj_va_change D) (pj_va_approved D) (pj_ce_count D) (pj_ce_contract D) (pj_ce_amount D) (pj_ce_open D) (pj_ce_issued D) (pj_ce_due D) (pj_li_count D) (pj_li_contract D) (pj_li_amount D) (pj_li_filed D) (pj_li_withdrawn D) (pj_pr_day P) (pj_pr_accounts P) (pj_co_count P) (pj_co_parent P) (pj_co_retentionPercent P) (pj_co_limitPercent P) (pj_co_paymentDays P) (pj_co_rank P) (pj_co_linked P) (pj_co_stage P) (pj_it_count P) (pj_it_first P) (pj_it_price P) (pj_it_quantity P) (pj_it_progress P) (pj_va_count P) (pj_va_slot P) (pj_va_change P) (pj_va_approved P) (pj_ce_count P) (pj_ce_contract P) (pj_ce_amount P) (pj_ce_open P) (pj_ce_issued P) (pj_ce_due P) (pj_li_count P) (pj_li_contract P) (pj_li_amount P) (pj_li_filed P) (pj_li_withdrawn P) = some (pj_pr_day F0, pj_pr_accounts F0, pj_co_count F0, pj_co_parent F0, pj_co_retentionPercent F0, pj_co_limitPercent F0, pj_co_paymentDays F0, pj_co_rank F0, pj_co_linked F0, pj_co_stage F0, pj_it_count F0, pj_it_first F0, pj_it_price F0, pj_it_quantity F0, pj_it_progress F0, pj_va_count F0, pj_va_slot F0, pj_va_change F0, pj_va_approved F0, pj_ce_count F0, pj_ce_contract F0, pj_ce_amount F0, pj_ce_open F0, pj_ce_issued F0, pj_ce_due F0, pj_li_count F0, pj_li_contract F0, pj_li_amount F0, pj_li_filed F0, pj_li_withdrawn F0) := by
  obtain ⟨q, e, a⟩ := k_copy D hR
  exact ⟨pm_0 D q.1 q.2.1 q.2.2.1 q.2.2.2.1 q.2.2.2.2.1 q.2.2.2.2.2.1 q.2.2.2.2.2.2.1 q.2.2.2.2.2.2.2.1 q.2.2.2.2.2.2.2.2.1 q.2.2.2.2.2.2.2.2.2.1 q.2.2.2.2.2.2.2.2.2.2.1 q.2.2.2.2.2.2.2.2.2.2.2.1 q.2.2.2.2.2.2.2.2.2.2.2.2.1 q.2.2.2.2.2.2.2.2.2.2.2.2.2.1 q.2.2.2.2.2.2.2.2.2.2.2.2.2.2.1 q.2.2.2.2.2.2.2.2.2.2.2.2.2.2.2.1 q.2.2.2.2.2.2.2.2.2.2.2.2.2.2.2.2.1 q.2.2.2.2.2.2.2.2.2.2.2.2.2.2.2.2.2.1 q.2.2.2.2.2.2.2.2.2.2.2.2.2.2.2.2.2.2.1 q.2.2.2.2.2.2.2.2.2.2.2.2.2.2.2.2.2.2.2.1 q.2.2.2.2.2.2.2.2.2.2.2.2.2.2.2.2.2.2.2.2.1 q.2.2.2.2.2.2.2.2.2.2.2.2.2.2.2.2.2.2.2.2.2.1 q.2.2.2.2.2.2.2.2.2.2.2.2.2.2.2.2.2.2.2.2.2.2.1 q.2.2.2.2.2.2.2.2.2.2.2.2.2.2.2.2.2.2.2.2.2.2.2.1 q.2.2.2.2.2.2.2.2.2.2.2.2.2.2.2.2.2.2.2.2.2.2.2.2.1 q.2.2.2.2.2.2.2.2.2.2.2.2.2.2.2.2.2.2.2.2.2.2.2.2.2.1 q.2.2.2.2.2.2.2.2.2.2.2.2.2.2.2.2.2.2.2.2.2.2.2.2.2.2.1 q.2.2.2.2.2.2.2.2.2.2.2.2.2.2.2.2.2.2.2.2.2.2.2.2.2.2.2.1 q.2.2.2.2.2.2.2.2.2.2.2.2.2.2.2.2.2.2.2.2.2.2.2.2.2.2.2.2.1 q.2.2.2.2.2.2.2.2.2.2.2.2.2.2.2.2.2.2.2.2.2.2.2.2.2.2.2.2.2 (pj_pr_pricing P) (pj_pg_threshold P) (pj_pg_length P) (pj_pg_clen P) (pj_pg_code P), a, e.trans rfl⟩
theorem ag_pm2 {P Q : PrT} (h : pk Q = pk P) (ord : Nat → Int32) : Ag (pm_1 P (pj_pr_day Q) (pj_pr_accounts Q) (pj_ce_open Q) ord) Q := by
  unfold pk at h
  simp only [Prod.mk.injEq] at h
  obtain ⟨a1, a2, a3, a4, a5, a6, a7, a8, a9, b1, b2, b3, b4, b5, b6, b7, b8, b9, c1, c2, c3, c4, c5, c6, c7, c8, c9, d1, d2, d3, e1, e2⟩ := h
  refine ⟨⟨rfl, fun k _ => rfl⟩, ⟨a7.symm, fun c _ => ⟨congrFun a5.symm c, congrFun a8.symm c, congrFun a9.symm c, congrFun b1.symm c, congrFun b2.symm c, congrFun a6.symm c, congrFun b3.symm c⟩⟩, (by show pgT P = pgT Q; unfold pgT; rw [e1, b4, b5, e2, b6]), ⟨fun c _ => congrFun b7.symm c, fun s _ => ⟨congrFun b8.symm s, congrFun b9.symm s, congrFun c1.symm s, congrFun c2.symm s⟩⟩, ⟨c3.symm, fun v _ => ⟨congrFun c4.symm v, congrFun c5.symm v, congrFun c6.symm v⟩⟩, ⟨a1.symm, fun k _ => ⟨congrFun a2.symm k, congrFun c7.symm k, rfl, congrFun a3.symm k, congrFun a4.symm k⟩⟩, ⟨c8.symm, fun k _ => ⟨congrFun c9.symm k, congrFun d1.symm k, congrFun d2.symm k, congrFun d3.symm k⟩⟩⟩
theorem JJ_rows {ok : PgT → Prop} {t : Nat} {p u : Int32} {Rd : RdT} {S : Nat → PrT} {now undo : Int32} {rows rows' : Nat → Int64} {bytes errorAt : Int32} {text : Nat → Int32} (h : JJ ok t p u Rd S now undo rows bytes errorAt text) (hr : ∀ i q, i < 9 → q < 2500 → zrow i rows' q = zrow i rows q) : JJ ok t p u Rd S now undo rows' bytes errorAt text := by
  obtain ⟨w', d, f, h1, h2, h3, h4, h5, h6, h7, h8⟩ := h
  exact ⟨w', d, f, h1, h2, h3, h4, h5, h6, fun j hj => ⟨Rl_c (fun q hq => hr _ q (by omega) hq) (h7 j hj).1, (h7 j hj).2⟩, h8⟩
theorem k_isPaid {B : Int} {P : PrT} {R : Nat → Int64} (hR : Rl B P R) (c : Int32) : f_X0_isPaid (pj_ce_count P) (pj_ce_open P) c = some 0 ∨ f_X0_isPaid (pj_ce_count P) (pj_ce_open P) c = some 1 := by
  obtain ⟨e, h40, -⟩ := hR.2.2.2.2.2.1
  unfold f_X0_isPaid
  by_cases c1 : c < 0
  · rw [if_pos c1]
    exact Or.inl rfl
  · rw [if_neg c1]
    by_cases c2 : pj_ce_count P ≤ c
    · rw [if_pos c2]
      exact Or.inl rfl
    · rw [if_neg c2]
      rw [e] at c2
      obtain ⟨k, hk, ek⟩ := I_nat c1 (I_nle.mp c2) (by omega)
      rw [ek, zR_n (by omega) (by omega)]
      split
      · exact Or.inr rfl
      · exact Or.inl rfl
theorem k_paid {n k : Nat} {O : Nat → Int64} (hk : k < n) (hn : n ≤ 40) : f_X0_isPaid (jI n) O (jI k) = (if O k = 0 then some 1 else some 0) := by
  unfold f_X0_isPaid
  rw [if_neg (fun z => by have := (jI_lt (a := k) (b := 0) (by omega) (by omega)).mp z; omega), if_neg (fun z => by have := (jI_le (by omega) (by omega)).mp z; omega), zR_n (by omega) (by omega)]
theorem nextDue_all {n : Nat} {due : Nat → Int32} (hn : n ≤ 40) {d e : Int32} (h : d.toInt ≤ e.toInt) : ∃ r, f_X0_nextDueDay (jI n) due d e = some r ∧ d.toInt ≤ r.toInt ∧ r.toInt ≤ e.toInt ∧ ∀ k, k < n → (due k).toInt < d.toInt ∨ r.toInt ≤ (due k).toInt := by
  unfold f_X0_nextDueDay
  have hfu := FU_k
  generalize FU = fu at hfu ⊢
  exact k_nextDue hn n 0 fu e (by omega) (by omega) h (Int.le_refl _) (fun k hk => by omega)
section DAYS
variable {B : Int} {b N : Nat} {P0 : PrT} {o : Nat → Nat} {ordr : Nat → Int32} {cert : Int32} {α : Type} {F : Nat → (Nat → Int64) → Int64 → Nat → Option α}
theorem zrun (hb : b < 9) (hB : B < 1000000000000) (ho : oS (pj_ce_due P0) ordr o (nce P0)) (hF : ∀ z rows acc k r s Q, Rl B Q (zrow b rows) → pk Q = pk P0 → f_X0_isPaid (pj_ce_count P0) (pj_ce_open Q) cert = some 0 → k < N → f_X9_settles (jI b) rows = some (s, r) → F (z + 1) rows acc k = F z r (acc + s) (k + 1)) {d0 : Int32} {A O : Nat → Int64} (hp : f_X0_isPaid (pj_ce_count P0) O cert = some 0) (hz : f_X5_settleOneDay d0 A (pj_co_parent P0) (pj_co_linked P0) (pj_ce_count P0) (pj_ce_contract P0) O (pj_ce_issued P0) (pj_ce_due P0) ordr = some (0, d0 + (1 : Int32), A, O)) : ∀ (m k z : Nat) (rows : Nat → Int64) (acc : Int64) (Q : PrT), pk Q = pk P0 → pj_pr_accounts Q = A → pj_ce_open Q = O → Rl B Q (zrow b rows) → (pj_pr_day Q).toInt + m ≤ dB B → d0.toInt < (pj_pr_day Q).toInt → k + m ≤ N → m ≤ z → (∀ j, j < nce P0 → (pj_ce_due P0 j).toInt ≤ d0.toInt ∨ (pj_pr_day Q).toInt + m ≤ (pj_ce_due P0 j).toInt) → ∃ (Q' : PrT) (rows' : Nat → Int64), F z rows acc k = F (z - m) rows' acc (k + m) ∧ Rl B Q' (zrow b rows') ∧ pk Q' = pk P0 ∧ pj_pr_accounts Q' = A ∧ pj_ce_open Q' = O ∧ (pj_pr_day Q').toInt = (pj_pr_day Q).toInt + m ∧ ∀ i, i ≠ b → ∀ q, q < 2500 → zrow i rows' q = zrow i rows q := by
  intro m
  induction m with
  | zero =>
    intro k z rows acc Q hk hA hO hR hd hd0 hN hz hf
    exact ⟨Q, rows, rfl, hR, hk, hA, hO, by simp, fun _ _ _ _ => rfl⟩
  | succ m ih =>
    intro k z rows acc Q hk hA hO hR hd hd0 hN hz' hf
    obtain ⟨z, rfl⟩ : ∃ y, z = y + 1 := ⟨z - 1, by omega⟩
    obtain ⟨k1, k2, k3, k4, k5, k6⟩ := pk_6 hk
    have hn := pk_n hk
    have hcn : pj_ce_count Q = jI (nce Q) := hR.2.2.2.2.2.1.1
    have h40 : nce Q ≤ 40 := hR.2.2.2.2.2.1.2.1
    rw [k1, hn] at hcn
    rw [hn] at h40
    have dh := dB_hi B
    have e1 : (1 : Int32).toInt = 1 := rfl
    obtain ⟨-, d2, d3⟩ := hR.1
    have ho' : oS (pj_ce_due Q) ordr o (nce Q) := by rw [k4, hn]; exact ho
    obtain ⟨s, Q1, rows1, e8, e9, hR1, hk1, hd1, hoth, hzero⟩ := day_all hb hB ho' hR (by omega)
    rw [k1, k2, k3, k4, k5, k6, hA, hO] at e8
    have hz0 := sod_day (n := nce P0) (d := d0) (d' := pj_pr_day Q) (A0 := A) (due := pj_ce_due P0) (ordr := ordr) (par := pj_co_parent P0) (lnk := pj_co_linked P0) (con := pj_ce_contract P0) (iss := pj_ce_issued P0) h40 (fun i hi => ⟨o i, (ho.1 i hi).2, (ho.1 i hi).1⟩) (fun j hj => by
      rw [Int32.lt_iff_toInt_lt, Int32.lt_iff_toInt_lt]
      have := hf j hj
      omega) FU 0 A O 0 (0, d0 + (1 : Int32), A, O) (by omega) (by rw [← hcn]; exact hz)
    have e8' : f_X5_settleOneDay_4 FU (pj_pr_day Q) A (pj_co_parent P0) (pj_co_linked P0) (jI (nce P0)) (pj_ce_contract P0) O (pj_ce_issued P0) (pj_ce_due P0) ordr 0 (jI 0) = some (s, pj_pr_day Q + (1 : Int32), pj_pr_accounts Q1, pj_ce_open Q1) := by
      rw [← hcn]
      exact e8
    have ee := Option.some.inj (hz0.symm.trans e8')
    have es : s = 0 := (congrArg (fun x => x.1) ee).symm
    have eA : pj_pr_accounts Q1 = A := (congrArg (fun x => x.2.2.1) ee).symm
    have eO : pj_ce_open Q1 = O := (congrArg (fun x => x.2.2.2) ee).symm
    have ed := I_add (a := pj_pr_day Q) (b := (1 : Int32)) (by omega) (by omega)
    have hk1' := hk1.trans hk
    have hstep := hF z rows acc k rows1 s Q hR hk (by rw [hO]; exact hp) (by omega) e9
    obtain ⟨Q', rows', g1, g2, g3, g4, g5, g6, g7⟩ := ih (k + 1) z rows1 acc Q1 hk1' eA eO hR1 (by rw [hd1]; omega) (by rw [hd1]; omega) (by omega) (by omega) (fun j hj => by
      have := hf j hj
      rw [hd1]
      omega)
    refine ⟨Q', rows', ?_, g2, g3, g4, g5, ?_, fun i hi q hq => (g7 i hi q hq).trans (hoth i hi q hq)⟩
    · rw [hstep, es, L_add0, g1, show z + 1 - (m + 1) = z - m by omega, show k + 1 + m = k + (m + 1) by omega]
    · rw [g6, hd1, ed]
      omega
theorem sett (hb : b < 9) (hB : B < 1000000000000) (hN : N ≤ 1000) (ho : oS (pj_ce_due P0) ordr o (nce P0)) (hF : ∀ z rows acc k r s Q, Rl B Q (zrow b rows) → pk Q = pk P0 → f_X0_isPaid (pj_ce_count P0) (pj_ce_open Q) cert = some 0 → k < N → f_X9_settles (jI b) rows = some (s, r) → F (z + 1) rows acc k = F z r (acc + s) (k + 1)) {e : Int32} (he : e.toInt ≤ dB B) : ∀ (r k i z zc : Nat) (rows : Nat → Int64) (acc : Int64) (Q : PrT), k + r = N → i ≤ k → r < z → N - i < zc → pk Q = pk P0 → Rl B Q (zrow b rows) → (pj_pr_day Q).toInt + r = e.toInt → ∃ (accF : Int64) (Q' : PrT) (rowsF : Nat → Int64) (kF zF : Nat), f_X5_settleUntilPaid_24 zc (pj_pr_day Q) (pj_pr_accounts Q) (pj_co_parent P0) (pj_co_linked P0) (pj_ce_count P0) (pj_ce_contract P0) (pj_ce_open Q) (pj_ce_issued P0) (pj_ce_due P0) ordr (jI N) cert e acc (jI i) = some (accF, pj_pr_day Q', pj_pr_accounts Q', pj_ce_open Q', ordr) ∧ F z rows acc k = F (zF + 1) rowsF accF kF ∧ Rl B Q' (zrow b rowsF) ∧ pk Q' = pk P0 ∧ kF ≤ N ∧ (pj_pr_day Q').toInt + ((N : Int) - kF) = e.toInt ∧ (kF = N ∨ f_X0_isPaid (pj_ce_count P0) (pj_ce_open Q') cert = some 1) ∧ ∀ i, i ≠ b → ∀ q, q < 2500 → zrow i rowsF q = zrow i rows q := by
  intro r
  induction r using Nat.strongRecOn with
  | ind r ih =>
    intro k i z zc rows acc Q hr hi hz hzc hk hR hd
    obtain ⟨zc, rfl⟩ : ∃ y, zc = y + 1 := ⟨zc - 1, by omega⟩
    obtain ⟨z, rfl⟩ : ∃ y, z = y + 1 := ⟨z - 1, by omega⟩
    obtain ⟨k1, k2, k3, k4, k5, k6⟩ := pk_6 hk
    have hn := pk_n hk
    have hcn : pj_ce_count Q = jI (nce Q) := hR.2.2.2.2.2.1.1
    have h40 : nce Q ≤ 40 := hR.2.2.2.2.2.1.2.1
    rw [k1, hn] at hcn
    rw [hn] at h40
    have dh := dB_hi B
    have e1 : (1 : Int32).toInt = 1 := rfl
    obtain ⟨-, d2, d3⟩ := hR.1
    have ei : jI i + (1 : Int32) = jI (i + 1) := by rw [jI_1, jI_add]
    simp only [f_X5_settleUntilPaid_24]
    by_cases c1 : N ≤ i
    · rw [if_pos ((jI_le (by omega) (by omega)).mpr c1)]
      exact ⟨acc, Q, rows, k, z, rfl, rfl, hR, hk, by omega, by omega, Or.inl (by omega), fun _ _ _ _ => rfl⟩
    rw [if_neg (fun z => c1 ((jI_le (by omega) (by omega)).mp z))]
    by_cases c2 : e ≤ pj_pr_day Q
    · have c2' := Int32.le_iff_toInt_le.mp c2
      rw [if_pos c2]
      exact ⟨acc, Q, rows, k, z, rfl, rfl, hR, hk, by omega, by omega, Or.inl (by omega), fun _ _ _ _ => rfl⟩
    have c2' : ¬ e.toInt ≤ (pj_pr_day Q).toInt := fun z => c2 (Int32.le_iff_toInt_le.mpr z)
    rw [if_neg c2]
    have hpd := k_isPaid hR cert
    rw [k1] at hpd
    rcases hpd with hp | hp
    case inr =>
      rw [hp, zB1_s, if_neg one_ne]
      exact ⟨acc, Q, rows, k, z, rfl, rfl, hR, hk, by omega, by omega, Or.inr hp, fun _ _ _ _ => rfl⟩
    rw [hp, zB1_s, if_pos rfl]
    have ho' : oS (pj_ce_due Q) ordr o (nce Q) := by rw [k4, hn]; exact ho
    obtain ⟨s, Q1, rows1, e8, e9, hR1, hk1, hd1, hoth, hzero⟩ := day_all hb hB ho' hR (by omega)
    rw [k1, k2, k3, k4, k5, k6] at e8
    have hk1' := hk1.trans hk
    have hstep := hF z rows acc k rows1 s Q hR hk hp (by omega) e9
    have ed := I_add (a := pj_pr_day Q) (b := (1 : Int32)) (by omega) (by omega)
    rw [e8, zB1_s]
    dsimp only
    rw [ei]
    by_cases cs : s = 0
    · rw [if_pos cs]
      obtain ⟨yA, yO⟩ := hzero cs
      obtain ⟨nx, en, n1, n2, n3⟩ := nextDue_all (n := nce P0) (due := pj_ce_due P0) h40 (d := pj_pr_day Q + (1 : Int32)) (e := e) (by omega)
      rw [← hcn] at en
      rw [en, zB1_s]
      obtain ⟨mm, hmm⟩ : ∃ mm : Nat, nx.toInt = (pj_pr_day Q1).toInt + mm := ⟨(nx.toInt - (pj_pr_day Q1).toInt).toNat, by rw [hd1]; omega⟩
      have hz0 : f_X5_settleOneDay (pj_pr_day Q) (pj_pr_accounts Q1) (pj_co_parent P0) (pj_co_linked P0) (pj_ce_count P0) (pj_ce_contract P0) (pj_ce_open Q1) (pj_ce_issued P0) (pj_ce_due P0) ordr = some (0, pj_pr_day Q + (1 : Int32), pj_pr_accounts Q1, pj_ce_open Q1) := by
        rw [cs, yA, yO] at e8
        rw [yA, yO]
        exact e8
      obtain ⟨Q2, rows2, g1, g2, g3, g4, g5, g6, g7⟩ := zrun hb hB ho hF (d0 := pj_pr_day Q) (by rw [yO]; exact hp) hz0 mm (k + 1) z rows1 (acc + s) Q1 hk1' rfl rfl hR1 (by omega) (by rw [hd1]; omega) (by rw [hd1] at hmm; omega) (by rw [hd1] at hmm; omega) (fun j hj => by
        have := n3 j hj
        omega)
      have e2 : pj_pr_day Q2 = nx := Int32.toInt_inj.mp (by omega)
      have hmm2 := hmm
      rw [hd1, ed] at hmm2
      obtain ⟨accF, Q', rowsF, kF, zF, j1, j2, j3, j4, j5, j6, j7, j8⟩ := ih (r - 1 - mm) (by omega) (k + 1 + mm) (i + 1) (z - mm) zc rows2 (acc + s) Q2 (by omega) (by omega) (by omega) (by omega) g3 g2 (by omega)
      rw [e2, g4, g5] at j1
      refine ⟨accF, Q', rowsF, kF, zF, j1, ?_, j3, j4, j5, j6, j7, fun i hi q hq => (j8 i hi q hq).trans ((g7 i hi q hq).trans (hoth i hi q hq))⟩
      rw [hstep, g1, j2]
    · rw [if_neg cs]
      obtain ⟨accF, Q', rowsF, kF, zF, j1, j2, j3, j4, j5, j6, j7, j8⟩ := ih (r - 1) (by omega) (k + 1) (i + 1) z zc rows1 (acc + s) Q1 (by omega) (by omega) (by omega) (by omega) hk1' hR1 (by rw [hd1, ed]; omega)
      rw [hd1] at j1
      refine ⟨accF, Q', rowsF, kF, zF, j1, ?_, j3, j4, j5, j6, j7, fun i hi q hq => (j8 i hi q hq).trans (hoth i hi q hq)⟩
      rw [hstep, j2]
end DAYS
/-! the row aside and back -/
theorem aside_to {w : Nat} (hw : w < 9) {t x1 x2 : Int32} {rows : Nat → Int64} : ∀ (m k z : Nat) (a : Nat → Int64), k + m = 2500 → m < z → (∀ q, q < k → a q = zrow w rows q) → ∃ a', f_X9_settleDays_29 z t (jI w) rows a x1 x2 (jI k) = f_X9_settleDays_55 FU t (jI w) rows a' x1 x2 (0 : Int32) ∧ ∀ q, q < 2500 → a' q = zrow w rows q := by
  intro m
  induction m with
  | zero =>
    intro k z a hk hz h
    obtain ⟨z, rfl⟩ : ∃ y, z = y + 1 := ⟨z - 1, by omega⟩
    refine ⟨a, ?_, fun q hq => h q (by omega)⟩
    simp only [f_X9_settleDays_29]
    rw [jI_2500, if_pos ((jI_le (by omega) (by omega)).mpr (by omega))]
  | succ m ih =>
    intro k z a hk hz h
    obtain ⟨z, rfl⟩ : ∃ y, z = y + 1 := ⟨z - 1, by omega⟩
    have ek : jI k + (1 : Int32) = jI (k + 1) := by rw [jI_1, jI_add]
    simp only [f_X9_settleDays_29]
    rw [jI_2500, if_neg (fun z => by have := (jI_le (by omega) (by omega)).mp z; omega), X9_get hw (by omega), zB1_s, zSl_n (by omega) (by omega), ek]
    refine ih (k + 1) z _ (by omega) (by omega) (fun q hq => ?_)
    by_cases c : q = k
    · rw [c, updL_same]
    · rw [updL_ne c]
      exact h q (by omega)
theorem aside_back {w : Nat} (hw : w < 9) {t x4 : Int32} {a : Nat → Int64} : ∀ (m k z : Nat) (rows : Nat → Int64), k + m = 2500 → m < z → (∀ q, q < k → zrow w rows q = a q) → ∃ rows', f_X9_settleDays_101 z t (jI w) rows a x4 (jI k) = some (x4, t, rows', a) ∧ (∀ q, q < 2500 → zrow w rows' q = a q) ∧ ∀ i, i ≠ w → ∀ q, q < 2500 → zrow i rows' q = zrow i rows q := by
  intro m
  induction m with
  | zero =>
    intro k z rows hk hz h
    obtain ⟨z, rfl⟩ : ∃ y, z = y + 1 := ⟨z - 1, by omega⟩
    refine ⟨rows, ?_, fun q hq => h q (by omega), fun _ _ _ _ => rfl⟩
    simp only [f_X9_settleDays_101]
    rw [jI_2500, if_pos ((jI_le (by omega) (by omega)).mpr (by omega))]
  | succ m ih =>
    intro k z rows hk hz h
    obtain ⟨z, rfl⟩ : ∃ y, z = y + 1 := ⟨z - 1, by omega⟩
    have ek : jI k + (1 : Int32) = jI (k + 1) := by rw [jI_1, jI_add]
    obtain ⟨rows', g1, g2, g3⟩ := ih (k + 1) z (vp_updL rows (2500 * w + k) (a k)) (by omega) (by omega) (fun q hq => by
      rw [zrow_put]
      by_cases c : q = k
      · rw [c, updL_same]
      · rw [updL_ne c]
        exact h q (by omega))
    refine ⟨rows', ?_, g2, fun i hi q hq => (g3 i hi q hq).trans (put_o (by omega) i hi q hq)⟩
    simp only [f_X9_settleDays_101]
    rw [jI_2500, if_neg (fun z => by have := (jI_le (by omega) (by omega)).mp z; omega), zR_n (by omega) (by omega), X9_put hw (by omega), zB1_s, ek]
    exact g1
