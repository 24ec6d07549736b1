/-! layer 3: load -/
theorem ld_pick {f : Nat → Option (Int32 × LgT)} {v : Int32} {Q : Nat → LgT → Prop} (d : LgT) (h : ∀ g, ∃ st, f g = some (v, st) ∧ Q g st) : ∃ s : Nat → LgT, (∀ g, f g = some (v, s g)) ∧ ∀ g, Q g (s g) := by
  have key : ∀ g, f g = some (v, ((f g).getD (v, d)).2) ∧ Q g ((f g).getD (v, d)).2 := fun g => by
    obtain ⟨st, e, hq⟩ := h g
    rw [e]
    exact ⟨rfl, hq⟩
  exact ⟨fun g => ((f g).getD (v, d)).2, fun g => (key g).1, fun g => (key g).2⟩
theorem x8_20n {σ : LgT} {e : Int32} (h : ¬ e = 0) : f_X8_load_20 σ e = some (e, σ) := if_neg h
theorem x8_aux {p u : Int32} {Rd : RdT} {D F : PrT} {S : Nat → PrT} {w : Nat} {B B' : Int} {R R' : Nat → Int64} (hw : w < 9) (h1 : p = jI w) (hR : Rl B (S w) R) (hD : Rl B' D R') : ∃ P1 P2 : PrT, f_X8_load_20 (p, u, Rd, D, F, S) 0 = some (pj_co_count D, (jI ((w + 1) % 9), (if (8 : Int32) < u + (1 : Int32) then (8 : Int32) else u + (1 : Int32)), Rd, D, F, va_up (va_up S ((w + 1) % 9) P1) ((w + 1) % 9) P2)) ∧ Ag P2 D := by
  have hw1 : (w + 1) % 9 < 9 := by omega
  obtain ⟨P1, e, -⟩ := k_begin (σ := (p, u, Rd, D, F, S)) hw h1 hR
  obtain ⟨q, eq, ha⟩ := k_copy P1 hD
  have hq : q.2.2.1 = pj_co_count D := ha.2.1.1
  refine ⟨P1, _, ?_, ha⟩
  unfold f_X8_load_20
  rw [if_pos rfl, e, zB1_s]
  dsimp only
  rw [zG1_t (jI_in hw1 (by omega)), jI_nat (by omega), va_same, eq, zB1_s, hq]
theorem Rl_Dr {B : Int} {P : PrT} {n np : Nat} {R : Nat → Int64} {ow ht hr once : Int32} (hB : 10000000 ≤ B) (hd : pj_pr_day P = 0) (hc : pj_co_count P = jI n) (hp : pj_pg_length P = jI np) (hv : pj_va_count P = 0) (hb : pj_ce_count P = 0) (hl : pj_li_count P = 0) (ho : 0 ≤ ow.toInt ∧ ow.toInt ≤ 9999999) (ha : ∀ k, k < 9 → pj_pr_accounts P k = if k = 0 then ow.toInt64 else 0) {L : Nat} (hcl : pj_pg_clen P = L) (hnp : np ≤ L) (hL9 : L ≤ 900) (hD : Dr n (pj_co_parent P) (pj_co_retentionPercent P) (pj_co_limitPercent P) (pj_co_paymentDays P) (pj_co_rank P) (pj_co_linked P) (pj_co_stage P) (pj_pg_threshold P) np (pj_pg_code P) (pj_it_count P) (pj_it_first P) (pj_it_price P) (pj_it_quantity P) (pj_it_progress P) R ow.toInt64 ht hr once) : Rl B P R := by
  obtain ⟨⟨d1, d2, d3, d4⟩, hI, hT, ⟨⟨p1, p2, p3⟩, hK⟩, ⟨⟨y1, y2, y3, y4⟩, y5, y6, y7, y8⟩, hO⟩ := hD
  have e0 : (0 : Int32).toInt = 0 := rfl
  have E0 : (0 : Int64).toInt = 0 := rfl
  have nc : nco P = n := by
    unfold nco
    rw [hc, jI_nat (by omega)]
  have nv : nva P = 0 := by
    unfold nva
    rw [hv]
    rfl
  have nb : nce P = 0 := by
    unfold nce
    rw [hb]
    rfl
  have nl : nli P = 0 := by
    unfold nli
    rw [hl]
    rfl
  have ng : npg P = np := by
    unfold npg
    rw [hp, jI_nat (by omega)]
  refine ⟨?_, hT, ?_, ?_, ?_, ?_, ?_, ?_, ?_⟩
  · unfold gD
    rw [hd, y1]
    have := dB_lo B
    exact ⟨by decide, by decide, by omega⟩
  · unfold gC
    rw [nc]
    exact ⟨hc, d2, d3, d4⟩
  · intro c hcn
    rw [nc] at hcn
    obtain ⟨ni, u1, u2, u3, u4, u5⟩ := hI c (by omega)
    have en : nit P c = ni := by
      unfold nit
      rw [u3, jI_nat (by omega)]
    rw [en]
    refine ⟨⟨u3, u1, u4⟩, fun i hi => ?_⟩
    obtain ⟨v1, v2, v3, v4⟩ := u5 i hi
    refine ⟨v1, v2, ?_, ?_, ?_⟩
    · rw [v4, y8 c i (by omega) (by omega)]
      exact ⟨by decide, by decide, by decide⟩
    · rw [nv, v3]
      show _ = _ + (0 : Int)
      omega
    · rw [v3]
      have := v1.2.1
      omega
  · unfold gV
    rw [nv]
    exact ⟨hv, by omega, y2, fun v hv => absurd hv (by omega)⟩
  · unfold gB
    rw [nb]
    exact ⟨hb, by omega, y3, fun v hv => absurd hv (by omega)⟩
  · unfold gL
    rw [nl]
    exact ⟨hl, by omega, y4, fun v hv => absurd hv (by omega)⟩
  · have a0 : pj_pr_accounts P 0 = ow.toInt64 := (ha 0 (by omega)).trans (if_pos rfl)
    have az : ∀ k, 0 < k → k < 9 → pj_pr_accounts P k = 0 := fun k h1 h2 => (ha k h2).trans (if_neg (by omega))
    have ot : ow.toInt64.toInt = ow.toInt := Int32.toInt_toInt64 _
    refine ⟨fun k hk => ?_, ?_⟩
    · by_cases c : k = 0
      · subst c
        rw [a0, ot]
        exact ⟨y5, ho.1⟩
      · rw [az k (by omega) hk, y6 k (by omega) hk]
        exact ⟨rfl, by decide⟩
    · show (0 : Int) + (pj_pr_accounts P 0).toInt + (pj_pr_accounts P 1).toInt + (pj_pr_accounts P 2).toInt + (pj_pr_accounts P 3).toInt + (pj_pr_accounts P 4).toInt + (pj_pr_accounts P 5).toInt + (pj_pr_accounts P 6).toInt + (pj_pr_accounts P 7).toInt + (pj_pr_accounts P 8).toInt ≤ B
      rw [a0, ot, az 1 (by omega) (by omega), az 2 (by omega) (by omega), az 3 (by omega) (by omega), az 4 (by omega) (by omega), az 5 (by omega) (by omega), az 6 (by omega) (by omega), az 7 (by omega) (by omega), az 8 (by omega) (by omega), E0]
      omega
  · unfold gK
    rw [ng]
    rw [hcl]
    exact ⟨hp, p1, p2, p3, hK.elim (fun h => Or.inl h.2) (fun h => Or.inr h.2), hnp, hL9⟩
theorem r_load71 {w : Nat} (hw : w < 9) {th u by_ ea sz nx er pl bg ns on_ : Int32} {Q : Nat → Int64} : ∀ (m k z : Nat) (rows : Nat → Int64), k + m = 2500 → m < z → (∀ q, q < k → zrow w rows q = Q q) → ∃ rows', f_X9_load_71 z th (jI w) u by_ ea sz nx er pl bg ns on_ rows Q (jI k) = some ((Q 0).toInt32, th, jI w, u, by_, ea, sz, nx, er, pl, bg, ns, on_, rows', Q) ∧ (∀ q, q < 2500 → zrow w rows' q = Q q) ∧ ∀ i, i ≠ w → ∀ q, q < 2500 → zrow i rows' q = zrow i rows q := by
  intro m
  induction m with
  | zero =>
    intro k z rows hk hz hR
    obtain ⟨z, rfl⟩ : ∃ z', z = z' + 1 := ⟨z - 1, by omega⟩
    have s0 : f_X9_small (jI w) rows 0 = some (zrow w rows 0).toInt32 := X9_small hw (q := 0) (by omega)
    refine ⟨rows, ?_, fun q hq => hR q (by omega), fun i _ q _ => rfl⟩
    simp only [f_X9_load_71]
    rw [if_pos (show (2500 : Int32) ≤ jI k from (jI_le (a := 2500) (b := k) (by omega) (by omega)).mpr (by omega)), s0, zB1_s, hR 0 (by omega)]
  | succ m ih =>
    intro k z rows hk hz hR
    obtain ⟨z, rfl⟩ : ∃ z', z = z' + 1 := ⟨z - 1, by omega⟩
    obtain ⟨rows', g1, g2, g3⟩ := ih (k + 1) z (vp_updL rows (2500 * w + k) (Q k)) (by omega) (by omega) (fun q hq => by
      rw [zrow_put2 (by omega) (by omega)]
      by_cases c : q = k
      · rw [if_pos ⟨rfl, c⟩, c]
      · rw [if_neg (fun z => c z.2)]
        exact hR q (by omega))
    refine ⟨rows', ?_, g2, fun i hi q hq => (g3 i hi q hq).trans (by rw [zrow_put2 (by omega) hq, if_neg (fun z => hi z.1)])⟩
    simp only [f_X9_load_71]
    rw [if_neg (fun z => by have := (jI_le (a := 2500) (b := k) (by omega) (by omega)).mp z; omega), zR_n (by omega) (by omega), X9_put hw (by omega), zB1_s, jI_1, jI_add]
    exact g1
section LOAD
variable {ok : PgT → Prop} {t : Nat} {σ : LgT} {ρ : MdT} {q : Nat → Int32}
theorem lq_1 (h : lw_J ok t σ ρ) : lw_LS (lw_J ok (t + 1)) (lw_JL ok (t + 1)) σ ρ q 1 := by
  obtain ⟨w, d, f, hw, hd, h1, h2, h3, h4, h5, hPg, h6, h7, h8, h9, h10⟩ := id h
  have z0 : (0 : Int32) = 0 := rfl
  have ef := jI_toInt (k := f) (by omega)
  have e0 : (0 : Int32).toInt = 0 := rfl
  rcases rng_d (q 1) 0 (rj_rd_filled σ.2.2.1) with ⟨r1, r2, r3, r4⟩ | ⟨r1, r2⟩
  · have r2' : f_X9_isIn (q 1).toInt64 (0 : Int64) (md_bytes ρ).toInt64 = some 1 := by
      rw [h7, ← h6]
      exact r2
    rw [h6] at r4
    obtain ⟨L, hL, eL⟩ := I_rng (n := f + 1) (x := q 1) (by omega) (by omega) (by omega)
    have hX : Tx L (rj_rd_text σ.2.2.1) (md_text ρ) := ⟨by omega, fun k hk => h9 k (by omega)⟩
    obtain ⟨ow, ac2, hT, hA⟩ := rd_text hX (f := f) (by omega) h8 (rj_rd_length σ.2.2.1) (rj_rd_at σ.2.2.1) (rj_rd_kind σ.2.2.1) (rj_rd_start σ.2.2.1) (rj_rd_value σ.2.2.1) (rj_rd_error σ.2.2.1) (rj_rd_errorAt σ.2.2.1) (rj_rd_hasThreshold σ.2.2.1) (rj_rd_hasRate σ.2.2.1) (pj_pr_day σ.2.2.2.1) (pj_co_count σ.2.2.2.1) (pj_va_count σ.2.2.2.1) (pj_ce_count σ.2.2.2.1) (pj_li_count σ.2.2.2.1) (pj_pr_accounts σ.2.2.2.1) (pj_co_parent σ.2.2.2.1) (pj_co_retentionPercent σ.2.2.2.1) (pj_co_limitPercent σ.2.2.2.1) (pj_co_paymentDays σ.2.2.2.1) (pj_co_rank σ.2.2.2.1) (pj_co_linked σ.2.2.2.1) (pj_co_stage σ.2.2.2.1) (pj_it_count σ.2.2.2.1) (pj_it_first σ.2.2.2.1) (pj_it_price σ.2.2.2.1) (pj_it_quantity σ.2.2.2.1) (pj_it_progress σ.2.2.2.1) (md_next ρ) (md_error ρ) (md_place ρ) (md_began ρ) (md_nested ρ) (md_once ρ) (md_read ρ)
    obtain ⟨a, k, st, v, e, ea, ht, hr, n, pa, re, li, da, ra, lk, sg, th, np, C, ic, fi, pr, qu, pg, nx, pl, bg, once, R, c6, c9, hg, hb⟩ := hT
    have c8 : ld_q σ (q 1) = some (e, (0 : Int32), jI L, a, k, st, v, e, ea, ht, hr, (0 : Int32), ac2, jI n, pa, re, li, da, ra, lk, sg, th, jI np, C, ic, fi, pr, qu, pg, (0 : Int32), (0 : Int32), (0 : Int32)) := by
      show f_X6_read (rj_rd_filled σ.2.2.1) _ _ _ _ _ _ _ _ _ _ _ _ _ _ _ _ _ _ _ _ _ _ _ _ _ _ _ _ (q 1) = _
      rw [h6, eL]
      exact c6
    have hcl : (zpn (if rj_rd_filled σ.2.2.1 < q 1 then rj_rd_filled σ.2.2.1 else q 1)) = L := by
      rw [h6, eL, if_neg (fun z => by have := (jI_lt (by omega) (by omega)).mp z; omega), zpn_jI (by omega)]
    have hw1 : (w + 1) % 9 < 9 := by omega
    have hRw : Rl (Bt t) (σ.2.2.2.2.2 w) (zrow w (md_rows ρ)) := by
      have := (h5 0 (by omega)).1
      rw [show (w + 9 - 0) % 9 = w by omega] at this
      exact this
    by_cases he : e = 0
    · subst he
      obtain ⟨g1, g2, g3⟩ := hg rfl
      subst g1
      have hA' := hA.resolve_right (fun z => z _ c6 rfl)
      have hRl : ∀ g, Rl (Bt (t + 1)) (ld_D σ (q 1) (0, 0, jI L, a, k, st, v, 0, -1, ht, hr, 0, ac2, jI n, pa, re, li, da, ra, lk, sg, th, jI np, C, ic, fi, pr, qu, pg, 0, 0, 0) g) R := fun g => Rl_Dr (n := n) (np := np) (ow := ow) (ht := ht) (hr := hr) (once := once) (L := L) (by unfold Bt; omega) rfl rfl rfl rfl rfl rfl ⟨hA'.1, hA'.2.1⟩ hA'.2.2 hcl g3 (by omega) g2
      obtain ⟨rows1, ch, cz, cz'⟩ := r_change hw (md_undoable ρ) (md_rows ρ)
      obtain ⟨rows2, l1, l2, l3⟩ := r_load71 hw1 (th := 0) (u := (if (8 : Int32) ≤ md_undoable ρ then md_undoable ρ else md_undoable ρ + (1 : Int32))) (by_ := 0) (ea := -1) (sz := jI L) (nx := nx) (er := 0) (pl := pl) (bg := bg) (ns := 0) (on_ := once) (Q := R) 2500 0 FU rows1 (by omega) (Nat.lt_trans (by omega) FU_b) (fun q hq => absurd hq (by omega))
      have f9 : f_X9_load (md_thrown ρ) (md_now ρ) (md_undoable ρ) (md_bytes ρ) (md_errorAt ρ) (md_size ρ) (md_next ρ) (md_error ρ) (md_place ρ) (md_began ρ) (md_nested ρ) (md_once ρ) (md_rows ρ) (md_read ρ) (md_text ρ) (q 1) = some ((R 0).toInt32, 0, jI ((w + 1) % 9), (if (8 : Int32) ≤ md_undoable ρ then md_undoable ρ else md_undoable ρ + (1 : Int32)), 0, -1, jI L, nx, 0, pl, bg, 0, once, rows2, R) := by
        unfold f_X9_load
        rw [r2', zB1_s, right_t, zB1_s]
        dsimp only
        rw [if_neg one_ne, eL, c9, zB1_s]
        dsimp only
        rw [if_pos z0, h2, ch, zB1_s]
        exact l1
      have hJ' : JJ ok t σ.1 σ.2.1 (ld_R σ (0, 0, jI L, a, k, st, v, 0, -1, ht, hr, 0, ac2, jI n, pa, re, li, da, ra, lk, sg, th, jI np, C, ic, fi, pr, qu, pg, 0, 0, 0)) σ.2.2.2.2.2 (md_now ρ) (md_undoable ρ) (md_rows ρ) 0 (-1) (md_text ρ) := ⟨w, d, 0, hw, hd, h1, h2, h3, h4, h5, hPg, rfl, rfl, by omega, fun k hk => absurd hk (by omega), rfl⟩
      obtain ⟨s, s1, s2⟩ := ld_pick (f := ld_20 σ (q 1) (0, 0, jI L, a, k, st, v, 0, -1, ht, hr, 0, ac2, jI n, pa, re, li, da, ra, lk, sg, th, jI np, C, ic, fi, pr, qu, pg, 0, 0, 0)) (v := jI n) (Q := fun g z8 => ∀ ok' : PgT → Prop, (∀ T, ok T → ok' T) → ok' (pgT (ld_D σ (q 1) (0, 0, jI L, a, k, st, v, 0, -1, ht, hr, 0, ac2, jI n, pa, re, li, da, ra, lk, sg, th, jI np, C, ic, fi, pr, qu, pg, 0, 0, 0) g)) → JJ ok' (t + 1) z8.1 z8.2.1 z8.2.2.1 z8.2.2.2.2.2 (jI ((w + 1) % 9)) (if (8 : Int32) ≤ md_undoable ρ then md_undoable ρ else md_undoable ρ + (1 : Int32)) rows2 0 (-1) (md_text ρ)) σ (fun g => by
        obtain ⟨P1, P2, e8, hAg⟩ := x8_aux (p := σ.1) (u := σ.2.1) (Rd := ld_R σ (0, 0, jI L, a, k, st, v, 0, -1, ht, hr, 0, ac2, jI n, pa, re, li, da, ra, lk, sg, th, jI np, C, ic, fi, pr, qu, pg, 0, 0, 0)) (F := σ.2.2.2.2.1) (S := σ.2.2.2.2.2) hw h1 hRw (hRl g)
        refine ⟨_, e8, fun ok' ho hT => ?_⟩
        have hN : Rl (Bt (t + 1)) (va_up (va_up σ.2.2.2.2.2 ((w + 1) % 9) P1) ((w + 1) % 9) P2 ((w + 1) % 9)) (zrow ((w + 1) % 9) rows2) := by
          rw [va_same]
          exact Rl_ag hAg (Rl_c l2 (hRl g))
        have hT' : ok' (pgT (va_up (va_up σ.2.2.2.2.2 ((w + 1) % 9) P1) ((w + 1) % 9) P2 ((w + 1) % 9))) := by
          rw [va_same, hAg.2.2.1]
          exact hT
        exact JJ_newO (S' := va_up (va_up σ.2.2.2.2.2 ((w + 1) % 9) P1) ((w + 1) % 9) P2) (rows' := rows2) ho hw h1 hJ' (fun i hi => by simp [va_up, hi]) (fun i hi q hq => (l3 i hi q hq).trans (cz' i hi q hq)) hN hT')
      refine Or.inl ⟨_, _, s, _, _, r1, c8, s1, g_of f9, rfl, ?_, fun g ok' ho hT => s2 g ok' ho hT⟩
      show (jI n).toInt64 = (R 0).toInt32.toInt64
      rw [g2.1.2.2.1, jL_I]
    · have f9 : f_X9_load (md_thrown ρ) (md_now ρ) (md_undoable ρ) (md_bytes ρ) (md_errorAt ρ) (md_size ρ) (md_next ρ) (md_error ρ) (md_place ρ) (md_began ρ) (md_nested ρ) (md_once ρ) (md_rows ρ) (md_read ρ) (md_text ρ) (q 1) = some (e, 0, md_now ρ, md_undoable ρ, 0, pl, jI L, nx, e, pl, bg, 0, once, md_rows ρ, R) := by
        unfold f_X9_load
        rw [r2', zB1_s, right_t, zB1_s]
        dsimp only
        rw [if_neg one_ne, eL, c9, zB1_s]
        dsimp only
        rw [if_neg he]
      have hJ' : JJ ok t σ.1 σ.2.1 (ld_R σ (e, (0 : Int32), jI L, a, k, st, v, e, ea, ht, hr, (0 : Int32), ac2, jI n, pa, re, li, da, ra, lk, sg, th, jI np, C, ic, fi, pr, qu, pg, (0 : Int32), (0 : Int32), (0 : Int32))) σ.2.2.2.2.2 (md_now ρ) (md_undoable ρ) (md_rows ρ) 0 pl (md_text ρ) := ⟨w, d, 0, hw, hd, h1, h2, h3, h4, h5, hPg, rfl, rfl, by omega, fun k hk => absurd hk (by omega), (hb he).symm⟩
      exact Or.inl ⟨_, _, fun g => (σ.1, σ.2.1, ld_R σ (e, (0 : Int32), jI L, a, k, st, v, e, ea, ht, hr, (0 : Int32), ac2, jI n, pa, re, li, da, ra, lk, sg, th, jI np, C, ic, fi, pr, qu, pg, (0 : Int32), (0 : Int32), (0 : Int32)), ld_D σ (q 1) (e, (0 : Int32), jI L, a, k, st, v, e, ea, ht, hr, (0 : Int32), ac2, jI n, pa, re, li, da, ra, lk, sg, th, jI np, C, ic, fi, pr, qu, pg, (0 : Int32), (0 : Int32), (0 : Int32)) g, σ.2.2.2.2.1, σ.2.2.2.2.2), _, _, r1, c8, fun g => x8_20n he, g_of f9, rfl, rfl, fun g ok' ho _ => JJ_up (JJ_ok ho hJ')⟩
  · have r2' : f_X9_isIn (q 1).toInt64 (0 : Int64) (md_bytes ρ).toInt64 = some 0 := by
      rw [h7, ← h6]
      exact r2
    have f9 : f_X9_load (md_thrown ρ) (md_now ρ) (md_undoable ρ) (md_bytes ρ) (md_errorAt ρ) (md_size ρ) (md_next ρ) (md_error ρ) (md_place ρ) (md_began ρ) (md_nested ρ) (md_once ρ) (md_rows ρ) (md_read ρ) (md_text ρ) (q 1) = some (0, 1, md_now ρ, md_undoable ρ, md_bytes ρ, md_errorAt ρ, md_size ρ, md_next ρ, md_error ρ, md_place ρ, md_began ρ, md_nested ρ, md_once ρ, md_rows ρ, md_read ρ) := by
      unfold f_X9_load
      rw [r2', zB1_s, right_f1, zB1_s]
      dsimp only
      rw [if_pos z0]
    exact Or.inr ⟨_, _, r1, g_of f9, rfl, JJ_up h⟩
end LOAD
