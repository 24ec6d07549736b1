/-! layer 3: a change begins -/
theorem FU_b : 100000 < FU := by decide
theorem k_begin {σ : LgT} {w : Nat} {B : Int} {R : Nat → Int64} (hw : w < 9) (h1 : σ.1 = jI w) (hR : Rl B (σ.2.2.2.2.2 w) R) : ∃ P', f_X8_beginChange σ = some (jI ((w + 1) % 9), (if (8 : Int32) < σ.2.1 + (1 : Int32) then (8 : Int32) else σ.2.1 + (1 : Int32)), σ.2.2.1, σ.2.2.2.1, σ.2.2.2.2.1, va_up σ.2.2.2.2.2 ((w + 1) % 9) P') ∧ Ag P' (σ.2.2.2.2.2 w) := by
  obtain ⟨p, u, Rd, Dr, F, S⟩ := σ
  have h1 : p = jI w := h1
  subst h1
  have hR : Rl B (S w) R := hR
  have nw : (jI w).toNatClampNeg = w := jI_nat (by omega)
  have gd : ¬ (jI w < 0 ∨ 9 ≤ (jI w).toNatClampNeg) := jI_in hw (by omega)
  have e1 : jI w + (1 : Int32) = jI (w + 1) := by rw [jI_1, jI_add]
  unfold f_X8_beginChange
  show ∃ P', zG1 (¬ (jI w < 0 ∨ 9 ≤ (jI w).toNatClampNeg)) _ = _ ∧ _
  rw [zG1_t gd]
  by_cases h8 : w = 8
  · subst h8
    obtain ⟨q, e, a⟩ := k_copy (S ((0 : Int32).toNatClampNeg)) (P := S ((jI 8).toNatClampNeg)) (by rw [nw]; exact hR)
    rw [nw] at a
    refine ⟨_, ?_, a⟩
    rw [if_pos (show (9 : Int32) ≤ jI 8 + (1 : Int32) by decide), zG1_t (by decide), zG1_t (show ¬ (jI 8).toNatClampNeg = (0 : Int32).toNatClampNeg by decide)]
    exact (congrArg (fun o => zB1 o _) e).trans rfl
  · have e2 : (w + 1) % 9 = w + 1 := by omega
    have n2 : (jI (w + 1)).toNatClampNeg = w + 1 := jI_nat (by omega)
    obtain ⟨q, e, a⟩ := k_copy (S ((jI (w + 1)).toNatClampNeg)) (P := S ((jI w).toNatClampNeg)) (by rw [nw]; exact hR)
    rw [nw] at a
    refine ⟨_, ?_, a⟩
    dsimp only
    rw [e1, e2, if_neg (by rw [show (9 : Int32) = jI 9 from rfl, jI_le (by omega) (by omega)]; omega), zG1_t (jI_in (by omega) (by omega)), zG1_t (by rw [nw, n2]; omega)]
    refine (congrArg (fun o => zB1 o _) e).trans ?_
    rw [zB1_s, n2, nw]
theorem zrow_put2 {b b' q j : Nat} {rows : Nat → Int64} {v : Int64} (hq : q < 2500) (hj : j < 2500) : zrow b' (vp_updL rows (2500 * b + q) v) j = if b' = b ∧ j = q then v else zrow b' rows j := by
  unfold zrow vp_updL
  by_cases h : b' = b ∧ j = q
  · obtain ⟨rfl, rfl⟩ := h
    simp
  · have : ¬ 2500 * b' + j = 2500 * b + q := fun z => h ⟨by omega, by omega⟩
    rw [if_neg this, if_neg h]
theorem r_change {w : Nat} (hw : w < 9) (u : Int32) (rows : Nat → Int64) : ∃ rows', f_X9_change (jI w) u rows = some (jI ((w + 1) % 9), (if (8 : Int32) ≤ u then u else u + (1 : Int32)), rows') ∧ (∀ q, q < 2500 → zrow ((w + 1) % 9) rows' q = zrow w rows q) ∧ ∀ i, i ≠ (w + 1) % 9 → ∀ q, q < 2500 → zrow i rows' q = zrow i rows q := by
  have hto : (jI w + (1 : Int32)) - (jI w + (1 : Int32)) / (9 : Int32) * (9 : Int32) = jI ((w + 1) % 9) := by
    have : w = 0 ∨ w = 1 ∨ w = 2 ∨ w = 3 ∨ w = 4 ∨ w = 5 ∨ w = 6 ∨ w = 7 ∨ w = 8 := by omega
    rcases this with h | h | h | h | h | h | h | h | h <;> subst h <;> decide
  have hne : (w + 1) % 9 ≠ w := by omega
  have hlt : (w + 1) % 9 < 9 := by omega
  unfold f_X9_change
  rw [hto]
  generalize hg : (w + 1) % 9 = w' at hne hlt ⊢
  have key : ∀ (m k z : Nat) (rk : Nat → Int64), k + m = 2500 → m < z → (∀ q, q < 2500 → zrow w' rk q = if q < k then zrow w rows q else zrow w' rows q) → (∀ i, i ≠ w' → ∀ q, q < 2500 → zrow i rk q = zrow i rows q) → ∃ rows', f_X9_change_12 z (jI w) u rk (jI w') (jI k) = some (jI w', (if (8 : Int32) ≤ u then u else u + (1 : Int32)), rows') ∧ (∀ q, q < 2500 → zrow w' rows' q = zrow w rows q) ∧ ∀ i, i ≠ w' → ∀ q, q < 2500 → zrow i rows' q = zrow i rows q := by
    intro m
    induction m with
    | zero =>
      intro k z rk hk hz a1 a2
      obtain ⟨z, rfl⟩ : ∃ z', z = z' + 1 := ⟨z - 1, by omega⟩
      refine ⟨rk, ?_, fun q hq => by rw [a1 q hq, if_pos (by omega)], a2⟩
      simp only [f_X9_change_12]
      rw [if_pos (by rw [jI_2500, jI_le (by omega) (by omega)]; omega)]
      split <;> rfl
    | succ m ih =>
      intro k z rk hk hz a1 a2
      obtain ⟨z, rfl⟩ : ∃ z', z = z' + 1 := ⟨z - 1, by omega⟩
      simp only [f_X9_change_12]
      rw [if_neg (by rw [jI_2500, jI_le (by omega) (by omega)]; omega), X9_get hw (by omega), zB1_s, jI_2500, jI_mul, jI_add, zSl_n (by omega) (by omega), jI_1, jI_add]
      refine ih (k + 1) z _ (by omega) (by omega) (fun q hq => ?_) (fun i hi q hq => ?_)
      · rw [zrow_put2 (by omega) hq]
        by_cases h : q = k
        · subst h
          rw [if_pos ⟨rfl, rfl⟩, if_pos (by omega), a2 w (fun z => hne z.symm) q hq]
        · rw [if_neg (fun z => h z.2), a1 q hq]
          by_cases h2 : q < k
          · rw [if_pos h2, if_pos (by omega)]
          · rw [if_neg h2, if_neg (by omega)]
      · rw [zrow_put2 (by omega) hq, if_neg (fun z => hi z.1)]
        exact a2 i hi q hq
  have hfu := FU_b
  generalize FU = fu at hfu ⊢
  exact key 2500 0 fu rows (by omega) (by omega) (fun q hq => by rw [if_neg (by omega)]) (fun i _ q _ => rfl)
/-! rows that agree -/
section CONG
variable {B : Int} {P : PrT} {R R' : Nat → Int64}
theorem gC_c (h0 : R' 0 = R 0) (h : ∀ c o, c < 8 → o < 7 → R' (20 + 26 * c + o) = R (20 + 26 * c + o)) (g : gC P R) : gC P R' := by
  obtain ⟨a, b, c0, d⟩ := g
  refine ⟨a, b, h0.trans c0, fun c hc => ?_⟩
  have hx : c < 8 := by omega
  have e0 : R' (20 + 26 * c) = R (20 + 26 * c) := h c 0 hx (by omega)
  rw [e0, h c 1 hx (by omega), h c 2 hx (by omega), h c 3 hx (by omega), h c 4 hx (by omega), h c 5 hx (by omega), h c 6 hx (by omega)]
  exact d c hc
theorem gI_c (h8 : nco P ≤ 8) (h7 : ∀ c, c < 8 → R' (20 + 26 * c + 7) = R (20 + 26 * c + 7)) (h : ∀ c i o, c < 8 → i < 6 → o < 3 → R' (20 + 26 * c + 8 + 3 * i + o) = R (20 + 26 * c + 8 + 3 * i + o)) (g : gI P R) : gI P R' := by
  intro c hc
  obtain ⟨⟨a1, a2, a3⟩, d⟩ := g c hc
  refine ⟨⟨a1, a2, (h7 c (by omega)).trans a3⟩, fun i hi => ?_⟩
  have e0 : R' (20 + 26 * c + 8 + 3 * i) = R (20 + 26 * c + 8 + 3 * i) := h c i 0 (by omega) (by omega) (by omega)
  rw [e0, h c i 1 (by omega) (by omega) (by omega), h c i 2 (by omega) (by omega) (by omega)]
  exact d i hi
theorem gV_c (h4 : R' 4 = R 4) (h : ∀ v o, v < 20 → o < 4 → R' (230 + 4 * v + o) = R (230 + 4 * v + o)) (g : gV P R) : gV P R' := by
  obtain ⟨a, b, c0, d⟩ := g
  refine ⟨a, b, h4.trans c0, fun v hv => ?_⟩
  have e0 : R' (230 + 4 * v) = R (230 + 4 * v) := h v 0 (by omega) (by omega)
  rw [e0, h v 1 (by omega) (by omega), h v 2 (by omega) (by omega), h v 3 (by omega) (by omega)]
  exact d v hv
theorem gB_c (h5 : R' 5 = R 5) (h : ∀ k o, k < 40 → o < 5 → R' (320 + 5 * k + o) = R (320 + 5 * k + o)) (g : gB P R) : gB P R' := by
  obtain ⟨a, b, c0, d⟩ := g
  refine ⟨a, b, h5.trans c0, fun k hk => ?_⟩
  have e0 : R' (320 + 5 * k) = R (320 + 5 * k) := h k 0 (by omega) (by omega)
  rw [e0, h k 1 (by omega) (by omega), h k 2 (by omega) (by omega), h k 3 (by omega) (by omega), h k 4 (by omega) (by omega)]
  exact d k hk
theorem gL_c (h6 : R' 6 = R 6) (h : ∀ k o, k < 12 → o < 4 → R' (530 + 4 * k + o) = R (530 + 4 * k + o)) (g : gL P R) : gL P R' := by
  obtain ⟨a, b, c0, d⟩ := g
  refine ⟨a, b, h6.trans c0, fun k hk => ?_⟩
  have e0 : R' (530 + 4 * k) = R (530 + 4 * k) := h k 0 (by omega) (by omega)
  rw [e0, h k 1 (by omega) (by omega), h k 2 (by omega) (by omega), h k 3 (by omega) (by omega)]
  exact d k hk
theorem gA_c (h : ∀ k, k < 9 → R' (8 + k) = R (8 + k)) (g : gA B P R) : gA B P R' := ⟨fun k hk => by rw [h k hk]; exact g.1 k hk, g.2⟩
theorem gK_c (h3 : R' 3 = R 3) (h : ∀ j, j < 1800 → R' (600 + j) = R (600 + j)) (g : gK P R) : gK P R' := by
  obtain ⟨a, b, c0, d, e⟩ := g
  refine ⟨a, b, h3.trans c0, fun j hj => ?_, e⟩
  have e0 : R' (600 + 2 * j + 1) = R (600 + 2 * j + 1) := h (2 * j + 1) (by omega)
  rw [h (2 * j) (by omega), e0]
  exact d j hj
theorem Rl_c (h : ∀ q, q < 2500 → R' q = R q) (g : Rl B P R) : Rl B P R' := by
  obtain ⟨g1, g2, g3, g4, g5, g6, g7, g8, g9⟩ := g
  refine ⟨?_, ?_, gC_c (h 0 (by omega)) (fun c o _ _ => h _ (by omega)) g3, gI_c g3.2.1 (fun c _ => h _ (by omega)) (fun c i o _ _ _ => h _ (by omega)) g4, gV_c (h 4 (by omega)) (fun v o _ _ => h _ (by omega)) g5, gB_c (h 5 (by omega)) (fun k o _ _ => h _ (by omega)) g6, gL_c (h 6 (by omega)) (fun k o _ _ => h _ (by omega)) g7, gA_c (fun k _ => h _ (by omega)) g8, gK_c (h 3 (by omega)) (fun j _ => h _ (by omega)) g9⟩
  · unfold gD
    rw [h 1 (by omega)]
    exact g1
  · unfold gT
    rw [h 2 (by omega)]
    exact g2
end CONG
section JN
variable {ok ok' : PgT → Prop} {t : Nat} {p u : Int32} {Rd : RdT} {S S' : Nat → PrT} {now undo : Int32} {rows rows' : Nat → Int64} {bytes errorAt : Int32} {text : Nat → Int32}
theorem JJ_newO (ho : ∀ T, ok T → ok' T) {w : Nat} (hw : w < 9) (hp : p = jI w) (h : JJ ok t p u Rd S now undo rows bytes errorAt text) (hS : ∀ i, i ≠ (w + 1) % 9 → S' i = S i) (hr : ∀ i, i ≠ (w + 1) % 9 → ∀ q, q < 2500 → zrow i rows' q = zrow i rows q) (hN : Rl (Bt (t + 1)) (S' ((w + 1) % 9)) (zrow ((w + 1) % 9) rows')) (hT : ok' (pgT (S' ((w + 1) % 9)))) : JJ ok' (t + 1) (jI ((w + 1) % 9)) (if (8 : Int32) < u + (1 : Int32) then (8 : Int32) else u + (1 : Int32)) Rd S' (jI ((w + 1) % 9)) (if (8 : Int32) ≤ undo then undo else undo + (1 : Int32)) rows' bytes errorAt text := by
  obtain ⟨w', d, f, h1, h2, h3, h4, h5, h6, h7, ⟨T, hT1, hT2⟩, h8⟩ := h
  have e : w' = w := (jI_eq (by omega) (by omega)).mp (h3.symm.trans hp)
  subst e
  have hu : (if (8 : Int32) < u + (1 : Int32) then (8 : Int32) else u + (1 : Int32)) = jI (if d < 8 then d + 1 else 8) := by
    rw [h5, jI_1, jI_add, show (8 : Int32) = jI 8 from rfl]
    by_cases hd : d < 8
    · rw [if_neg (by rw [jI_lt (by omega) (by omega)]; omega), if_pos hd]
    · rw [if_pos (by rw [jI_lt (by omega) (by omega)]; omega), if_neg hd]
  have hv : (if (8 : Int32) ≤ undo then undo else undo + (1 : Int32)) = jI (if d < 8 then d + 1 else 8) := by
    rw [h6, jI_1, jI_add, show (8 : Int32) = jI 8 from rfl]
    by_cases hd : d < 8
    · rw [if_neg (by rw [jI_le (by omega) (by omega)]; omega), if_pos hd]
    · rw [if_pos (by rw [jI_le (by omega) (by omega)]; omega), if_neg hd, show d = 8 by omega]
  refine ⟨(w' + 1) % 9, if d < 8 then d + 1 else 8, f, by omega, by split <;> omega, rfl, rfl, hu, hv, fun j hj => ?_, ⟨T, ho _ hT1, hT2⟩, h8⟩
  by_cases hj0 : j = 0
  · subst hj0
    rw [show ((w' + 1) % 9 + 9 - 0) % 9 = (w' + 1) % 9 by omega]
    exact ⟨hN, hT⟩
  · have hj9 : j ≤ 8 ∧ j - 1 ≤ d := by split at hj <;> omega
    have ei : ((w' + 1) % 9 + 9 - j) % 9 = (w' + 9 - (j - 1)) % 9 := by omega
    have ne : (w' + 9 - (j - 1)) % 9 ≠ (w' + 1) % 9 := by omega
    rw [ei, hS _ ne]
    exact ⟨Rl_c (hr _ ne) (Rl_mono (Bt_le t) (h7 (j - 1) hj9.2).1), ho _ (h7 (j - 1) hj9.2).2⟩
theorem JJ_new {w : Nat} (hw : w < 9) (hp : p = jI w) (h : JJ ok t p u Rd S now undo rows bytes errorAt text) (hS : ∀ i, i ≠ (w + 1) % 9 → S' i = S i) (hr : ∀ i, i ≠ (w + 1) % 9 → ∀ q, q < 2500 → zrow i rows' q = zrow i rows q) (hN : Rl (Bt (t + 1)) (S' ((w + 1) % 9)) (zrow ((w + 1) % 9) rows')) (hT : pgT (S' ((w + 1) % 9)) = pgT (S w)) : JJ ok (t + 1) (jI ((w + 1) % 9)) (if (8 : Int32) < u + (1 : Int32) then (8 : Int32) else u + (1 : Int32)) Rd S' (jI ((w + 1) % 9)) (if (8 : Int32) ≤ undo then undo else undo + (1 : Int32)) rows' bytes errorAt text := by
  refine JJ_newO (fun _ z => z) hw hp h hS hr hN ?_
  have hq := (JJ_pg h).1
  rw [hp, jI_nat (by omega)] at hq
  rw [hT]
  exact hq
end JN
