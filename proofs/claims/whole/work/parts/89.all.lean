/-! layer 3: the start, and all calls -/
theorem lw_J0 : ∀ ok : PgT → Prop, (∀ i, i < 9 → ok (pgT (lg_P0 (0 + (74 + 35 * i) + 10)))) → ok (pgT (lg_P0 (0 + 13))) → lw_J ok 0 (lg_0s 0) md0 := by
  intro ok h9 h13
  have hr : ∀ q, zrow 0 (vp_updL (fun _ => 0) 2 25) q = if q = 2 then 25 else 0 := fun q => by
    unfold zrow vp_updL
    rw [show 2500 * 0 + q = q by omega]
  have hR0 : Rl (Bt 0) (lg_P0 0) (zrow 0 (vp_updL (fun _ => 0) 2 25)) := by
    refine ⟨?_, ?_, ?_, ?_, ?_, ?_, ?_, ?_, ?_⟩
    · unfold gD
      rw [hr 1, if_neg (by omega)]
      have := dB_lo (Bt 0)
      have e0 : (pj_pr_day (lg_P0 0)).toInt = 0 := rfl
      exact ⟨by decide, by decide, by omega⟩
    · unfold gT
      rw [hr 2, if_pos rfl]
      exact ⟨by decide, by decide, by decide⟩
    · refine ⟨rfl, by decide, ?_, fun c hc => absurd hc (Nat.not_lt_zero c)⟩
      rw [hr 0, if_neg (by omega)]
      rfl
    · exact fun c hc => absurd hc (Nat.not_lt_zero c)
    · refine ⟨rfl, by decide, ?_, fun c hc => absurd hc (Nat.not_lt_zero c)⟩
      rw [hr 4, if_neg (by omega)]
      rfl
    · refine ⟨rfl, by decide, ?_, fun c hc => absurd hc (Nat.not_lt_zero c)⟩
      rw [hr 5, if_neg (by omega)]
      rfl
    · refine ⟨rfl, by decide, ?_, fun c hc => absurd hc (Nat.not_lt_zero c)⟩
      rw [hr 6, if_neg (by omega)]
      rfl
    · refine ⟨fun k hk => ?_, by decide⟩
      rw [hr (8 + k), if_neg (by omega)]
      exact ⟨rfl, show (0 : Int) ≤ (0 : Int64).toInt by decide⟩
    · refine ⟨rfl, by decide, ?_, fun c hc => absurd hc (Nat.not_lt_zero c), Or.inl rfl, Nat.zero_le _, zpn_le 0⟩
      rw [hr 3, if_neg (by omega)]
      rfl
  have hR : ∀ g, Rl (Bt 0) (lg_P0 g) (zrow 0 (vp_updL (fun _ => 0) 2 25)) := fun _ => hR0
  refine ⟨0, 0, 0, by omega, by omega, rfl, rfl, rfl, rfl, fun j hj => ?_, ⟨_, h13, rfl⟩, rfl, rfl, by omega, fun k hk => absurd hk (Nat.not_lt_zero k), rfl⟩
  have e : j = 0 := by omega
  subst e
  exact ⟨hR _, h9 0 (by omega)⟩
theorem lw_JS : ∀ ok t σ ρ, t < 512 → lw_J ok t σ ρ → ∀ q kv, lw_LS (lw_J ok (t + 1)) (lw_JL ok (t + 1)) σ ρ q kv := by
  intro ok t σ ρ ht h q kv
  by_cases hk : kv < 48
  · have : kv = 0 ∨ kv = 1 ∨ kv = 2 ∨ kv = 3 ∨ kv = 4 ∨ kv = 5 ∨ kv = 6 ∨ kv = 7 ∨ kv = 8 ∨ kv = 9 ∨ kv = 10 ∨ kv = 11 ∨ kv = 12 ∨ kv = 13 ∨ kv = 14 ∨ kv = 15 ∨ kv = 16 ∨ kv = 17 ∨ kv = 18 ∨ kv = 19 ∨ kv = 20 ∨ kv = 21 ∨ kv = 22 ∨ kv = 23 ∨ kv = 24 ∨ kv = 25 ∨ kv = 26 ∨ kv = 27 ∨ kv = 28 ∨ kv = 29 ∨ kv = 30 ∨ kv = 31 ∨ kv = 32 ∨ kv = 33 ∨ kv = 34 ∨ kv = 35 ∨ kv = 36 ∨ kv = 37 ∨ kv = 38 ∨ kv = 39 ∨ kv = 40 ∨ kv = 41 ∨ kv = 42 ∨ kv = 43 ∨ kv = 44 ∨ kv = 45 ∨ kv = 46 ∨ kv = 47 := by omega
    rcases this with e | e | e | e | e | e | e | e | e | e | e | e | e | e | e | e | e | e | e | e | e | e | e | e | e | e | e | e | e | e | e | e | e | e | e | e | e | e | e | e | e | e | e | e | e | e | e | e
    · subst e
      exact lq_0 h
    · subst e
      exact lq_1 h
    · subst e
      exact lq_2 h
    · subst e
      exact lq_3 h
    · subst e
      exact lq_4 h
    · subst e
      exact lq_5 h
    · subst e
      exact lq_6 h
    · subst e
      exact lq_7 h
    · subst e
      exact lq_8 h
    · subst e
      exact lq_9 h
    · subst e
      exact lq_10 h
    · subst e
      exact lq_11 h
    · subst e
      exact lq_12 h
    · subst e
      exact lq_13 h
    · subst e
      exact lq_14 h
    · subst e
      exact lq_15 h
    · subst e
      exact lq_16 h
    · subst e
      exact lq_17 h
    · subst e
      exact lq_18 h
    · subst e
      exact lq_19 h
    · subst e
      exact lq_20 h
    · subst e
      exact lq_21 h
    · subst e
      exact lq_22 h
    · subst e
      exact lq_23 h
    · subst e
      exact lq_24 h
    · subst e
      exact lq_25 h
    · subst e
      exact lq_26 h
    · subst e
      exact lq_27 h ht
    · subst e
      exact lq_28 h
    · subst e
      exact lq_29 h
    · subst e
      exact lq_30 h
    · subst e
      exact lq_31 h
    · subst e
      exact lq_32 h
    · subst e
      exact lq_33 h
    · subst e
      exact lq_34 h
    · subst e
      exact lq_35 h
    · subst e
      exact lq_36 h
    · subst e
      exact lq_37 h
    · subst e
      exact lq_38 h ht
    · subst e
      exact lq_39 h
    · subst e
      exact lq_40 h ht
    · subst e
      exact lq_41 h ht
    · subst e
      exact lq_42 h
    · subst e
      exact lq_43 h ht
    · subst e
      exact lq_44 h ht
    · subst e
      exact lq_45 h
    · subst e
      exact lq_46 h
    · subst e
      exact lq_47 h
  · obtain ⟨k, rfl⟩ : ∃ k, kv = k + 48 := ⟨kv - 48, by omega⟩
    exact JJ_up h
