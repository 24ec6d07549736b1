/-! layer 3: append -/
theorem bv255 : ∀ i, i < 32 → (255#32).getLsbD i = decide (i < 8) := by decide
theorem bv_byte (w : BitVec 32) (s : Nat) (hs : s ≤ 24) : (((w >>> s).setWidth 8).signExtend 32) &&& 255#32 = (w.sshiftRight s) &&& 255#32 := by
  apply BitVec.eq_of_getLsbD_eq
  intro i hi
  rw [BitVec.getLsbD_and, BitVec.getLsbD_and, bv255 i hi]
  by_cases c : i < 8
  · have e1 : (((w >>> s).setWidth 8).signExtend 32).getLsbD i = w.getLsbD (s + i) := by
      rw [BitVec.getLsbD_signExtend]
      simp [c, hi]
    have e2 : (w.sshiftRight s).getLsbD i = w.getLsbD (s + i) := by
      rw [BitVec.getLsbD_sshiftRight]
      have : s + i < 32 := by omega
      simp [this]
      omega
    rw [e1, e2]
  · simp [c]
theorem I8_bd (x : Int8) : -128 ≤ x.toInt32.toInt ∧ x.toInt32.toInt ≤ 127 := by
  have h1 := Int8.le_toInt x
  have h2 := Int8.toInt_lt x
  rw [Int8.toInt_toInt32]
  omega
def bB (w s : Int32) : Int32 := vp_nar .byte (((w.toUInt32 >>> (s.toUInt32 &&& Int32.toUInt32 31)).toInt32)).toInt8.toInt32
theorem bB_s (w s : Int32) : bB w s = ((w.toUInt32 >>> (s.toUInt32 &&& Int32.toUInt32 31)).toInt32).toInt8.toInt32 := by
  unfold bB
  rw [vp_nar_byte, Int8.toInt8_toInt32]
theorem tR_s {w s t : Int32} {n : Nat} (hn : n ≤ 24) (h1 : (w.toUInt32 >>> (s.toUInt32 &&& Int32.toUInt32 31)).toInt32.toBitVec = w.toBitVec >>> n) (h2 : (w >>> t).toBitVec = w.toBitVec.sshiftRight n) : tR (bB w s) ((w >>> t) &&& (255 : Int32)) := by
  rw [bB_s]
  refine ⟨(I8_bd _).1, (I8_bd _).2, ?_⟩
  apply Int32.toBitVec_inj.mp
  have e1 : ((w >>> t) &&& (255 : Int32)).toBitVec = (w >>> t).toBitVec &&& 255#32 := rfl
  have e2 : (((w.toUInt32 >>> (s.toUInt32 &&& Int32.toUInt32 31)).toInt32).toInt8.toInt32 &&& (255 : Int32)).toBitVec = (((w.toUInt32 >>> (s.toUInt32 &&& Int32.toUInt32 31)).toInt32.toBitVec.setWidth 8).signExtend 32) &&& 255#32 := by
    rw [Int32.toBitVec_and, Int8.toBitVec_toInt32, Int32.toBitVec_toInt8, BitVec.signExtend_eq_setWidth_of_le _ (show 8 ≤ 32 by decide)]
    rfl
  rw [e1, e2, h1, h2]
  exact (bv_byte w.toBitVec n hn).symm
theorem tR_24 (w : Int32) : tR (bB w 24) ((w >>> (24 : Int32)) &&& (255 : Int32)) := tR_s (n := 24) (by decide) rfl rfl
theorem tR_16 (w : Int32) : tR (bB w 16) ((w >>> (16 : Int32)) &&& (255 : Int32)) := tR_s (n := 16) (by decide) rfl rfl
theorem tR_8 (w : Int32) : tR (bB w 8) ((w >>> (8 : Int32)) &&& (255 : Int32)) := tR_s (n := 8) (by decide) rfl rfl
theorem tR_0 (w : Int32) : tR (bB w 0) ((w >>> (0 : Int32)) &&& (255 : Int32)) := tR_s (n := 0) (by decide) rfl rfl
theorem k_add4 {f : Nat} (hf : f + 4 ≤ 900) (T : Nat → Int32) (w : Int32) : ∃ T', f_X6_addBytes (jI f) T w = some (jI (f + 4), T') ∧ (∀ q, q < f → T' q = T q) ∧ T' f = bB w 24 ∧ T' (f + 1) = bB w 16 ∧ T' (f + 2) = bB w 8 ∧ T' (f + 3) = bB w 0 := by
  refine ⟨upd (upd (upd (upd T f (bB w 24)) (f + 1) (bB w 16)) (f + 2) (bB w 8)) (f + 3) (bB w 0), ?_, fun q hq => ?_, ?_, ?_, ?_, ?_⟩
  · unfold f_X6_addBytes
    have hfu := FU_k
    generalize FU = fu at hfu ⊢
    obtain ⟨z, rfl⟩ : ∃ z, fu = z + 5 := ⟨fu - 5, by omega⟩
    have le : ∀ k, k < 900 → ¬ (900 : Int32) ≤ jI k := fun k hk z => by have := (jI_le (a := 900) (b := k) (by omega) (by omega)).mp z; omega
    have ad : ∀ k, jI k + (1 : Int32) = jI (k + 1) := fun k => by rw [jI_1, jI_add]
    simp only [f_X6_addBytes_3]
    rw [if_neg (by decide), if_neg (le f (by omega)), zSi_n (by omega) (by omega), ad]
    rw [if_neg (by decide), if_neg (le (f + 1) (by omega)), zSi_n (by omega) (by omega), ad]
    rw [if_neg (by decide), if_neg (le (f + 1 + 1) (by omega)), zSi_n (by omega) (by omega), ad]
    rw [if_neg (by decide), if_neg (le (f + 1 + 1 + 1) (by omega)), zSi_n (by omega) (by omega), ad]
    rw [if_pos (by decide)]
    rfl
  · rw [upd_ne (by omega), upd_ne (by omega), upd_ne (by omega), upd_ne (by omega)]
  · rw [upd_ne (by omega), upd_ne (by omega), upd_ne (by omega), upd_same]
  · rw [upd_ne (by omega), upd_ne (by omega), upd_same]
  · rw [upd_ne (by omega), upd_same]
  · rw [upd_same]
/-- the word that a byte of a call comes from -/
def wd (w0 w1 w2 w3 w4 : Int32) (k : Nat) : Int32 := if k < 4 then w0 else if k < 8 then w1 else if k < 12 then w2 else if k < 16 then w3 else w4
theorem r_app {f : Nat} (hf : f + 20 ≤ 900) (t : Int32) (w0 w1 w2 w3 w4 : Int32) {T : Nat → Int32} (hT : ∀ k, k < 20 → tR (T (f + k)) ((wd w0 w1 w2 w3 w4 k >>> (((24 : Int32) - ((8 : Int32) * (jI k - jI k / (4 : Int32) * (4 : Int32)))) &&& 31)) &&& (255 : Int32))) : ∀ (m k z : Nat) (X : Nat → Int32), k + m = 20 → m < z → (∀ q, q < f + k → tR (T q) (X q)) → ∃ X', f_X9_append_23 z t (jI f) X w0 w1 w2 w3 w4 (jI k) = some (jI (f + 20), t, jI (f + 20), X') ∧ ∀ q, q < f + 20 → tR (T q) (X' q) := by
  intro m
  induction m with
  | zero =>
    intro k z X hk hz h
    obtain ⟨z, rfl⟩ : ∃ y, z = y + 1 := ⟨z - 1, by omega⟩
    refine ⟨X, ?_, fun q hq => h q (by omega)⟩
    simp only [f_X9_append_23]
    rw [jI_20, if_pos ((jI_le (by omega) (by omega)).mpr (by omega)), jI_add]
  | succ m ih =>
    intro k z X hk hz h
    obtain ⟨z, rfl⟩ : ∃ y, z = y + 1 := ⟨z - 1, by omega⟩
    have step : f_X9_append_23 (z + 1) t (jI f) X w0 w1 w2 w3 w4 (jI k) = f_X9_append_76 (f_X9_append_23 z) t (jI f) X w0 w1 w2 w3 w4 (jI k) (wd w0 w1 w2 w3 w4 k) := by
      simp only [f_X9_append_23]
      rw [if_neg (fun z => by have := (jI_le (a := 20) (b := k) (by omega) (by omega)).mp z; omega)]
      unfold wd
      have le : ∀ n, n < 1000 → ((jI n ≤ jI k) ↔ ¬ k < n) := fun n hn => by
        rw [jI_le (by omega) (by omega)]
        omega
      simp only [show (4 : Int32) = jI 4 from rfl, show (8 : Int32) = jI 8 from rfl, show (12 : Int32) = jI 12 from rfl, show (16 : Int32) = jI 16 from rfl, le 4 (by omega), le 8 (by omega), le 12 (by omega), le 16 (by omega)]
      by_cases c1 : k < 4
      · rw [if_neg (fun z => z c1), if_pos c1]
      · rw [if_pos c1, if_neg c1]
        by_cases c2 : k < 8
        · rw [if_neg (fun z => z c2), if_pos c2]
        · rw [if_pos c2, if_neg c2]
          by_cases c3 : k < 12
          · rw [if_neg (fun z => z c3), if_pos c3]
          · rw [if_pos c3, if_neg c3]
            by_cases c4 : k < 16
            · rw [if_neg (fun z => z c4), if_pos c4]
            · rw [if_pos c4, if_neg c4]
    rw [step]
    unfold f_X9_append_76
    have ek : jI k + (1 : Int32) = jI (k + 1) := by rw [jI_1, jI_add]
    rw [jI_add, zSi_n (by omega) (by omega), ek]
    refine ih (k + 1) z _ (by omega) (by omega) (fun q hq => ?_)
    by_cases c : q = f + k
    · rw [c, upd_same]
      exact hT k (by omega)
    · rw [upd_ne c]
      exact h q (by omega)
section APP
variable {ok : PgT → Prop} {t : Nat} {σ : LgT} {ρ : MdT} {q : Nat → Int32}
theorem lq_0 (h : lw_J ok t σ ρ) : lw_LS (lw_J ok (t + 1)) (lw_JL ok (t + 1)) σ ρ q 0 := by
  obtain ⟨w, d, f, hw, hd, h1, h2, h3, h4, h5, hPg, h6, h7, h8, h9, h10⟩ := id h
  have c20 : ∀ k, k ≤ 900 → ((jI k + (20 : Int32) ≤ (900 : Int32)) ↔ k + 20 ≤ 900) := fun k hk => by
    rw [jI_20, jI_add]
    exact jI_le (a := k + 20) (b := 900) (by omega) (by omega)
  by_cases hf : f + 20 ≤ 900
  · obtain ⟨T1, a1, b1, c10, c11, c12, c13⟩ := k_add4 (f := f) (by omega) (rj_rd_text σ.2.2.1) (q 1)
    obtain ⟨T2, a2, b2, c20', c21, c22, c23⟩ := k_add4 (f := f + 4) (by omega) T1 (q 2)
    obtain ⟨T3, a3, b3, c30, c31, c32, c33⟩ := k_add4 (f := f + 4 + 4) (by omega) T2 (q 3)
    obtain ⟨T4, a4, b4, c40, c41, c42, c43⟩ := k_add4 (f := f + 4 + 4 + 4) (by omega) T3 (q 4)
    obtain ⟨T5, a5, b5, c50, c51, c52, c53⟩ := k_add4 (f := f + 4 + 4 + 4 + 4) (by omega) T4 (q 5)
    have f8 : f_X8_append σ (q 1) (q 2) (q 3) (q 4) (q 5) = some (jI (f + 20), (σ.1, σ.2.1, (rs_rd_text (rs_rd_filled σ.2.2.1 (jI (f + 20))) T5), σ.2.2.2.1, σ.2.2.2.2.1, σ.2.2.2.2.2)) := by
      unfold f_X8_append
      rw [h6, if_pos ((c20 f (by omega)).mpr hf), a1, zB1_s]
      dsimp only
      rw [a2, zB1_s]
      dsimp only
      rw [a3, zB1_s]
      dsimp only
      rw [a4, zB1_s]
      dsimp only
      rw [a5, zB1_s]
    have g0 : ∀ q, q < f → T5 q = rj_rd_text σ.2.2.1 q := fun q hq => by
      rw [b5 q (by omega), b4 q (by omega), b3 q (by omega), b2 q (by omega), b1 q hq]
    have hT : ∀ k, k < 20 → tR (T5 (f + k)) ((wd (q 1) (q 2) (q 3) (q 4) (q 5) k >>> (((24 : Int32) - ((8 : Int32) * (jI k - jI k / (4 : Int32) * (4 : Int32)))) &&& 31)) &&& (255 : Int32)) := by
      intro k hk
      have : k = 0 ∨ k = 1 ∨ k = 2 ∨ k = 3 ∨ k = 4 ∨ k = 5 ∨ k = 6 ∨ k = 7 ∨ k = 8 ∨ k = 9 ∨ k = 10 ∨ k = 11 ∨ k = 12 ∨ k = 13 ∨ k = 14 ∨ k = 15 ∨ k = 16 ∨ k = 17 ∨ k = 18 ∨ k = 19 := by omega
      rcases this with e | e | e | e | e | e | e | e | e | e | e | e | e | e | e | e | e | e | e | e <;> subst e
      · rw [b5 _ (by omega), b4 _ (by omega), b3 _ (by omega), b2 _ (by omega)]
        exact c10 ▸ tR_24 (q 1)
      · rw [b5 _ (by omega), b4 _ (by omega), b3 _ (by omega), b2 _ (by omega)]
        exact c11 ▸ tR_16 (q 1)
      · rw [b5 _ (by omega), b4 _ (by omega), b3 _ (by omega), b2 _ (by omega)]
        exact c12 ▸ tR_8 (q 1)
      · rw [b5 _ (by omega), b4 _ (by omega), b3 _ (by omega), b2 _ (by omega)]
        exact c13 ▸ tR_0 (q 1)
      · rw [b5 _ (by omega), b4 _ (by omega), b3 _ (by omega)]
        exact c20' ▸ tR_24 (q 2)
      · rw [b5 _ (by omega), b4 _ (by omega), b3 _ (by omega)]
        exact c21 ▸ tR_16 (q 2)
      · rw [b5 _ (by omega), b4 _ (by omega), b3 _ (by omega)]
        exact c22 ▸ tR_8 (q 2)
      · rw [b5 _ (by omega), b4 _ (by omega), b3 _ (by omega)]
        exact c23 ▸ tR_0 (q 2)
      · rw [b5 _ (by omega), b4 _ (by omega)]
        exact c30 ▸ tR_24 (q 3)
      · rw [b5 _ (by omega), b4 _ (by omega)]
        exact c31 ▸ tR_16 (q 3)
      · rw [b5 _ (by omega), b4 _ (by omega)]
        exact c32 ▸ tR_8 (q 3)
      · rw [b5 _ (by omega), b4 _ (by omega)]
        exact c33 ▸ tR_0 (q 3)
      · rw [b5 _ (by omega)]
        exact c40 ▸ tR_24 (q 4)
      · rw [b5 _ (by omega)]
        exact c41 ▸ tR_16 (q 4)
      · rw [b5 _ (by omega)]
        exact c42 ▸ tR_8 (q 4)
      · rw [b5 _ (by omega)]
        exact c43 ▸ tR_0 (q 4)
      · exact c50 ▸ tR_24 (q 5)
      · exact c51 ▸ tR_16 (q 5)
      · exact c52 ▸ tR_8 (q 5)
      · exact c53 ▸ tR_0 (q 5)
    have hfu := FU_k
    obtain ⟨X', e9, hX⟩ := r_app hf 0 (q 1) (q 2) (q 3) (q 4) (q 5) hT 20 0 FU (md_text ρ) (by omega) (Nat.lt_trans (by omega) hfu) (fun p hp => by
      rw [g0 p (by omega)]
      exact h9 p (by omega))
    have f9 : f_X9_append (md_thrown ρ) (md_bytes ρ) (md_text ρ) (q 1) (q 2) (q 3) (q 4) (q 5) = some (jI (f + 20), 0, jI (f + 20), X') := by
      unfold f_X9_append
      rw [h7, if_pos ((c20 f (by omega)).mpr hf)]
      exact e9
    exact ⟨_, _, _, f8, g_of f9, w, d, f + 20, hw, hd, h1, h2, h3, h4, fun j hj => ⟨Rl_mono (Bt_le t) (h5 j hj).1, (h5 j hj).2⟩, hPg, rfl, rfl, hf, hX, h10⟩
  · have f8 : f_X8_append σ (q 1) (q 2) (q 3) (q 4) (q 5) = some ((-1 : Int32), σ) := by
      unfold f_X8_append
      rw [h6, if_neg (fun z => hf ((c20 f (by omega)).mp z))]
    have f9 : f_X9_append (md_thrown ρ) (md_bytes ρ) (md_text ρ) (q 1) (q 2) (q 3) (q 4) (q 5) = some ((-1 : Int32), 0, md_bytes ρ, md_text ρ) := by
      unfold f_X9_append
      rw [h7, if_neg (fun z => hf ((c20 f (by omega)).mp z))]
    exact ⟨_, _, _, f8, g_of f9, JJ_up h⟩
end APP
