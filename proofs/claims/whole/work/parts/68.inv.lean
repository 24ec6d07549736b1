/-! layer 3: the invariant of the law's loop -/
def Bt (t : Nat) : Int := 10000000 * ((t : Int) + 2)
theorem Rl_mono {B B' : Int} (h : B ≤ B') {P : PrT} {R : Nat → Int64} (hR : Rl B P R) : Rl B' P R := ⟨⟨hR.1.1, hR.1.2.1, Int.le_trans hR.1.2.2 (dB_mono h)⟩, hR.2.1, hR.2.2.1, hR.2.2.2.1, hR.2.2.2.2.1, hR.2.2.2.2.2.1, hR.2.2.2.2.2.2.1, ⟨hR.2.2.2.2.2.2.2.1.1, Int.le_trans hR.2.2.2.2.2.2.2.1.2 h⟩, hR.2.2.2.2.2.2.2.2⟩
theorem qS_congr {P P' : PrT} {s : Nat} : ∀ n, (∀ v, v < n → pj_va_slot P' v = pj_va_slot P v ∧ pj_va_approved P' v = pj_va_approved P v ∧ pj_va_change P' v = pj_va_change P v) → qS P' s n = qS P s n
  | 0, _ => rfl
  | n + 1, h => by
    obtain ⟨e1, e2, e3⟩ := h n (by omega)
    show qS P' s n + (if pj_va_slot P' n = jI s ∧ pj_va_approved P' n = 1 then (pj_va_change P' n).toInt else 0) = qS P s n + (if pj_va_slot P n = jI s ∧ pj_va_approved P n = 1 then (pj_va_change P n).toInt else 0)
    rw [qS_congr n (fun v hv => h v (by omega)), e1, e2, e3]
/-- bytes of the text: kept with their sign here, without it there -/
def tR (x y : Int32) : Prop := -128 ≤ x.toInt ∧ x.toInt ≤ 127 ∧ y = x &&& 255
def JJ (ok : PgT → Prop) (t : Nat) (p u : Int32) (Rd : RdT) (S : Nat → PrT) (now undo : Int32) (rows : Nat → Int64) (bytes errorAt : Int32) (text : Nat → Int32) : Prop :=
  ∃ w d f : Nat, w < 9 ∧ d ≤ 8 ∧ p = jI w ∧ now = jI w ∧ u = jI d ∧ undo = jI d ∧ (∀ j, j ≤ d → Rl (Bt t) (S ((w + 9 - j) % 9)) (zrow ((w + 9 - j) % 9) rows) ∧ ok (pgT (S ((w + 9 - j) % 9)))) ∧ (∃ T, ok T ∧ T.1 = rj_rd_ga Rd) ∧ rj_rd_filled Rd = jI f ∧ bytes = jI f ∧ f ≤ 900 ∧ (∀ k, k < f → tR (rj_rd_text Rd k) (text k)) ∧ rj_rd_errorAt Rd = errorAt
def lw_J (ok : PgT → Prop) (t : Nat) (σ : LgT) (ρ : MdT) : Prop := JJ ok t σ.1 σ.2.1 σ.2.2.1 σ.2.2.2.2.2 (md_now ρ) (md_undoable ρ) (md_rows ρ) (md_bytes ρ) (md_errorAt ρ) (md_text ρ)
/-- .. where a Pricing T has been made -/
def lw_JL (ok : PgT → Prop) (t : Nat) : PgT → LgT → MdT → Prop := fun T σ ρ => ∀ ok' : PgT → Prop, (∀ T, ok T → ok' T) → ok' T → lw_J ok' t σ ρ
section INV
variable {ok ok' : PgT → Prop} {t : Nat} {p u : Int32} {Rd : RdT} {S : Nat → PrT} {now undo : Int32} {rows : Nat → Int64} {bytes errorAt : Int32} {text : Nat → Int32}
theorem Bt_le (t : Nat) : Bt t ≤ Bt (t + 1) := by
  unfold Bt
  omega
theorem JJ_up (h : JJ ok t p u Rd S now undo rows bytes errorAt text) : JJ ok (t + 1) p u Rd S now undo rows bytes errorAt text := by
  obtain ⟨w, d, f, h1, h2, h3, h4, h5, h6, h7, h8⟩ := h
  exact ⟨w, d, f, h1, h2, h3, h4, h5, h6, fun j hj => ⟨Rl_mono (Bt_le t) (h7 j hj).1, (h7 j hj).2⟩, h8⟩
theorem JJ_ok (ho : ∀ T, ok T → ok' T) (h : JJ ok t p u Rd S now undo rows bytes errorAt text) : JJ ok' t p u Rd S now undo rows bytes errorAt text := by
  obtain ⟨w, d, f, h1, h2, h3, h4, h5, h6, h7, ⟨T, hT, e⟩, h8⟩ := h
  exact ⟨w, d, f, h1, h2, h3, h4, h5, h6, fun j hj => ⟨(h7 j hj).1, ho _ (h7 j hj).2⟩, ⟨T, ho _ hT, e⟩, h8⟩
theorem JJ_st0 (h : JJ ok t p u Rd S now undo rows bytes errorAt text) (s : Nat → Int32) : JJ ok t p u (rs_rd_stk Rd s) S now undo rows bytes errorAt text := h
theorem JJ_st (h : JJ ok t p u Rd S now undo rows bytes errorAt text) {w : Nat} (_ : w < 9) (_ : p = jI w) (s : Nat → Int32) : JJ ok (t + 1) p u (rs_rd_stk Rd s) S now undo rows bytes errorAt text := JJ_st0 (JJ_up h) s
theorem JJ_use (h : JJ ok t p u Rd S now undo rows bytes errorAt text) : ∃ w, w < 9 ∧ p = jI w ∧ now = jI w ∧ Rl (Bt t) (S w) (zrow w rows) := by
  obtain ⟨w, d, f, h1, h2, h3, h4, h5, h6, h7, h8⟩ := h
  have := (h7 0 (by omega)).1
  rw [show (w + 9 - 0) % 9 = w by omega] at this
  exact ⟨w, h1, h3, h4, this⟩
theorem JJ_pg (h : JJ ok t p u Rd S now undo rows bytes errorAt text) : ok (pgT (S p.toNatClampNeg)) ∧ ∃ T, ok T ∧ T.1 = rj_rd_ga Rd := by
  obtain ⟨w, d, f, h1, h2, h3, h4, h5, h6, h7, hT, h8⟩ := h
  have := (h7 0 (by omega)).2
  rw [show (w + 9 - 0) % 9 = w by omega] at this
  rw [h3, jI_nat (by omega)]
  exact ⟨this, hT⟩
theorem JJ_sync (h : JJ ok t p u Rd S now undo rows bytes errorAt text) (s : Nat → Int32) : JJ ok t p u (rs_rd_stk (rs_rd_ga Rd (pj_pr_pricing (S p.toNatClampNeg))) s) S now undo rows bytes errorAt text := by
  have hp := (JJ_pg h).1
  obtain ⟨w, d, f, h1, h2, h3, h4, h5, h6, h7, hT, h8⟩ := h
  exact ⟨w, d, f, h1, h2, h3, h4, h5, h6, h7, ⟨_, hp, rfl⟩, h8⟩
end INV
theorem lw_Jm : ∀ ok t σ ρ, lw_J ok t σ ρ → lw_J ok (t + 1) σ ρ := fun _ _ _ _ h => JJ_up h
theorem lw_Jo : ∀ (ok ok' : PgT → Prop) t σ ρ, (∀ T, ok T → ok' T) → lw_J ok t σ ρ → lw_J ok' t σ ρ := fun _ _ _ _ _ ho h => JJ_ok ho h
theorem lw_Jp : ∀ ok t σ ρ, lw_J ok t σ ρ → ok (pgT (σ.2.2.2.2.2 σ.1.toNatClampNeg)) ∧ ∃ T, ok T ∧ T.1 = rj_rd_ga σ.2.2.1 := fun _ _ _ _ h => JJ_pg h
theorem lw_Js : ∀ ok t σ ρ s, lw_J ok t σ ρ → lw_J ok t (lgs σ (pj_pr_pricing (σ.2.2.2.2.2 σ.1.toNatClampNeg)) s) ρ := fun _ _ _ _ s h => JJ_sync h s
/-! checks -/
theorem zG1_t {β : Type} {c : Prop} [Decidable c] {x : Option β} (h : c) : zG1 c x = x := if_pos h
theorem gd_w {x : Int32} {w : Nat} (h : x = jI w) (hw : w < 9) : ¬ (x < 0 ∨ 9 ≤ x.toNatClampNeg) := by
  rw [h]
  exact jI_in hw (by omega)
theorem nw_w {x : Int32} {w : Nat} (h : x = jI w) (hw : w < 9) : x.toNatClampNeg = w := by rw [h, jI_nat (by omega)]
theorem one_ne : ¬ (1 : Int32) = 0 := by decide
theorem jL_m1 {n : Nat} (h : n < 1000) : (jL n - (1 : Int64)).toInt = (n : Int) - 1 := by
  have h1 := jL_toInt (k := n) (by omega)
  have h2 : (1 : Int64).toInt = 1 := rfl
  rw [J_sub (by omega) (by omega), h1, h2]
theorem idx_ok {c n : Nat} (h : c < n) (hn : n < 1000) : f_X8_checkIndex (jI c) (jI n) = some (.inr ()) ∧ f_X9_isIn (jI c).toInt64 (0 : Int64) (jL n - (1 : Int64)) = some 1 := by
  have e1 := jI_toInt (k := c) (by omega)
  have e2 := jI_toInt (k := n) (by omega)
  have e3 : (0 : Int32).toInt = 0 := rfl
  have e4 := jL_m1 hn
  have e5 : (jI c).toInt64.toInt = (jI c).toInt := Int32.toInt_toInt64 _
  unfold f_X8_checkIndex f_X9_isIn
  rw [if_neg (fun z => by have := Int32.lt_iff_toInt_lt.mp z; omega), if_pos (Int32.lt_iff_toInt_lt.mpr (by omega)), if_neg (fun z => by have := J_lt.mp z; rw [J_0] at this; omega), if_neg (fun z => by have := J_lt.mp z; omega)]
  exact ⟨rfl, rfl⟩
theorem idx_d (p : Int32) {n : Nat} (hn : n < 1000) : (∃ c, c < n ∧ p = jI c) ∨ (f_X8_checkIndex p (jI n) = some (.inl "java/lang/IndexOutOfBoundsException") ∧ f_X9_isIn p.toInt64 (0 : Int64) (jL n - (1 : Int64)) = some 0) := by
  by_cases h0 : p < 0
  · right
    have h0' := Int32.lt_iff_toInt_lt.mp h0
    have e3 : (0 : Int32).toInt = 0 := rfl
    have e5 : p.toInt64.toInt = p.toInt := Int32.toInt_toInt64 _
    unfold f_X8_checkIndex f_X9_isIn
    rw [if_pos h0, if_pos (J_lt.mpr (by rw [J_0]; omega))]
    exact ⟨rfl, rfl⟩
  · by_cases h1 : p < jI n
    · obtain ⟨c, hc, e⟩ := I_nat h0 h1 (by omega)
      exact Or.inl ⟨c, hc, e⟩
    · right
      have h0' : ¬ p.toInt < (0 : Int32).toInt := fun z => h0 (Int32.lt_iff_toInt_lt.mpr z)
      have h1' : ¬ p.toInt < (jI n).toInt := fun z => h1 (Int32.lt_iff_toInt_lt.mpr z)
      have e2 := jI_toInt (k := n) (by omega)
      have e3 : (0 : Int32).toInt = 0 := rfl
      have e4 := jL_m1 hn
      have e5 : p.toInt64.toInt = p.toInt := Int32.toInt_toInt64 _
      unfold f_X8_checkIndex f_X9_isIn
      rw [if_neg h0, if_neg h1, if_neg (fun z => by have := J_lt.mp z; rw [J_0] at this; omega), if_pos (J_lt.mpr (by omega))]
      exact ⟨rfl, rfl⟩
theorem right_t (c : Int32) : f_X9_right (0 : Int32) 1 c = some (1, 0) := rfl
theorem right_f1 : f_X9_right (0 : Int32) 0 1 = some (0, 1) := rfl
theorem right_f2 : f_X9_right (0 : Int32) 0 2 = some (0, 2) := rfl
theorem right_f3 : f_X9_right (0 : Int32) 0 3 = some (0, 3) := rfl
section CHK
variable {σ : LgT} {w : Nat} {B : Int} {rows : Nat → Int64} {t : Int32}
theorem chk_C (hw : w < 9) (h1 : σ.1 = jI w) (hR : Rl B (σ.2.2.2.2.2 w) (zrow w rows)) (p : Int32) : f_X8_checkContract σ p = f_X8_checkIndex p (jI (nco (σ.2.2.2.2.2 w))) := by
  unfold f_X8_checkContract
  rw [zG1_t (gd_w h1 hw), nw_w h1 hw, hR.2.2.1.1]
  cases f_X8_checkIndex p (jI (nco (σ.2.2.2.2.2 w))) with
  | none => rfl
  | some r => cases r <;> rfl
theorem chk_B (hw : w < 9) (h1 : σ.1 = jI w) (hR : Rl B (σ.2.2.2.2.2 w) (zrow w rows)) (p : Int32) : f_X8_checkCertificate σ p = f_X8_checkIndex p (jI (nce (σ.2.2.2.2.2 w))) := by
  unfold f_X8_checkCertificate
  rw [zG1_t (gd_w h1 hw), nw_w h1 hw, hR.2.2.2.2.2.1.1]
  cases f_X8_checkIndex p (jI (nce (σ.2.2.2.2.2 w))) with
  | none => rfl
  | some r => cases r <;> rfl
theorem chk_V (hw : w < 9) (h1 : σ.1 = jI w) (hR : Rl B (σ.2.2.2.2.2 w) (zrow w rows)) (p : Int32) : f_X8_checkVariation σ p = f_X8_checkIndex p (jI (nva (σ.2.2.2.2.2 w))) := by
  unfold f_X8_checkVariation
  rw [zG1_t (gd_w h1 hw), nw_w h1 hw, hR.2.2.2.2.1.1]
  cases f_X8_checkIndex p (jI (nva (σ.2.2.2.2.2 w))) with
  | none => rfl
  | some r => cases r <;> rfl
theorem chk_L (hw : w < 9) (h1 : σ.1 = jI w) (hR : Rl B (σ.2.2.2.2.2 w) (zrow w rows)) (p : Int32) : f_X8_checkLien σ p = f_X8_checkIndex p (jI (nli (σ.2.2.2.2.2 w))) := by
  unfold f_X8_checkLien
  rw [zG1_t (gd_w h1 hw), nw_w h1 hw, hR.2.2.2.2.2.2.1.1]
  cases f_X8_checkIndex p (jI (nli (σ.2.2.2.2.2 w))) with
  | none => rfl
  | some r => cases r <;> rfl
theorem is_C {P : PrT} (hw : w < 9) (hR : Rl B P (zrow w rows)) {p v : Int32} (h : f_X9_isIn p.toInt64 (0 : Int64) (jL (nco P) - (1 : Int64)) = some v) (hv : v = 0 ∨ v = 1) : f_X9_isContract t (jI w) rows p = some (if v = 0 then (0, 1) else (1, 0)) := by
  unfold f_X9_isContract
  rw [jI_0, X9_get hw (by omega), zB1_s, hR.2.2.1.2.2.1, h, zB1_s]
  rcases hv with e | e <;> subst e <;> rfl
theorem is_B {P : PrT} (hw : w < 9) (hR : Rl B P (zrow w rows)) {p v : Int32} (h : f_X9_isIn p.toInt64 (0 : Int64) (jL (nce P) - (1 : Int64)) = some v) (hv : v = 0 ∨ v = 1) : f_X9_isBill t (jI w) rows p = some (if v = 0 then (0, 1) else (1, 0)) := by
  unfold f_X9_isBill
  rw [jI_5, X9_get hw (by omega), zB1_s, hR.2.2.2.2.2.1.2.2.1, h, zB1_s]
  rcases hv with e | e <;> subst e <;> rfl
theorem is_V {P : PrT} (hw : w < 9) (hR : Rl B P (zrow w rows)) {p v : Int32} (h : f_X9_isIn p.toInt64 (0 : Int64) (jL (nva P) - (1 : Int64)) = some v) (hv : v = 0 ∨ v = 1) : f_X9_isVariation t (jI w) rows p = some (if v = 0 then (0, 1) else (1, 0)) := by
  unfold f_X9_isVariation
  rw [jI_4, X9_get hw (by omega), zB1_s, hR.2.2.2.2.1.2.2.1, h, zB1_s]
  rcases hv with e | e <;> subst e <;> rfl
theorem is_L {P : PrT} (hw : w < 9) (hR : Rl B P (zrow w rows)) {p v : Int32} (h : f_X9_isIn p.toInt64 (0 : Int64) (jL (nli P) - (1 : Int64)) = some v) (hv : v = 0 ∨ v = 1) : f_X9_isLien t (jI w) rows p = some (if v = 0 then (0, 1) else (1, 0)) := by
  unfold f_X9_isLien
  rw [jI_6, X9_get hw (by omega), zB1_s, hR.2.2.2.2.2.2.1.2.2.1, h, zB1_s]
  rcases hv with e | e <;> subst e <;> rfl
end CHK
