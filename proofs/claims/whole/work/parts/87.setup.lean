/-! layer 3: a whole setup text -/
section TXT
variable {L : Nat} {T X : Nat → Int32}
def TxO (L : Nat) (ow : Int64) (fl dy vc cc lc : Int32) (ac : Nat → Int64) (r6 : Option (Int32 × Int32 × Int32 × Int32 × Int32 × Int32 × Int32 × Int32 × Int32 × Int32 × Int32 × Int32 × (Nat → Int64) × Int32 × (Nat → Int32) × (Nat → Int32) × (Nat → Int32) × (Nat → Int32) × (Nat → Int32) × (Nat → Int32) × (Nat → Int32) × Int32 × Int32 × (Nat → Int32) × (Nat → Int32) × (Nat → Int32) × (Nat → Int32) × (Nat → Int32) × (Nat → Int32) × Int32 × Int32 × Int32)) (r9 : Option (Int32 × Int32 × Int32 × Int32 × Int32 × Int32 × (Nat → Int64))) : Prop := ∃ (a k st v e ea ht hr : Int32) (n : Nat) (pa re li da ra lk sg : Nat → Int32) (th : Int32) (np : Nat) (C ic fi pr qu pg : Nat → Int32) (nx pl bg once : Int32) (R : Nat → Int64), r6 = some (e, fl, jI L, a, k, st, v, e, ea, ht, hr, dy, ac, jI n, pa, re, li, da, ra, lk, sg, th, jI np, C, ic, fi, pr, qu, pg, vc, cc, lc) ∧ r9 = some (nx, e, pl, bg, 0, once, R) ∧ (e = 0 → ea = -1 ∧ Dr n pa re li da ra lk sg th np C ic fi pr qu pg R ow ht hr once ∧ np ≤ L) ∧ (¬ e = 0 → pl = ea)
theorem lp_text (hX : Tx L T X) {ow : Int64} {fl dy vc cc lc : Int32} {ac : Nat → Int64} : ∀ (r i m n np z6 z9 : Nat) (a k st v e ea ht hr th nx pl bg once : Int32) (pa re li da ra lk sg C ic fi pr qu pg : Nat → Int32) (R : Nat → Int64), L ≤ i + r → i ≤ m → r < z6 → r < z9 → CS L X m a k st v e ea nx e pl → (e = 0 → Dr n pa re li da ra lk sg th np C ic fi pr qu pg R ow ht hr once ∧ np ≤ L) → TxO L ow fl dy vc cc lc ac (f_X6_read_63 z6 fl (jI L) a k st v e ea ht hr T dy ac (jI n) pa re li da ra lk sg th (jI np) L C ic fi pr qu pg vc cc lc (jI i)) (f_X9_texts_113 z9 (jI L) nx e pl bg 0 once R X) := by
  have hL := hX.1
  intro r
  induction r using Nat.strongRecOn with
  | ind r ih =>
    intro i m n np z6 z9 a k st v e ea ht hr th nx pl bg once pa re li da ra lk sg C ic fi pr qu pg R hi him hz6 hz9 hC hD
    obtain ⟨z6, rfl⟩ : ∃ y, z6 = y + 1 := ⟨z6 - 1, by omega⟩
    obtain ⟨z9, rfl⟩ : ∃ y, z9 = y + 1 := ⟨z9 - 1, by omega⟩
    by_cases he : e = 0
    · subst he
      obtain ⟨hD, hnp⟩ := hD rfl
      rcases hC with ⟨-, -, g3, s, q, g4, g5, g6, g7, g8⟩ | ⟨g1, -⟩
      · subst g3 g5 g6
        obtain ⟨t1, t2, t3⟩ := id g8
        have hs2 : Rn spc L X s s := rn_self g7.2.1 g7.2.2.2
        have cs0 : CS L X m a k (jI s) v 0 (-1) (jI s) 0 pl := Or.inl ⟨rfl, rfl, rfl, s, s, g4, rfl, rfl, hs2, g8⟩
        by_cases c : s < L
        · have nk : ¬ k = -1 := fun z => by
            rcases t3 with ⟨b1, b2, b3⟩ | ⟨b1, b2, b3, b4⟩ | ⟨b1, b2, b3, e', b4, b5⟩ | ⟨b1, b2, b3, b4, b5⟩
            · omega
            · rw [b3] at z
              exact absurd z (by decide)
            · rw [b3] at z
              exact absurd z (by decide)
            · have := X_nn hX c
              rw [← b4, z, show (-1 : Int32).toInt = -1 from rfl] at this
              omega
          have nx1 : ¬ X s = -1 := fun z => by
            have := X_nn hX c
            rw [z, show (-1 : Int32).toInt = -1 from rfl] at this
            omega
          obtain ⟨a6, k6, st6, v6, e6, ea6, ht6, hr6, n6, pa6, re6, li6, da6, ra6, lk6, sg6, th6, np6, C6, ic6, fi6, pr6, qu6, pg6, a7, k7, st7, v7, e7, ea7, nx7, pl7, bg7, once7, R7, c6, c7, c9, cs, hh⟩ := stm hX bg cs0 hD hnp
          have e6' : f_X6_read_63 (z6 + 1) fl (jI L) a k (jI s) v 0 (-1) ht hr T dy ac (jI n) pa re li da ra lk sg th (jI np) L C ic fi pr qu pg vc cc lc (jI i) = f_X6_read_63 z6 fl (jI L) a7 k7 st7 v7 e7 ea7 ht6 hr6 T dy ac (jI n6) pa6 re6 li6 da6 ra6 lk6 sg6 th6 (jI np6) L C6 ic6 fi6 pr6 qu6 pg6 vc cc lc (jI (i + 1)) := by
            have ei : jI i + (1 : Int32) = jI (i + 1) := by rw [jI_1, jI_add]
            simp only [f_X6_read_63]
            rw [if_neg (fun z => by have := (jI_le (by omega) (by omega)).mp z; omega), if_pos trivial, if_neg nk, c6, zB1_s]
            dsimp only
            rw [c7, zB1_s, ei]
          have e9' : f_X9_texts_113 (z9 + 1) (jI L) (jI q) 0 pl bg 0 once R X = f_X9_texts_113 z9 (jI L) nx7 e7 pl7 bg7 0 once7 R7 X := by
            simp only [f_X9_texts_113]
            rw [if_pos trivial, r_sees hL g7, zB1_s]
            dsimp only
            rw [if_pos c, if_neg nx1, c9, zB1_s]
          rw [e6', e9']
          exact ih (r - 1) (by omega) (i + 1) (m + 1) n6 np6 z6 z9 a7 k7 st7 v7 e7 ea7 ht6 hr6 th6 nx7 pl7 bg7 once7 pa6 re6 li6 da6 ra6 lk6 sg6 C6 ic6 fi6 pr6 qu6 pg6 R7 (by omega) (by omega) (by omega) (by omega) cs hh
        · have sk : k = -1 := by
            rcases t3 with ⟨b1, b2, b3⟩ | ⟨b1, -⟩ | ⟨b1, -⟩ | ⟨b1, -⟩
            · exact b3
            · exact absurd b1 c
            · exact absurd b1 c
            · exact absurd b1 c
          have e6' : f_X6_read_63 (z6 + 1) fl (jI L) a k (jI s) v 0 (-1) ht hr T dy ac (jI n) pa re li da ra lk sg th (jI np) L C ic fi pr qu pg vc cc lc (jI i) = some (0, fl, jI L, a, k, jI s, v, 0, -1, ht, hr, dy, ac, jI n, pa, re, li, da, ra, lk, sg, th, jI np, C, ic, fi, pr, qu, pg, vc, cc, lc) := by
            simp only [f_X6_read_63]
            rw [if_pos trivial, if_pos sk]
            split <;> rfl
          have e9' : f_X9_texts_113 (z9 + 1) (jI L) (jI q) 0 pl bg 0 once R X = some (jI s, 0, pl, bg, 0, once, R) := by
            simp only [f_X9_texts_113]
            rw [if_pos trivial, r_sees hL g7, zB1_s]
            dsimp only
            rw [if_neg c, if_pos (show (-1 : Int32) = -1 from rfl)]
          exact ⟨a, k, jI s, v, 0, -1, ht, hr, n, pa, re, li, da, ra, lk, sg, th, np, C, ic, fi, pr, qu, pg, jI s, pl, bg, once, R, e6', e9', fun _ => ⟨rfl, hD, hnp⟩, fun z => absurd rfl z⟩
      · exact absurd rfl g1
    · have ep : pl = ea := by
        rcases hC with ⟨w1, -⟩ | ⟨-, -, w3, -⟩
        · exact absurd w1 he
        · exact w3
      have e6' : f_X6_read_63 (z6 + 1) fl (jI L) a k st v e ea ht hr T dy ac (jI n) pa re li da ra lk sg th (jI np) L C ic fi pr qu pg vc cc lc (jI i) = some (e, fl, jI L, a, k, st, v, e, ea, ht, hr, dy, ac, jI n, pa, re, li, da, ra, lk, sg, th, jI np, C, ic, fi, pr, qu, pg, vc, cc, lc) := by
        simp only [f_X6_read_63]
        rw [if_neg he]
        split <;> rfl
      have e9' : f_X9_texts_113 (z9 + 1) (jI L) nx e pl bg 0 once R X = some (nx, e, pl, bg, 0, once, R) := by
        simp only [f_X9_texts_113]
        rw [if_neg he]
      exact ⟨a, k, st, v, e, ea, ht, hr, n, pa, re, li, da, ra, lk, sg, th, np, C, ic, fi, pr, qu, pg, nx, pl, bg, once, R, e6', e9', fun z => absurd z he, fun _ => ep⟩
/-! the draft is cleared, the row is zeroed -/
theorem k_clr2 (ic : Nat → Int32) : ∃ ic', f_X2_clear ic = some ic' ∧ ∀ c, c < 8 → ic' c = 0 := by
  unfold f_X2_clear
  have hfu := FU_k
  generalize FU = fu at hfu ⊢
  have key : ∀ (m k z : Nat) (A : Nat → Int32), k + m = 8 → m < z → (∀ j, j < k → A j = 0) → ∃ ic', f_X2_clear_2 z A (jI k) = some ic' ∧ ∀ c, c < 8 → ic' c = 0 := by
    intro m
    induction m with
    | zero =>
      intro k z A hk hz hA
      obtain ⟨z, rfl⟩ : ∃ z', z = z' + 1 := ⟨z - 1, by omega⟩
      refine ⟨A, ?_, fun c hc => hA c (by omega)⟩
      simp only [f_X2_clear_2]
      rw [if_pos (show (8 : Int32) ≤ jI k from (jI_le (a := 8) (b := k) (by omega) (by omega)).mpr (by omega))]
    | succ m ih =>
      intro k z A hk hz hA
      obtain ⟨z, rfl⟩ : ∃ z', z = z' + 1 := ⟨z - 1, by omega⟩
      simp only [f_X2_clear_2]
      rw [if_neg (fun z => by have := (jI_le (a := 8) (b := k) (by omega) (by omega)).mp z; omega), zSi_n (by omega) (by omega), jI_1, jI_add]
      refine ih (k + 1) z _ (by omega) (by omega) (fun j hj => ?_)
      by_cases c : j = k
      · rw [c, upd_same]
      · rw [upd_ne c]
        exact hA j (by omega)
  exact key 8 0 fu ic (by omega) (by omega) (fun j hj => by omega)
theorem k_clr (dy cc vc ec lc tb : Int32) (ac : Nat → Int64) (ic : Nat → Int32) : ∃ ac' ic', f_X5_clear dy ac cc ic vc ec lc tb = some (0, ac', 0, ic', 0, 0, 0) ∧ (∀ k, k < 9 → ac' k = 0) ∧ ∀ c, c < 8 → ic' c = 0 := by
  obtain ⟨ic', h1, h2⟩ := k_clr2 ic
  unfold f_X5_clear
  have hfu := FU_k
  generalize FU = fu at hfu ⊢
  have key : ∀ (m k z : Nat) (A : Nat → Int64), k + m = 9 → m < z → (∀ j, j < k → A j = 0) → ∃ ac' ic', f_X5_clear_7 z 0 A cc ic vc ec lc tb (jI k) = some (0, ac', 0, ic', 0, 0, 0) ∧ (∀ k, k < 9 → ac' k = 0) ∧ ∀ c, c < 8 → ic' c = 0 := by
    intro m
    induction m with
    | zero =>
      intro k z A hk hz hA
      obtain ⟨z, rfl⟩ : ∃ z', z = z' + 1 := ⟨z - 1, by omega⟩
      refine ⟨A, ic', ?_, fun c hc => hA c (by omega), h2⟩
      simp only [f_X5_clear_7]
      rw [if_pos (show (9 : Int32) ≤ jI k from (jI_le (a := 9) (b := k) (by omega) (by omega)).mpr (by omega))]
      unfold f_X5_clear_49
      rw [h1, zB1_s]
    | succ m ih =>
      intro k z A hk hz hA
      obtain ⟨z, rfl⟩ : ∃ z', z = z' + 1 := ⟨z - 1, by omega⟩
      simp only [f_X5_clear_7]
      rw [if_neg (fun z => by have := (jI_le (a := 9) (b := k) (by omega) (by omega)).mp z; omega), zSl_n (by omega) (by omega), jI_1, jI_add]
      refine ih (k + 1) z _ (by omega) (by omega) (fun j hj => ?_)
      by_cases c : j = k
      · rw [c, updL_same]
      · rw [updL_ne c]
        exact hA j (by omega)
  exact key 9 0 fu ac (by omega) (by omega) (fun j hj => by omega)
def hrow (R : Nat → Int64) (y0 y1 y2 y3 : Int64) : Nat → Int64 := vp_updL (vp_updL (vp_updL (vp_updL (vp_updL (vp_updL (vp_updL R 2 25) 8 y0) 20 (-1)) 21 y1) 22 y2) 23 y3) 0 1
theorem hrow_f {R : Nat → Int64} {y0 y1 y2 y3 : Int64} (q : Nat) (h : q ≠ 0 ∧ q ≠ 2 ∧ q ≠ 8 ∧ (q < 20 ∨ 23 < q)) : hrow R y0 y1 y2 y3 q = R q := by
  unfold hrow
  rw [updL_ne (by omega), updL_ne (by omega), updL_ne (by omega), updL_ne (by omega), updL_ne (by omega), updL_ne (by omega), updL_ne (by omega)]
theorem Dr_head {R : Nat → Int64} (hR : ∀ q, q < 2500 → R q = 0) {x0 x1 x2 x3 : Int32} (c1 : 0 ≤ x1.toInt ∧ x1.toInt ≤ 20) (c2 : 0 ≤ x2.toInt ∧ x2.toInt ≤ 20) (c3 : 0 ≤ x3.toInt ∧ x3.toInt ≤ 60) (pa re li da ra lk sg C ic fi pr qu pg : Nat → Int32) (hic : ∀ c, c < 8 → ic c = 0) : Dr 1 (upd pa 0 (-1)) (upd re 0 x1) (upd li 0 x2) (upd da 0 x3) (upd ra 0 0) (upd lk 0 0) (upd sg 0 0) 25 0 C ic fi pr qu pg (hrow R x0.toInt64 x1.toInt64 x2.toInt64 x3.toInt64) x0.toInt64 0 0 0 := by
  have hz : ∀ q, q < 2500 → (q ≠ 0 ∧ q ≠ 2 ∧ q ≠ 8 ∧ (q < 20 ∨ 23 < q)) → hrow R x0.toInt64 x1.toInt64 x2.toInt64 x3.toInt64 q = 0 := fun q h1 h2 => (hrow_f q h2).trans (hR q h1)
  refine ⟨⟨by omega, by omega, updL_same _ _ _, fun c hc => ?_⟩, fun c hc => ⟨0, by omega, fun _ => rfl, hic c hc, hz _ (by omega) (by omega), fun i hi => absurd hi (by omega)⟩, ?_, ⟨⟨by omega, hz 3 (by omega) (by omega), fun j hj => absurd hj (by omega)⟩, Or.inl ⟨rfl, rfl⟩⟩, ⟨⟨hz 1 (by omega) (by omega), hz 4 (by omega) (by omega), hz 5 (by omega) (by omega), hz 6 (by omega) (by omega)⟩, ?_, fun k h1 h2 => hz _ (by omega) (by omega), fun c hc => hz _ (by omega) (by omega), fun c i hc hi => hz _ (by omega) (by omega)⟩, ⟨Or.inl rfl, Or.inl rfl, by decide⟩⟩
  · have e : c = 0 := by omega
    subst e
    have s4 := hz 24 (by omega) (by omega)
    have s5 := hz 25 (by omega) (by omega)
    have s6 := hz 26 (by omega) (by omega)
    unfold CR
    rw [upd_same, upd_same, upd_same, upd_same, upd_same, upd_same, upd_same]
    refine ⟨⟨?_, by decide, by decide⟩, ⟨?_, c1⟩, ⟨?_, c2⟩, ⟨?_, c3⟩, ⟨s4, by decide, by decide⟩, ⟨s5, by decide, by decide⟩, ⟨s6, by decide, by decide⟩⟩
    · show hrow R x0.toInt64 x1.toInt64 x2.toInt64 x3.toInt64 20 = _
      unfold hrow
      rw [updL_ne (by omega), updL_ne (by omega), updL_ne (by omega), updL_ne (by omega), updL_same]
      decide
    · show hrow R x0.toInt64 x1.toInt64 x2.toInt64 x3.toInt64 21 = _
      unfold hrow
      rw [updL_ne (by omega), updL_ne (by omega), updL_ne (by omega), updL_same]
    · show hrow R x0.toInt64 x1.toInt64 x2.toInt64 x3.toInt64 22 = _
      unfold hrow
      rw [updL_ne (by omega), updL_ne (by omega), updL_same]
    · show hrow R x0.toInt64 x1.toInt64 x2.toInt64 x3.toInt64 23 = _
      unfold hrow
      rw [updL_ne (by omega), updL_same]
  · refine ⟨?_, by decide, by decide⟩
    unfold hrow
    rw [updL_ne (by omega), updL_ne (by omega), updL_ne (by omega), updL_ne (by omega), updL_ne (by omega), updL_ne (by omega), updL_same]
    decide
  · unfold hrow
    rw [updL_ne (by omega), updL_ne (by omega), updL_ne (by omega), updL_ne (by omega), updL_ne (by omega), updL_same]
theorem r_zero {nx er pl bg ns once : Int32} : ∀ (m k z : Nat) (R : Nat → Int64), k + m = 2500 → m + 1 < z → (∀ q, q < k → R q = 0) → ∃ z' R', f_X9_texts_2 z (jI L) nx er pl bg ns once R X (jI k) = f_X9_texts_2 (z' + 1) (jI L) nx er pl bg ns once R' X (jI 2500) ∧ ∀ q, q < 2500 → R' q = 0 := by
  intro m
  induction m with
  | zero =>
    intro k z R hk hz hR
    obtain ⟨z, rfl⟩ : ∃ z', z = z' + 1 := ⟨z - 1, by omega⟩
    have e : k = 2500 := by omega
    subst e
    exact ⟨z, R, rfl, hR⟩
  | succ m ih =>
    intro k z R hk hz hR
    obtain ⟨z, rfl⟩ : ∃ z', z = z' + 1 := ⟨z - 1, by omega⟩
    obtain ⟨z', R', h1, h2⟩ := ih (k + 1) z (vp_updL R k 0) (by omega) (by omega) (fun j hj => by
      by_cases c : j = k
      · rw [c, updL_same]
      · rw [updL_ne c]
        exact hR j (by omega))
    refine ⟨z', R', Eq.trans ?_ h1, h2⟩
    conv => lhs; unfold f_X9_texts_2
    rw [if_neg (fun z => by have := (jI_le (a := 2500) (b := k) (by omega) (by omega)).mp z; omega), zSl_n (by omega) (by omega), jI_1, jI_add]
theorem zSl_8 {β : Type} {n : Nat} {f : Nat → Int64} {x : Int64} {K : (Nat → Int64) → Option β} (h : 8 < n) (hn : n ≤ 2147483648) : zSl n f (8 : Int32) x K = K (vp_updL f 8 x) := zSl_n (k := 8) h hn
theorem zSl_20 {β : Type} {n : Nat} {f : Nat → Int64} {x : Int64} {K : (Nat → Int64) → Option β} (h : 20 < n) (hn : n ≤ 2147483648) : zSl n f (20 : Int32) x K = K (vp_updL f 20 x) := zSl_n (k := 20) h hn
theorem zSl_21 {β : Type} {n : Nat} {f : Nat → Int64} {x : Int64} {K : (Nat → Int64) → Option β} (h : 21 < n) (hn : n ≤ 2147483648) : zSl n f ((20 : Int32) + (1 : Int32)) x K = K (vp_updL f 21 x) := zSl_n (k := 21) h hn
theorem zSl_22 {β : Type} {n : Nat} {f : Nat → Int64} {x : Int64} {K : (Nat → Int64) → Option β} (h : 22 < n) (hn : n ≤ 2147483648) : zSl n f ((20 : Int32) + (2 : Int32)) x K = K (vp_updL f 22 x) := zSl_n (k := 22) h hn
theorem zSl_23 {β : Type} {n : Nat} {f : Nat → Int64} {x : Int64} {K : (Nat → Int64) → Option β} (h : 23 < n) (hn : n ≤ 2147483648) : zSl n f ((20 : Int32) + (3 : Int32)) x K = K (vp_updL f 23 x) := zSl_n (k := 23) h hn
theorem zpn_jI {L : Nat} (h : L ≤ 900) : zpn (jI L) = L := by
  unfold zpn
  have h1 : ¬ (900 : Int32) < jI L := fun z => by
    have := (jI_lt (a := 900) (b := L) (by omega) (by omega)).mp z
    omega
  rw [if_neg h1]
  by_cases c : L = 0
  · subst c
    decide
  · rw [if_pos (show (0 : Int32) < jI L from (jI_lt (a := 0) (b := L) (by omega) (by omega)).mpr (by omega))]
    exact jI_nat (by omega)
theorem rd_text (hX : Tx L T X) {f : Nat} (hf : L ≤ f) (hf9 : f ≤ 900) (ln a k st v er ea ht hr dy cc vc ec lc : Int32) (ac : Nat → Int64) (pa re li da ra lk sg ic fi pr qu pg : Nat → Int32) (nx er9 pl bg ns once : Int32) (R : Nat → Int64) : ∃ (ow : Int32) (ac2 : Nat → Int64), TxO L ow.toInt64 0 0 0 0 0 ac2 (f_X6_read (jI f) ln a k st v er ea ht hr T dy ac cc pa re li da ra lk sg ic fi pr qu pg vc ec lc (jI L)) (f_X9_texts (jI L) nx er9 pl bg ns once R X) ∧ ((0 ≤ ow.toInt ∧ ow.toInt ≤ 9999999 ∧ ∀ k, k < 9 → ac2 k = if k = 0 then ow.toInt64 else 0) ∨ ∀ r, f_X6_read (jI f) ln a k st v er ea ht hr T dy ac cc pa re li da ra lk sg ic fi pr qu pg vc ec lc (jI L) = some r → ¬ r.1 = 0) := by
  have hL := hX.1
  have z0 : (0 : Int32) = 0 := rfl
  obtain ⟨ac0, ic0, q1, q2, q3⟩ := k_clr dy cc vc ec lc (jI L) ac ic
  have eL : (if jI f < jI L then jI f else jI L) = jI L := if_neg (fun z => by have := (jI_lt (by omega) (by omega)).mp z; omega)
  obtain ⟨s0, a0, k0, v0, b1, b2, b3⟩ := k_adv hX (p := 0) (Nat.zero_le _) k st v
  have b3' : f_X6_advance (jI L) 0 k st v T = some (a0, k0, jI s0, v0) := b3
  have cs1 : CS L X 0 a0 k0 (jI s0) v0 0 (-1) 0 0 pl := Or.inl ⟨rfl, rfl, rfl, s0, 0, Nat.zero_le _, rfl, rfl, b1, b2⟩
  obtain ⟨a1, k1, t1, v1, e1, ea1, nx1, er1, pl1, f1, g1, h1, i1⟩ := wrd hX (i := 1) (by omega) (by omega) cs1
  have xe := cs_er h1
  subst xe
  have g1' : f_X9_needs (jI L) 0 0 pl X 15 = some (nx1, er1, pl1) := g1
  obtain ⟨x0, a2, k2, t2, v2, e2, ea2, y0, nx2, er2, pl2, bg2, f2, g2, h2, i2⟩ := num hX (lo := 0) (hi := 9999999) (by decide) (by decide) (by decide) bg h1
  have xe := cs_er h2
  subst xe
  obtain ⟨a3, k3, t3, v3, e3, ea3, nx3, er3, pl3, f3, g3, h3, i3⟩ := tak hX (c := 59) (by decide) (by decide) h2
  have xe := cs_er h3
  subst xe
  obtain ⟨a4, k4, t4, v4, e4, ea4, nx4, er4, pl4, f4, g4, h4, i4⟩ := wrd hX (i := 2) (by omega) (by omega) h3
  have xe := cs_er h4
  subst xe
  have g4' : f_X9_needs (jI L) nx3 er3 pl3 X 16 = some (nx4, er4, pl4) := g4
  obtain ⟨x1, a5, k5, t5, v5, e5, ea5, y1, nx5, er5, pl5, bg5, f5, g5, h5, i5⟩ := num hX (lo := 0) (hi := 20) (by decide) (by decide) (by decide) bg2 h4
  have xe := cs_er h5
  subst xe
  obtain ⟨x2, a6, k6, t6, v6, e6, ea6, y2, nx6, er6, pl6, bg6, f6, g6, h6, i6⟩ := num hX (lo := 0) (hi := 20) (by decide) (by decide) (by decide) bg5 h5
  have xe := cs_er h6
  subst xe
  obtain ⟨x3, a7, k7, t7, v7, e7, ea7, y3, nx7, er7, pl7, bg7, f7, g7, h7, i7⟩ := num hX (lo := 0) (hi := 60) (by decide) (by decide) (by decide) bg6 h6
  have xe := cs_er h7
  subst xe
  obtain ⟨a8, k8, t8, v8, e8, ea8, nx8, er8, pl8, f8, g8, h8, i8⟩ := tak hX (c := 59) (by decide) (by decide) h7
  have xe := cs_er h8
  subst xe
  obtain ⟨z', R0, r1, r2⟩ := r_zero (L := L) (X := X) (nx := nx) (er := er9) (pl := pl) (bg := bg) (ns := ns) (once := once) 2500 0 FU R (by omega) (Nat.lt_trans (by omega) FU_b) (fun q hq => absurd hq (by omega))
  have c9 : f_X9_texts (jI L) nx er9 pl bg ns once R X = f_X9_texts_113 FU (jI L) nx8 er8 pl8 bg7 0 0 (hrow R0 y0.toInt64 y1.toInt64 y2.toInt64 y3.toInt64) X := by
    unfold f_X9_texts
    refine Eq.trans r1 ?_
    conv => lhs; unfold f_X9_texts_2
    rw [if_pos (show (2500 : Int32) ≤ jI 2500 by decide), zSl_2 (by omega) (by omega), g1', zB1_s]
    dsimp only
    rw [g2, zB1_s]
    dsimp only
    rw [zSl_8 (by omega) (by omega), g3, zB1_s]
    dsimp only
    rw [g4', zB1_s]
    dsimp only
    rw [zSl_20 (by omega) (by omega)]
    unfold f_X9_terms
    rw [g5, zB1_s]
    dsimp only
    rw [zSl_21 (by omega) (by omega), g6, zB1_s]
    dsimp only
    rw [zSl_22 (by omega) (by omega), g7, zB1_s]
    dsimp only
    rw [zSl_23 (by omega) (by omega), zB1_s]
    dsimp only
    rw [zSl_0 (by omega) (by omega), g8, zB1_s]
    rfl
  have hd6 : f_X6_readHead (jI L) a0 k0 (jI s0) v0 0 (-1) T ac0 0 pa re li da ra lk sg = if er8 = 0 then (zSl 9 ac0 (0 : Int32) x0.toInt64 fun v_74 => zB1 (f_X1_add 0 pa re li da ra lk sg (-1) x1 x2 x3 0 0) fun q_89 => some (a8, k8, t8, v8, er8, ea8, v_74, q_89.1, q_89.2.1, q_89.2.2.1, q_89.2.2.2.1, q_89.2.2.2.2.1, q_89.2.2.2.2.2.1, q_89.2.2.2.2.2.2.1, q_89.2.2.2.2.2.2.2)) else some (a8, k8, t8, v8, er8, ea8, ac0, 0, pa, re, li, da, ra, lk, sg) := by
    unfold f_X6_readHead
    rw [f1, zB1_s]
    dsimp only
    rw [f2, zB1_s]
    dsimp only
    rw [f3, zB1_s]
    dsimp only
    rw [f4, zB1_s]
    dsimp only
    rw [f5, zB1_s]
    dsimp only
    rw [f6, zB1_s]
    dsimp only
    rw [f7, zB1_s]
    dsimp only
    rw [f8, zB1_s]
  have c6 : ∀ (an kn tn vn en ean : Int32) (acn : Nat → Int64) (ccn : Int32) (pan ren lin dan ran lkn sgn : Nat → Int32), f_X6_readHead (jI L) a0 k0 (jI s0) v0 0 (-1) T ac0 0 pa re li da ra lk sg = some (an, kn, tn, vn, en, ean, acn, ccn, pan, ren, lin, dan, ran, lkn, sgn) → f_X6_read (jI f) ln a k st v er ea ht hr T dy ac cc pa re li da ra lk sg ic fi pr qu pg vc ec lc (jI L) = f_X6_read_63 FU 0 (jI L) an kn tn vn en ean 0 0 T 0 acn ccn pan ren lin dan ran lkn sgn 25 0 L (fun _ => (0 : Int32)) ic0 fi pr qu pg 0 0 0 0 := by
    intro an kn tn vn en ean acn ccn pan ren lin dan ran lkn sgn hh
    unfold f_X6_read
    rw [eL, q1, zB1_s, zpn_jI (by omega)]
    dsimp only
    unfold f_X6_read_53
    rw [b3', zB1_s]
    dsimp only
    rw [hh, zB1_s]
  have hF : L < FU := Nat.lt_trans (show L < 1000 by omega) FU_k
  by_cases he : er8 = 0
  · subst he
    have j8 := i8 rfl
    have j7 := i7 j8.1
    have j6 := i6 j7.1
    have j5 := i5 j6.1
    have j4 := i4 j5.1
    have j3 := i3 j4.1
    have j2 := i2 j3.1
    have w3 := j7.2.1
    have w2 := j6.2.1
    have w1 := j5.2.1
    have w0 := j2.2.1
    subst w0 w1 w2 w3
    have ka : f_X1_add 0 pa re li da ra lk sg (-1) y1 y2 y3 0 0 = some (jI 1, upd pa 0 (-1), upd re 0 y1, upd li 0 y2, upd da 0 y3, upd ra 0 0, upd lk 0 0, upd sg 0 0) := k_cadd (n := 0) (by omega) pa re li da ra lk sg (-1) y1 y2 y3 0 0 (Or.inl rfl)
    rw [if_pos z0, zSl_0 (by omega) (by omega), ka, zB1_s] at hd6
    have c6' := c6 _ _ _ _ _ _ _ _ _ _ _ _ _ _ _ hd6
    refine ⟨y0, vp_updL ac0 0 y0.toInt64, ?_, Or.inl ⟨j2.2.2.1, j2.2.2.2.1, fun k hk => ?_⟩⟩
    · rw [c6', c9]
      exact lp_text hX L 0 _ 1 0 FU FU a8 k8 t8 v8 0 ea8 0 0 25 nx8 pl8 bg7 0 _ _ _ _ _ _ _ (fun _ => 0) ic0 fi pr qu pg _ (by omega) (Nat.zero_le _) hF hF h8 (fun _ => ⟨Dr_head r2 ⟨j5.2.2.1, j5.2.2.2.1⟩ ⟨j6.2.2.1, j6.2.2.2.1⟩ ⟨j7.2.2.1, j7.2.2.2.1⟩ pa re li da ra lk sg (fun _ => 0) ic0 fi pr qu pg q3, Nat.zero_le _⟩)
    · by_cases c : k = 0
      · rw [if_pos c, c, updL_same]
      · rw [if_neg c, updL_ne c]
        exact q2 k hk
  · rw [if_neg he] at hd6
    have c6' := c6 _ _ _ _ _ _ _ _ _ _ _ _ _ _ _ hd6
    have ep : pl8 = ea8 := by
      rcases h8 with ⟨w1, -⟩ | ⟨-, -, w3, -⟩
      · exact absurd w1 he
      · exact w3
    obtain ⟨z, hz⟩ : ∃ z, FU = z + 1 := ⟨FU - 1, by have := FU_k; omega⟩
    have e6' : f_X6_read_63 FU 0 (jI L) a8 k8 t8 v8 er8 ea8 0 0 T 0 ac0 0 pa re li da ra lk sg 25 0 L (fun _ => (0 : Int32)) ic0 fi pr qu pg 0 0 0 0 = some (er8, 0, jI L, a8, k8, t8, v8, er8, ea8, 0, 0, 0, ac0, 0, pa, re, li, da, ra, lk, sg, 25, 0, (fun _ => (0 : Int32)), ic0, fi, pr, qu, pg, 0, 0, 0) := by
      rw [hz]
      simp only [f_X6_read_63]
      rw [if_neg he]
      split <;> rfl
    have e9' : f_X9_texts_113 FU (jI L) nx8 er8 pl8 bg7 0 0 (hrow R0 y0.toInt64 y1.toInt64 y2.toInt64 y3.toInt64) X = some (nx8, er8, pl8, bg7, 0, 0, hrow R0 y0.toInt64 y1.toInt64 y2.toInt64 y3.toInt64) := by
      rw [hz]
      simp only [f_X9_texts_113]
      rw [if_neg he]
    refine ⟨0, ac0, ?_, Or.inr (fun r hr => ?_)⟩
    · rw [c6', c9, e6', e9']
      exact ⟨a8, k8, t8, v8, er8, ea8, 0, 0, 0, pa, re, li, da, ra, lk, sg, 25, 0, (fun _ => (0 : Int32)), ic0, fi, pr, qu, pg, nx8, pl8, bg7, 0, _, rfl, rfl, fun z => absurd z he, fun _ => ep⟩
    · rw [c6', e6'] at hr
      rw [← Option.some.inj hr]
      exact he
end TXT
