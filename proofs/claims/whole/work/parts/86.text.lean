/-! layer 3: a setup text, read here and there -/
section TEXT
variable {L : Nat} {T X : Nat → Int32}
theorem DC_c {n : Nat} {pa re li da ra lk sg : Nat → Int32} {R R' : Nat → Int64} (h0 : R' 0 = R 0) (h : ∀ c o, c < 8 → o < 7 → R' (20 + 26 * c + o) = R (20 + 26 * c + o)) (g : DC n pa re li da ra lk sg R) : DC n pa re li da ra lk sg R' := by
  obtain ⟨g1, g2, g3, g4⟩ := g
  refine ⟨g1, g2, h0.trans g3, fun c hc => ?_⟩
  have hx : c < 8 := by omega
  have e0 : R' (20 + 26 * c) = R (20 + 26 * c) := h c 0 hx (by omega)
  unfold CR
  rw [e0, h c 1 hx (by omega), h c 2 hx (by omega), h c 3 hx (by omega), h c 4 hx (by omega), h c 5 hx (by omega), h c 6 hx (by omega)]
  exact g4 c hc
theorem DI_c {n : Nat} {ic fi pr qu pg : Nat → Int32} {R R' : Nat → Int64} (h7 : ∀ c, c < 8 → R' (20 + 26 * c + 7) = R (20 + 26 * c + 7)) (h : ∀ c i o, c < 8 → i < 6 → o < 2 → R' (20 + 26 * c + 8 + 3 * i + o) = R (20 + 26 * c + 8 + 3 * i + o)) (g : DI n ic fi pr qu pg R) : DI n ic fi pr qu pg R' := by
  intro c hc
  obtain ⟨ni, u1, u2, u3, u4, u5⟩ := g c hc
  refine ⟨ni, u1, u2, u3, (h7 c hc).trans u4, fun i hi => ?_⟩
  have e0 : R' (20 + 26 * c + 8 + 3 * i) = R (20 + 26 * c + 8 + 3 * i) := h c i 0 hc (by omega) (by omega)
  rw [e0, h c i 1 hc (by omega) (by omega)]
  exact u5 i hi
theorem Pc_c {n : Nat} {C : Nat → Int32} {R R' : Nat → Int64} (h3 : R' 3 = R 3) (h : ∀ j, R' (600 + j) = R (600 + j)) (g : Pc n C R) : Pc n C R' := by
  obtain ⟨g1, g2, g3⟩ := g
  refine ⟨g1, h3.trans g2, fun j hj => ?_⟩
  have e1 : R' (600 + 2 * j + 1) = R (600 + 2 * j + 1) := h (2 * j + 1)
  rw [h (2 * j), e1]
  exact g3 j hj
theorem Zr_c {R R' : Nat → Int64} {ow : Int64} (h : ∀ q, 0 < q → q < 20 → q ≠ 2 → q ≠ 3 → R' q = R q) (h6 : ∀ c, c < 8 → R' (20 + 26 * c + 6) = R (20 + 26 * c + 6)) (h2 : ∀ c i, c < 8 → i < 6 → R' (20 + 26 * c + 8 + 3 * i + 2) = R (20 + 26 * c + 8 + 3 * i + 2)) (g : Zr R ow) : Zr R' ow := by
  obtain ⟨⟨g1, g2, g3, g4⟩, g5, g6, g7, g8⟩ := g
  exact ⟨⟨(h 1 (by omega) (by omega) (by omega) (by omega)).trans g1, (h 4 (by omega) (by omega) (by omega) (by omega)).trans g2, (h 5 (by omega) (by omega) (by omega) (by omega)).trans g3, (h 6 (by omega) (by omega) (by omega) (by omega)).trans g4⟩, (h 8 (by omega) (by omega) (by omega) (by omega)).trans g5, fun k k1 k2 => (h (8 + k) (by omega) (by omega) (by omega) (by omega)).trans (g6 k k1 k2), fun c hc => (h6 c hc).trans (g7 c hc), fun c i hc hi => (h2 c i hc hi).trans (g8 c i hc hi)⟩
section DRS
variable {n np : Nat} {pa re li da ra lk sg C ic fi pr qu pg : Nat → Int32} {th ht hr once : Int32} {R : Nat → Int64} {ow : Int64}
theorem srw_f {R : Nat → Int64} {n : Nat} {y1 y2 y3 y4 y5 z : Int64} (q : Nat) (h0 : q ≠ 0) (hq : q < 20 + 26 * n ∨ 20 + 26 * n + 5 < q) : srw R n y1 y2 y3 y4 y5 z q = R q := by
  unfold srw srow
  rw [updL_ne h0, updL_ne (by omega), updL_ne (by omega), updL_ne (by omega), updL_ne (by omega), updL_ne (by omega), updL_ne (by omega)]
theorem Dr_sub (h : Dr n pa re li da ra lk sg th np C ic fi pr qu pg R ow ht hr once) (hn : n < 8) {x1 x2 x3 x4 x5 x6 : Int32} (c1 : 0 ≤ x1.toInt ∧ x1.toInt ≤ (n : Int) - 1) (c2 : 0 ≤ x2.toInt ∧ x2.toInt ≤ 20) (c3 : 0 ≤ x3.toInt ∧ x3.toInt ≤ 20) (c4 : 0 ≤ x4.toInt ∧ x4.toInt ≤ 60) (c5 : 0 ≤ x5.toInt ∧ x5.toInt ≤ 3) (c6 : x6 = 0 ∨ x6 = 1) : Dr (n + 1) (upd pa n x1) (upd re n x2) (upd li n x3) (upd da n x4) (upd ra n x5) (upd lk n x6) (upd sg n 0) th np C ic fi pr qu pg (srw R n x1.toInt64 x2.toInt64 x3.toInt64 x4.toInt64 x5.toInt64 x6.toInt64) ow ht hr once := by
  obtain ⟨⟨d1, d2, d3, d4⟩, hI, hT, ⟨hP, hK⟩, hZ, hO⟩ := h
  have hZ6 := hZ.2.2.2.1 n hn
  have c6' : 0 ≤ x6.toInt ∧ x6.toInt ≤ 1 := by rcases c6 with e | e <;> subst e <;> decide
  refine ⟨⟨by omega, by omega, updL_same _ _ _, fun c hc => ?_⟩, ?_, ?_, ⟨Pc_c (srw_f 3 (by omega) (by omega)) (fun j => srw_f _ (by omega) (by omega)) hP, hK⟩, Zr_c (fun q _ _ _ _ => srw_f q (by omega) (by omega)) (fun c hc => srw_f _ (by omega) (by omega)) (fun c i hc hi => srw_f _ (by omega) (by rcases Nat.lt_trichotomy c n with z | z | z <;> omega)) hZ, hO⟩
  · by_cases e : c = n
    · subst e
      have s6 := srw_f (R := R) (n := c) (y1 := x1.toInt64) (y2 := x2.toInt64) (y3 := x3.toInt64) (y4 := x4.toInt64) (y5 := x5.toInt64) (z := x6.toInt64) (20 + 26 * c + 6) (by omega) (by omega)
      unfold CR
      rw [upd_same, upd_same, upd_same, upd_same, upd_same, upd_same, upd_same, s6, hZ6]
      unfold srw srow
      refine ⟨⟨?_, by omega, by omega⟩, ⟨?_, c2⟩, ⟨?_, c3⟩, ⟨?_, c4⟩, ⟨?_, c5⟩, ⟨?_, c6'⟩, ⟨by decide, by decide, by decide⟩⟩
      · rw [updL_ne (by omega), updL_ne (by omega), updL_ne (by omega), updL_ne (by omega), updL_ne (by omega), updL_ne (by omega), updL_same]
      · rw [updL_ne (by omega), updL_ne (by omega), updL_ne (by omega), updL_ne (by omega), updL_ne (by omega), updL_same]
      · rw [updL_ne (by omega), updL_ne (by omega), updL_ne (by omega), updL_ne (by omega), updL_same]
      · rw [updL_ne (by omega), updL_ne (by omega), updL_ne (by omega), updL_same]
      · rw [updL_ne (by omega), updL_ne (by omega), updL_same]
      · rw [updL_ne (by omega), updL_same]
    · have h' : ∀ o, o < 7 → srw R n x1.toInt64 x2.toInt64 x3.toInt64 x4.toInt64 x5.toInt64 x6.toInt64 (20 + 26 * c + o) = R (20 + 26 * c + o) := fun o ho => srw_f _ (by omega) (by omega)
      have e0 : srw R n x1.toInt64 x2.toInt64 x3.toInt64 x4.toInt64 x5.toInt64 x6.toInt64 (20 + 26 * c) = R (20 + 26 * c) := h' 0 (by omega)
      unfold CR
      rw [upd_ne e, upd_ne e, upd_ne e, upd_ne e, upd_ne e, upd_ne e, upd_ne e, e0, h' 1 (by omega), h' 2 (by omega), h' 3 (by omega), h' 4 (by omega), h' 5 (by omega), h' 6 (by omega)]
      exact d4 c (by omega)
  · have hI' := DI_c (R' := srw R n x1.toInt64 x2.toInt64 x3.toInt64 x4.toInt64 x5.toInt64 x6.toInt64) (fun c hc => srw_f _ (by omega) (by omega)) (fun c i o _ _ _ => srw_f _ (by omega) (by rcases Nat.lt_trichotomy c n with z | z | z <;> omega)) hI
    intro c hc
    obtain ⟨ni, u1, u2, u3⟩ := hI' c hc
    exact ⟨ni, u1, fun z => u2 (by omega), u3⟩
  · rw [srw_f 2 (by omega) (by omega)]
    exact hT
theorem irw_f {R : Nat → Int64} {c ni : Nat} {y1 y2 : Int64} (q : Nat) (h1 : q ≠ 20 + 26 * c + 7) (h2 : q ≠ 20 + 26 * c + 8 + 3 * ni + 1) (h3 : q ≠ 20 + 26 * c + 8 + 3 * ni) : irw R c ni y1 y2 q = R q := by
  unfold irw
  rw [updL_ne h1, updL_ne h2, updL_ne h3]
theorem Dr_item (h : Dr n pa re li da ra lk sg th np C ic fi pr qu pg R ow ht hr once) {c ni : Nat} {x1 x2 : Int32} (hc : c < n) (hni : ni < 6) (hic : ic c = jI ni) (c1 : 1 ≤ x1.toInt ∧ x1.toInt ≤ 999) (c2 : 0 ≤ x2.toInt ∧ x2.toInt ≤ 9999) : Dr n pa re li da ra lk sg th np C (upd ic c (jI (ni + 1))) (upd fi (c * 6 + ni) x1) (upd pr (c * 6 + ni) x2) (upd qu (c * 6 + ni) x1) (upd pg (c * 6 + ni) 0) (irw R c ni x1.toInt64 x2.toInt64) ow ht hr once := by
  obtain ⟨hC, hI, hT, ⟨hP, hK⟩, hZ, hO⟩ := h
  have hn := hC.2.1
  refine ⟨DC_c (irw_f _ (by omega) (by omega) (by omega)) (fun c' o h1 h2 => irw_f _ (by omega) (by rcases Nat.lt_trichotomy c' c with z | z | z <;> omega) (by rcases Nat.lt_trichotomy c' c with z | z | z <;> omega)) hC, fun c' hc' => ?_, ?_, ⟨Pc_c (irw_f _ (by omega) (by omega) (by omega)) (fun j => irw_f _ (by omega) (by omega) (by omega)) hP, hK⟩, Zr_c (fun q _ _ _ _ => irw_f q (by omega) (by omega) (by omega)) (fun c' h1 => irw_f _ (by omega) (by omega) (by omega)) (fun c' i h1 h2 => irw_f _ (by omega) (by omega) (by omega)) hZ, hO⟩
  · obtain ⟨nj, u1, u2, u3, u4, u5⟩ := hI c' hc'
    by_cases e : c' = c
    · subst e
      have en : nj = ni := (jI_eq (by omega) (by omega)).mp (u3.symm.trans hic)
      subst en
      refine ⟨nj + 1, by omega, fun z => by omega, upd_same _ _ _, updL_same _ _ _, fun i hi => ?_⟩
      by_cases ei : i = nj
      · subst ei
        rw [upd_same, upd_same, upd_same, upd_same]
        unfold irw
        refine ⟨⟨?_, c1⟩, ⟨?_, c2⟩, rfl, rfl⟩
        · rw [updL_ne (by omega), updL_ne (by omega), updL_same]
        · rw [updL_ne (by omega), updL_same]
      · have e1 : ¬ c' * 6 + i = c' * 6 + nj := by omega
        rw [upd_ne e1, upd_ne e1, upd_ne e1, upd_ne e1, irw_f _ (by omega) (by omega) (by omega), irw_f _ (by omega) (by omega) (by omega)]
        exact u5 i (by omega)
    · refine ⟨nj, u1, u2, (upd_ne e).trans u3, (irw_f _ (by omega) (by omega) (by omega)).trans u4, fun i hi => ?_⟩
      have e1 : ¬ c' * 6 + i = c * 6 + ni := by omega
      rw [upd_ne e1, upd_ne e1, upd_ne e1, upd_ne e1, irw_f _ (by omega) (by omega) (by omega), irw_f _ (by omega) (by omega) (by omega)]
      exact u5 i hi
  · rw [irw_f 2 (by omega) (by omega) (by omega)]
    exact hT
theorem Dr_th (h : Dr n pa re li da ra lk sg th np C ic fi pr qu pg R ow ht hr once) {x ht' once' : Int32} (c1 : 0 ≤ x.toInt ∧ x.toInt ≤ 100) (hO' : On ht' hr once') : Dr n pa re li da ra lk sg x np C ic fi pr qu pg (vp_updL R 2 x.toInt64) ow ht' hr once' := by
  obtain ⟨hC, hI, hT, ⟨hP, hK⟩, hZ, hO⟩ := h
  refine ⟨DC_c (updL_ne (by omega)) (fun c' o h1 h2 => updL_ne (by omega)) hC, DI_c (fun c hc => updL_ne (by omega)) (fun c i o _ _ _ => updL_ne (by omega)) hI, ⟨updL_same _ _ _, c1⟩, ⟨Pc_c (updL_ne (by omega)) (fun j => updL_ne (by omega)) hP, hK⟩, Zr_c (fun q _ _ h2 _ => updL_ne h2) (fun c' h1 => updL_ne (by omega)) (fun c' i h1 h2 => updL_ne (by omega)) hZ, hO'⟩
theorem Dr_rate (h : Dr n pa re li da ra lk sg th np C ic fi pr qu pg R ow ht hr once) {np' : Nat} {C' : Nat → Int32} {R' : Nat → Int64} {once' : Int32} (hP' : Pc np' C' R') (hk' : kD C' np' = some 1) (hF : Fr R' R) (hO' : On ht 1 once') : Dr n pa re li da ra lk sg th np' C' ic fi pr qu pg R' ow ht 1 once' := by
  obtain ⟨hC, hI, hT, -, hZ, hO⟩ := h
  refine ⟨DC_c (hF 0 (by omega) (by omega)) (fun c' o h1 h2 => hF _ (by omega) (by omega)) hC, DI_c (fun c hc => hF _ (by omega) (by omega)) (fun c i o _ _ _ => hF _ (by omega) (by omega)) hI, ?_, ⟨hP', Or.inr ⟨rfl, hk'⟩⟩, Zr_c (fun q _ h1 _ h3 => hF q (by omega) h3) (fun c' h1 => hF _ (by omega) (by omega)) (fun c' i h1 h2 => hF _ (by omega) (by omega)) hZ, hO'⟩
  rw [hF 2 (by omega) (by omega)]
  exact hT
theorem on_t0 (h : On 0 hr once) (pl at_ : Int32) : ∃ once', f_X9_first 0 pl once 0 at_ = some (1, 0, pl, once') ∧ On 1 hr once' := by
  obtain ⟨-, h2, h3⟩ := h
  subst h3
  rcases h2 with e | e <;> subst e
  · exact ⟨1, rfl, Or.inr rfl, Or.inl rfl, by decide⟩
  · exact ⟨3, rfl, Or.inr rfl, Or.inr rfl, by decide⟩
theorem on_t1 (h : On 1 hr once) (pl at_ : Int32) : ∃ once', f_X9_first 0 pl once 0 at_ = some (0, -2, at_, once') := by
  obtain ⟨-, h2, h3⟩ := h
  subst h3
  rcases h2 with e | e <;> subst e
  · exact ⟨1, rfl⟩
  · exact ⟨3, rfl⟩
theorem on_r0 (h : On ht 0 once) (pl at_ : Int32) : ∃ once', f_X9_first 0 pl once 1 at_ = some (1, 0, pl, once') ∧ On ht 1 once' := by
  obtain ⟨h2, -, h3⟩ := h
  subst h3
  rcases h2 with e | e <;> subst e
  · exact ⟨2, rfl, Or.inl rfl, Or.inr rfl, by decide⟩
  · exact ⟨3, rfl, Or.inr rfl, Or.inr rfl, by decide⟩
theorem on_r1 (h : On ht 1 once) (pl at_ : Int32) : ∃ once', f_X9_first 0 pl once 1 at_ = some (0, -2, at_, once') := by
  obtain ⟨h2, -, h3⟩ := h
  subst h3
  rcases h2 with e | e <;> subst e
  · exact ⟨2, rfl⟩
  · exact ⟨3, rfl⟩
theorem isW_two {a k st : Int32} {i j : Nat} (hij : ¬ f_len i = f_len j) (h : f_X6_isWord a k st T i = some 1) : ¬ f_X6_isWord a k st T j = some 1 := by
  intro h2
  unfold f_X6_isWord at h h2
  by_cases c : k = -3
  · rw [if_pos c] at h h2
    by_cases ci : a - st = f_len i
    · by_cases cj : a - st = f_len j
      · exact hij (ci.symm.trans cj)
      · rw [if_neg cj] at h2
        exact absurd h2 (by decide)
    · rw [if_neg ci] at h
      exact absurd h (by decide)
  · rw [if_neg c] at h
    exact absurd h (by decide)
theorem zSl_2 {β : Type} {n : Nat} {f : Nat → Int64} {x : Int64} {K : (Nat → Int64) → Option β} (h : 2 < n) (hn : n ≤ 2147483648) : zSl n f (2 : Int32) x K = K (vp_updL f 2 x) := zSl_n (k := 2) h hn
end DRS
def StO (L m : Nat) (T X : Nat → Int32) (ow : Int64) (r6 : Option (Int32 × Int32 × Int32 × Int32 × Int32 × Int32 × Int32 × Int32 × Int32 × (Nat → Int32) × (Nat → Int32) × (Nat → Int32) × (Nat → Int32) × (Nat → Int32) × (Nat → Int32) × (Nat → Int32) × Int32 × Int32 × (Nat → Int32) × (Nat → Int32) × (Nat → Int32) × (Nat → Int32) × (Nat → Int32) × (Nat → Int32))) (r9 : Option (Int32 × Int32 × Int32 × Int32 × Int32 × Int32 × (Nat → Int64))) : Prop := ∃ (a6 k6 st6 v6 e6 ea6 ht hr : Int32) (n : Nat) (pa re li da ra lk sg : Nat → Int32) (th : Int32) (np : Nat) (C ic fi pr qu pg : Nat → Int32) (a k st v e ea nx pl bg once : Int32) (R : Nat → Int64), r6 = some (a6, k6, st6, v6, e6, ea6, ht, hr, jI n, pa, re, li, da, ra, lk, sg, th, jI np, C, ic, fi, pr, qu, pg) ∧ f_X6_take (jI L) a6 k6 st6 v6 e6 ea6 T (59 : Int32) = some (a, k, st, v, e, ea) ∧ r9 = some (nx, e, pl, bg, 0, once, R) ∧ CS L X (m + 1) a k st v e ea nx e pl ∧ (e = 0 → Dr n pa re li da ra lk sg th np C ic fi pr qu pg R ow ht hr once ∧ np ≤ L)
theorem st_fin (hX : Tx L T X) {m n np : Nat} {a k st v e ea ht hr th nx pl bg once : Int32} {pa re li da ra lk sg C ic fi pr qu pg : Nat → Int32} {R : Nat → Int64} {ow : Int64} {r6 : Option (Int32 × Int32 × Int32 × Int32 × Int32 × Int32 × Int32 × Int32 × Int32 × (Nat → Int32) × (Nat → Int32) × (Nat → Int32) × (Nat → Int32) × (Nat → Int32) × (Nat → Int32) × (Nat → Int32) × Int32 × Int32 × (Nat → Int32) × (Nat → Int32) × (Nat → Int32) × (Nat → Int32) × (Nat → Int32) × (Nat → Int32))} {r9 : Option (Int32 × Int32 × Int32 × Int32 × Int32 × Int32 × (Nat → Int64))} (c6 : r6 = some (a, k, st, v, e, ea, ht, hr, jI n, pa, re, li, da, ra, lk, sg, th, jI np, C, ic, fi, pr, qu, pg)) (c9 : r9 = zB1 (f_X9_wants (jI L) nx e pl X (59 : Int32)) fun q => some (q.1, q.2.1, q.2.2, bg, 0, once, R)) (hC : CS L X m a k st v e ea nx e pl) (hD : e = 0 → Dr n pa re li da ra lk sg th np C ic fi pr qu pg R ow ht hr once ∧ np ≤ L) : StO L m T X ow r6 r9 := by
  obtain ⟨a', k', st', v', e', ea', nx', er', pl', x6, x9, x10, x11⟩ := tak hX (c := 59) (by decide) (by decide) hC
  have xe := cs_er x10
  subst xe
  refine ⟨a, k, st, v, e, ea, ht, hr, n, pa, re, li, da, ra, lk, sg, th, np, C, ic, fi, pr, qu, pg, a', k', st', v', er', ea', nx', pl', bg, once, R, c6, x6, ?_, x10, fun z => hD (x11 z).1⟩
  rw [c9, x9, zB1_s]
theorem stm (hX : Tx L T X) {m n np : Nat} {a k st v ht hr th nx pl once : Int32} (bg : Int32) {pa re li da ra lk sg C ic fi pr qu pg : Nat → Int32} {R : Nat → Int64} {ow : Int64} (hC : CS L X m a k st v 0 (-1) nx 0 pl) (hD : Dr n pa re li da ra lk sg th np C ic fi pr qu pg R ow ht hr once) (hnp : np ≤ L) : StO L m T X ow (f_X6_readStatement (jI L) a k st v 0 (-1) ht hr T (jI n) pa re li da ra lk sg th (jI np) L C ic fi pr qu pg) (f_X9_statement (jI L) nx 0 pl bg 0 once R X) := by
  have hL := hX.1
  have z0 : (0 : Int32) = 0 := rfl
  have hn := hD.1.2.1
  have h0 := hD.1.2.2.1
  have hO := hD.2.2.2.2.2
  rcases hC with ⟨-, -, -, s, q, g4, g5, g6, g7, g8⟩ | ⟨g1, -⟩
  · subst g5 g6
    have hs2 : Rn spc L X s s := rn_self g7.2.1 g7.2.2.2
    rcases wordP hX (i := 3) (by omega) (by omega) hs2 g8 with ⟨e, y1, y2, y3, y4, y5, y6, y7⟩ | ⟨u3, v3⟩
    · have y8 : f_X9_takes (jI L) (jI s) 0 X 17 = some (1, jI e) := y7
      have sb : SbO L m n X pa re li da ra lk sg R (f_X6_readSub (jI L) a k (jI s) v 0 (-1) T (jI n) pa re li da ra lk sg) (f_X9_subLine (jI L) (jI e) 0 pl bg R X (jI s)) := sub_both hX hn h0 g4 y1 y2 y5
      obtain ⟨a6, k6, st6, v6, e6, ea6, n6, pa6, re6, li6, da6, ra6, lk6, sg6, nx6, pl6, bg6, R6, c6, c9, cs, hh⟩ := sb
      have c6' : f_X6_readStatement (jI L) a k (jI s) v 0 (-1) ht hr T (jI n) pa re li da ra lk sg th (jI np) L C ic fi pr qu pg = some (a6, k6, st6, v6, e6, ea6, ht, hr, jI n6, pa6, re6, li6, da6, ra6, lk6, sg6, th, jI np, C, ic, fi, pr, qu, pg) := by
        unfold f_X6_readStatement
        rw [y6, zB1_s, if_neg one_ne, c6, zB1_s]
      have c9' : f_X9_statement (jI L) (jI q) 0 pl bg 0 once R X = zB1 (f_X9_wants (jI L) nx6 e6 pl6 X (59 : Int32)) fun q => some (q.1, q.2.1, q.2.2, bg6, 0, once, R6) := by
        unfold f_X9_statement
        rw [r_sees hL g7, zB1_s]
        dsimp only
        rw [y8, zB1_s]
        dsimp only
        rw [if_neg one_ne, c9, zB1_s]
      refine st_fin hX c6' c9' cs (fun z => ?_)
      obtain ⟨h8, hn', x1, x2, x3, x4, x5, x6, r1, r2, r3, r4, r5, r6, ⟨w1, w2, w3, w4, w5, w6, w7⟩, w8⟩ := hh z
      rw [hn', w1, w2, w3, w4, w5, w6, w7, w8]
      exact ⟨Dr_sub hD h8 r1 r2 r3 r4 r5 r6, hnp⟩
    · have v3' : f_X9_takes (jI L) (jI s) 0 X 17 = some (0, jI s) := v3
      rcases wordP hX (i := 5) (by omega) (by omega) hs2 g8 with ⟨e, y1, y2, y3, y4, y5, y6, y7⟩ | ⟨u5, v5⟩
      · have y8 : f_X9_takes (jI L) (jI s) 0 X 19 = some (1, jI e) := y7
        have sb : ItO L m n X ic fi pr qu pg R (f_X6_readItem (jI L) a k (jI s) v 0 (-1) T (jI n) ic fi pr qu pg) (f_X9_itemLine (jI L) (jI e) 0 pl bg R X) := item_both hX hn h0 hD.2.1 g4 y1 y2 y5
        obtain ⟨a6, k6, st6, v6, e6, ea6, ic6, fi6, pr6, qu6, pg6, nx6, pl6, bg6, R6, c6, c9, cs, hh⟩ := sb
        have c6' : f_X6_readStatement (jI L) a k (jI s) v 0 (-1) ht hr T (jI n) pa re li da ra lk sg th (jI np) L C ic fi pr qu pg = some (a6, k6, st6, v6, e6, ea6, ht, hr, jI n, pa, re, li, da, ra, lk, sg, th, jI np, C, ic6, fi6, pr6, qu6, pg6) := by
          unfold f_X6_readStatement
          rw [u3, zB1_s, if_pos z0, y6, zB1_s, if_neg one_ne, c6, zB1_s]
        have c9' : f_X9_statement (jI L) (jI q) 0 pl bg 0 once R X = zB1 (f_X9_wants (jI L) nx6 e6 pl6 X (59 : Int32)) fun q => some (q.1, q.2.1, q.2.2, bg6, 0, once, R6) := by
          unfold f_X9_statement
          rw [r_sees hL g7, zB1_s]
          dsimp only
          rw [v3', zB1_s]
          dsimp only
          rw [if_pos z0, y8, zB1_s]
          dsimp only
          rw [if_neg one_ne, c9, zB1_s]
        refine st_fin hX c6' c9' cs (fun z => ?_)
        obtain ⟨c, ni, x1, x2, r1, r2, r3, r4, r5, ⟨w1, w2, w3, w4, w5⟩, w8⟩ := hh z
        rw [w1, w2, w3, w4, w5, w8]
        exact ⟨Dr_item hD r1 r2 r3 r4 r5, hnp⟩
      · have v5' : f_X9_takes (jI L) (jI s) 0 X 19 = some (0, jI s) := v5
        rcases wordP hX (i := 6) (by omega) (by omega) hs2 g8 with ⟨e, y1, y2, y3, y4, y5, y6, y7⟩ | ⟨u6, v6'⟩
        · have y8 : f_X9_takes (jI L) (jI s) 0 X 20 = some (1, jI e) := y7
          have u7 : f_X6_isWord a k (jI s) T 7 = some 0 := by
            rcases wordP hX (i := 7) (by omega) (by omega) hs2 g8 with ⟨e', -, -, -, -, -, q6, -⟩ | ⟨u7, -⟩
            · exact absurd q6 (isW_two (by decide) y6)
            · exact u7
          rcases hO.1 with hh | hh
          · subst hh
            obtain ⟨s1, a1, k1, v1, b1, b2, b3⟩ := k_adv hX y2 k (jI s) v
            have hb1 := b1.1
            have cs1 : CS L X m a1 k1 (jI s1) v1 0 (-1) (jI e) 0 pl := Or.inl ⟨rfl, rfl, rfl, s1, e, by omega, rfl, rfl, b1, b2⟩
            obtain ⟨x1, a2, k2, t2, v2, e2, ea2, w1, nx2, er2, pl2, bg2, i6, i9, i10, i11⟩ := num hX (lo := 0) (hi := 100) (by decide) (by decide) (by decide) bg cs1
            have xe := cs_er i10
            subst xe
            obtain ⟨once', o1, o2⟩ := on_t0 hO pl (jI s)
            have c6' : f_X6_readStatement (jI L) a k (jI s) v 0 (-1) 0 hr T (jI n) pa re li da ra lk sg th (jI np) L C ic fi pr qu pg = some (a2, k2, t2, v2, er2, ea2, 1, hr, jI n, pa, re, li, da, ra, lk, sg, x1, jI np, C, ic, fi, pr, qu, pg) := by
              unfold f_X6_readStatement
              rw [u3, zB1_s, if_pos z0, u5, zB1_s, if_pos z0, y6, zB1_s, if_neg one_ne, if_pos z0, y5, b3, zB1_s]
              dsimp only
              rw [i6, zB1_s]
            have c9' : f_X9_statement (jI L) (jI q) 0 pl bg 0 once R X = zB1 (f_X9_wants (jI L) nx2 er2 pl2 X (59 : Int32)) fun q => some (q.1, q.2.1, q.2.2, bg2, 0, once', vp_updL R 2 w1.toInt64) := by
              unfold f_X9_statement
              rw [r_sees hL g7, zB1_s]
              dsimp only
              rw [v3', zB1_s]
              dsimp only
              rw [if_pos z0, v5', zB1_s]
              dsimp only
              rw [if_pos z0, y8, zB1_s]
              dsimp only
              rw [if_neg one_ne, o1, zB1_s]
              dsimp only
              rw [if_neg one_ne, i9, zB1_s]
              dsimp only
              rw [zSl_2 (by omega) (by omega)]
            refine st_fin hX c6' c9' (cs_le i10 (by omega)) (fun z => ?_)
            obtain ⟨-, f2, f3, f4, -, -⟩ := i11 z
            rw [f2]
            exact ⟨Dr_th hD ⟨f3, f4⟩ o2, hnp⟩
          · subst hh
            obtain ⟨once', o1⟩ := on_t1 hO pl (jI s)
            have c6' : f_X6_readStatement (jI L) a k (jI s) v 0 (-1) 1 hr T (jI n) pa re li da ra lk sg th (jI np) L C ic fi pr qu pg = some (a, k, jI s, v, -2, jI s, 1, hr, jI n, pa, re, li, da, ra, lk, sg, th, jI np, C, ic, fi, pr, qu, pg) := by
              unfold f_X6_readStatement
              rw [u3, zB1_s, if_pos z0, u5, zB1_s, if_pos z0, y6, zB1_s, if_neg one_ne, if_neg one_ne]
              unfold f_X6_readStatement_77
              rw [u7, zB1_s, if_pos z0, failAt_0, zB1_s]
            have c9' : f_X9_statement (jI L) (jI q) 0 pl bg 0 once R X = zB1 (f_X9_wants (jI L) (jI e) (-2) (jI s) X (59 : Int32)) fun q => some (q.1, q.2.1, q.2.2, bg, 0, once', R) := by
              unfold f_X9_statement
              rw [r_sees hL g7, zB1_s]
              dsimp only
              rw [v3', zB1_s]
              dsimp only
              rw [if_pos z0, v5', zB1_s]
              dsimp only
              rw [if_pos z0, y8, zB1_s]
              dsimp only
              rw [if_neg one_ne, o1, zB1_s]
              dsimp only
              rw [if_pos z0]
            exact st_fin hX (m := m) (ow := ow) c6' c9' (Or.inr ⟨by decide, rfl, rfl, tk_sf g8⟩) (fun z => absurd z (by decide))
        · have v6'' : f_X9_takes (jI L) (jI s) 0 X 20 = some (0, jI s) := v6'
          rcases wordP hX (i := 7) (by omega) (by omega) hs2 g8 with ⟨e, y1, y2, y3, y4, y5, y6, y7⟩ | ⟨u7, v7⟩
          · have y8 : f_X9_takes (jI L) (jI s) 0 X 21 = some (1, jI e) := y7
            rcases hD.2.2.2.1.2 with ⟨hh, hnp⟩ | ⟨hh, -⟩
            · subst hh hnp
              obtain ⟨s1, a1, k1, v1, b1, b2, b3⟩ := k_adv hX y2 k (jI s) v
              have hb1 := b1.1
              have cs1 : CS L X m a1 k1 (jI s1) v1 0 (-1) (jI e) 0 pl := Or.inl ⟨rfl, rfl, rfl, s1, e, by omega, rfl, rfl, b1, b2⟩
              obtain ⟨a3, k3, st3, vv3, e3, ea3, n3, C3, nx3, pl3, bg3, R3, m3, f6, f9, w1, w2, w3, w4⟩ := rc_all hX DR 0 0 m 0 0 a1 k1 (jI s1) v1 (-1) (jI e) pl bg C R (by omega) (by omega) (show 15 ≤ DR + 0 + 3 * 0 by decide) (by omega) cs1 hD.2.2.2.1.1 rfl (by omega)
              have f6' : f_X6_rec DR 0 (jI L) a1 k1 (jI s1) v1 0 (-1) T (jI 0) L C 0 = some (a3, k3, st3, vv3, e3, ea3, jI n3, C3) := f6
              have f9' : f_X9_rec DR 0 (jI L) (jI e) 0 pl bg 0 R X = some (nx3, e3, pl3, bg3, 0, R3) := f9
              obtain ⟨once', o1, o2⟩ := on_r0 hO pl (jI s)
              have c6' : f_X6_readStatement (jI L) a k (jI s) v 0 (-1) ht 0 T (jI n) pa re li da ra lk sg th (jI 0) L C ic fi pr qu pg = some (a3, k3, st3, vv3, e3, ea3, ht, 1, jI n, pa, re, li, da, ra, lk, sg, th, jI n3, C3, ic, fi, pr, qu, pg) := by
                unfold f_X6_readStatement
                rw [u3, zB1_s, if_pos z0, u5, zB1_s, if_pos z0, u6, zB1_s, if_pos z0]
                unfold f_X6_readStatement_77
                rw [y6, zB1_s, if_neg one_ne, if_pos z0, y5, b3, zB1_s]
                dsimp only
                rw [f6', zB1_s]
              have c9' : f_X9_statement (jI L) (jI q) 0 pl bg 0 once R X = zB1 (f_X9_wants (jI L) nx3 e3 pl3 X (59 : Int32)) fun q => some (q.1, q.2.1, q.2.2, bg3, 0, once', R3) := by
                unfold f_X9_statement
                rw [r_sees hL g7, zB1_s]
                dsimp only
                rw [v3', zB1_s]
                dsimp only
                rw [if_pos z0, v5', zB1_s]
                dsimp only
                rw [if_pos z0, v6'', zB1_s]
                dsimp only
                rw [if_pos z0, y8, zB1_s]
                dsimp only
                rw [if_neg one_ne, o1, zB1_s]
                dsimp only
                rw [if_neg one_ne, f9', zB1_s]
              refine st_fin hX c6' c9' (cs_le w3 w2) (fun z => ?_)
              obtain ⟨w5, w6, w7, w8⟩ := w4 z
              subst z
              have hm3 := cs_m w3
              exact ⟨Dr_rate hD w6 w7 w8 o2, by omega⟩
            · subst hh
              obtain ⟨once', o1⟩ := on_r1 hO pl (jI s)
              have c6' : f_X6_readStatement (jI L) a k (jI s) v 0 (-1) ht 1 T (jI n) pa re li da ra lk sg th (jI np) L C ic fi pr qu pg = some (a, k, jI s, v, -2, jI s, ht, 1, jI n, pa, re, li, da, ra, lk, sg, th, jI np, C, ic, fi, pr, qu, pg) := by
                unfold f_X6_readStatement
                rw [u3, zB1_s, if_pos z0, u5, zB1_s, if_pos z0, u6, zB1_s, if_pos z0]
                unfold f_X6_readStatement_77
                rw [y6, zB1_s, if_neg one_ne, if_neg one_ne, failAt_0, zB1_s]
              have c9' : f_X9_statement (jI L) (jI q) 0 pl bg 0 once R X = zB1 (f_X9_wants (jI L) (jI e) (-2) (jI s) X (59 : Int32)) fun q => some (q.1, q.2.1, q.2.2, bg, 0, once', R) := by
                unfold f_X9_statement
                rw [r_sees hL g7, zB1_s]
                dsimp only
                rw [v3', zB1_s]
                dsimp only
                rw [if_pos z0, v5', zB1_s]
                dsimp only
                rw [if_pos z0, v6'', zB1_s]
                dsimp only
                rw [if_pos z0, y8, zB1_s]
                dsimp only
                rw [if_neg one_ne, o1, zB1_s]
                dsimp only
                rw [if_pos z0]
              exact st_fin hX (m := m) (ow := ow) c6' c9' (Or.inr ⟨by decide, rfl, rfl, tk_sf g8⟩) (fun z => absurd z (by decide))
          · have v7' : f_X9_takes (jI L) (jI s) 0 X 21 = some (0, jI s) := v7
            have c6' : f_X6_readStatement (jI L) a k (jI s) v 0 (-1) ht hr T (jI n) pa re li da ra lk sg th (jI np) L C ic fi pr qu pg = some (a, k, jI s, v, -2, jI s, ht, hr, jI n, pa, re, li, da, ra, lk, sg, th, jI np, C, ic, fi, pr, qu, pg) := by
              unfold f_X6_readStatement
              rw [u3, zB1_s, if_pos z0, u5, zB1_s, if_pos z0, u6, zB1_s, if_pos z0]
              unfold f_X6_readStatement_77
              rw [u7, zB1_s, if_pos z0, failAt_0, zB1_s]
            have c9' : f_X9_statement (jI L) (jI q) 0 pl bg 0 once R X = zB1 (f_X9_wants (jI L) (jI s) (-2) (jI s) X (59 : Int32)) fun q => some (q.1, q.2.1, q.2.2, bg, 0, once, R) := by
              unfold f_X9_statement
              rw [r_sees hL g7, zB1_s]
              dsimp only
              rw [v3', zB1_s]
              dsimp only
              rw [if_pos z0, v5', zB1_s]
              dsimp only
              rw [if_pos z0, v6'', zB1_s]
              dsimp only
              rw [if_pos z0, v7', zB1_s]
              dsimp only
              rw [if_pos z0, fails_0, zB1_s]
            exact st_fin hX (m := m) (ow := ow) c6' c9' (Or.inr ⟨by decide, rfl, rfl, tk_sf g8⟩) (fun z => absurd z (by decide))
  · exact absurd rfl g1
end TEXT
