/-! layer 3: the statements of a setup text, read here and there -/
section STMT
variable {L : Nat} {T X : Nat → Int32}
def CR (pa re li da ra lk sg : Nat → Int32) (R : Nat → Int64) (c : Nat) : Prop := zeq (R (20 + 26 * c)) (pa c) (-1) (c - 1) ∧ zeq (R (20 + 26 * c + 1)) (re c) 0 20 ∧ zeq (R (20 + 26 * c + 2)) (li c) 0 20 ∧ zeq (R (20 + 26 * c + 3)) (da c) 0 60 ∧ zeq (R (20 + 26 * c + 4)) (ra c) 0 3 ∧ zeq (R (20 + 26 * c + 5)) (lk c) 0 1 ∧ zeq (R (20 + 26 * c + 6)) (sg c) 0 2
def DC (n : Nat) (pa re li da ra lk sg : Nat → Int32) (R : Nat → Int64) : Prop := 1 ≤ n ∧ n ≤ 8 ∧ R 0 = jL n ∧ ∀ c, c < n → CR pa re li da ra lk sg R c
def IR (n : Nat) (ic fi pr qu pg : Nat → Int32) (R : Nat → Int64) (c ni : Nat) : Prop := ni ≤ 6 ∧ (n ≤ c → ni = 0) ∧ ic c = jI ni ∧ R (20 + 26 * c + 7) = jL ni ∧ ∀ i, i < ni → zeq (R (20 + 26 * c + 8 + 3 * i)) (fi (c * 6 + i)) 1 999 ∧ zeq (R (20 + 26 * c + 8 + 3 * i + 1)) (pr (c * 6 + i)) 0 9999 ∧ qu (c * 6 + i) = fi (c * 6 + i) ∧ pg (c * 6 + i) = 0
def DI (n : Nat) (ic fi pr qu pg : Nat → Int32) (R : Nat → Int64) : Prop := ∀ c, c < 8 → ∃ ni, IR n ic fi pr qu pg R c ni
def Zr (R : Nat → Int64) (ow : Int64) : Prop := (R 1 = 0 ∧ R 4 = 0 ∧ R 5 = 0 ∧ R 6 = 0) ∧ R 8 = ow ∧ (∀ k, 1 ≤ k → k < 9 → R (8 + k) = 0) ∧ (∀ c, c < 8 → R (20 + 26 * c + 6) = 0) ∧ (∀ c i, c < 8 → i < 6 → R (20 + 26 * c + 8 + 3 * i + 2) = 0)
def DK (hr : Int32) (np : Nat) (C : Nat → Int32) (R : Nat → Int64) : Prop := Pc np C R ∧ ((hr = 0 ∧ np = 0) ∨ (hr = 1 ∧ kD C np = some 1))
def On (ht hr once : Int32) : Prop := (ht = 0 ∨ ht = 1) ∧ (hr = 0 ∨ hr = 1) ∧ once = ht + 2 * hr
def Dr (n : Nat) (pa re li da ra lk sg : Nat → Int32) (th : Int32) (np : Nat) (C ic fi pr qu pg : Nat → Int32) (R : Nat → Int64) (ow : Int64) (ht hr once : Int32) : Prop := DC n pa re li da ra lk sg R ∧ DI n ic fi pr qu pg R ∧ zeq (R 2) th 0 100 ∧ DK hr np C R ∧ Zr R ow ∧ On ht hr once
theorem zR_z {α β : Type} {n : Nat} {f : Nat → α} {K : α → Option β} (h : 0 < n) (hn : n ≤ 2147483648) : zR n f (0 : Int32) K = K (f 0) := zR_n (k := 0) h hn
theorem I_rng {x : Int32} {n : Nat} (h0 : 0 ≤ x.toInt) (h1 : x.toInt ≤ (n : Int) - 1) (hn : n ≤ 1000) : ∃ c, c < n ∧ x = jI c := by
  have e : (0 : Int32).toInt = 0 := rfl
  have e2 := jI_toInt (k := n) (by omega)
  exact I_nat (n := n) (fun z => by have := i32_lt.mp z; omega) (i32_lt.mpr (by omega)) (by omega)
theorem jI_mm1 {n : Nat} (hn : n ≤ 1000) : (jI n - (1 : Int32)).toInt = (n : Int) - 1 := by
  have e := jI_toInt (k := n) (by omega)
  have e' : (1 : Int32).toInt = 1 := rfl
  rw [I_sub (by rw [e, e']; omega) (by rw [e, e']; omega), e, e']
theorem hcc (n : Nat) : (20 : Int32) + (26 : Int32) * jI n = jI (20 + 26 * n) := by rw [jI_20, jI_26, jI_mul, jI_add]
/-! a subcontract -/
def srow (R : Nat → Int64) (n : Nat) (y1 y2 y3 y4 y5 : Int64) : Nat → Int64 := vp_updL (vp_updL (vp_updL (vp_updL (vp_updL R (20 + 26 * n) y1) (20 + 26 * n + 1) y2) (20 + 26 * n + 2) y3) (20 + 26 * n + 3) y4) (20 + 26 * n + 4) y5
def srw (R : Nat → Int64) (n : Nat) (y1 y2 y3 y4 y5 z : Int64) : Nat → Int64 := vp_updL (vp_updL (srow R n y1 y2 y3 y4 y5) (20 + 26 * n + 5) z) 0 (jL (n + 1))
theorem r_s95 {n : Nat} (hn : n < 8) {R : Nat → Int64} (h0 : R 0 = jL n) (nx e pl bg : Int32) (y1 y2 y3 y4 y5 z : Int64) : f_X9_subLine_95 nx e pl bg (srow R n y1 y2 y3 y4 y5) (jI (20 + 26 * n + 5)) z = some (nx, e, pl, bg, srw R n y1 y2 y3 y4 y5 z) := by
  unfold f_X9_subLine_95 srw
  have h1 : vp_updL (srow R n y1 y2 y3 y4 y5) (20 + 26 * n + 5) z 0 = jL n := by
    unfold srow
    rw [updL_ne (by omega), updL_ne (by omega), updL_ne (by omega), updL_ne (by omega), updL_ne (by omega), updL_ne (by omega)]
    exact h0
  have h2 : jL n + (1 : Int64) = jL (n + 1) := by rw [jL_1, jL_add]
  rw [zSl_n (by omega) (by omega), zR_z (by omega) (by omega), h1, h2, zSl_0 (by omega) (by omega)]
theorem k_cadd {n : Nat} (hn : n < 8) (pa re li da ra lk sg : Nat → Int32) (x1 x2 x3 x4 x5 x6 : Int32) (h6 : x6 = 0 ∨ x6 = 1) : f_X1_add (jI n) pa re li da ra lk sg x1 x2 x3 x4 x5 x6 = some (jI (n + 1), upd pa n x1, upd re n x2, upd li n x3, upd da n x4, upd ra n x5, upd lk n x6, upd sg n 0) := by
  unfold f_X1_add
  rw [if_pos (show jI n < (8 : Int32) from (jI_lt (a := n) (b := 8) (by omega) (by omega)).mpr hn), zSi_n hn (by omega), zSi_n hn (by omega), zSi_n hn (by omega), zSi_n hn (by omega), zSi_n hn (by omega), zSi_n hn (by omega), zSi_n hn (by omega), nar01 h6, jI_1, jI_add]
theorem takes_e {e : Int32} (h : ¬ e = 0) (s p : Int32) (i : Nat) : f_X9_takes s p e X i = some (0, p) := if_neg h
theorem cs_sf {m : Nat} {a k st v e ea nx er pl : Int32} (h : CS L X m a k st v e ea nx er pl) : Sf L a st := by
  rcases h with ⟨-, -, -, s, q, -, h5, -, -, h8⟩ | ⟨-, -, -, h4⟩
  · rw [h5]
    exact tk_sf h8
  · exact h4
def SbO (L m n : Nat) (X : Nat → Int32) (pa re li da ra lk sg : Nat → Int32) (R : Nat → Int64) (r6 : Option (Int32 × Int32 × Int32 × Int32 × Int32 × Int32 × Int32 × (Nat → Int32) × (Nat → Int32) × (Nat → Int32) × (Nat → Int32) × (Nat → Int32) × (Nat → Int32) × (Nat → Int32))) (r9 : Option (Int32 × Int32 × Int32 × Int32 × (Nat → Int64))) : Prop := ∃ (a k st v e ea : Int32) (n' : Nat) (pa' re' li' da' ra' lk' sg' : Nat → Int32) (nx pl bg : Int32) (R' : Nat → Int64), r6 = some (a, k, st, v, e, ea, jI n', pa', re', li', da', ra', lk', sg') ∧ r9 = some (nx, e, pl, bg, R') ∧ CS L X m a k st v e ea nx e pl ∧ (e = 0 → n < 8 ∧ n' = n + 1 ∧ ∃ x1 x2 x3 x4 x5 x6 : Int32, (0 ≤ x1.toInt ∧ x1.toInt ≤ (n : Int) - 1) ∧ (0 ≤ x2.toInt ∧ x2.toInt ≤ 20) ∧ (0 ≤ x3.toInt ∧ x3.toInt ≤ 20) ∧ (0 ≤ x4.toInt ∧ x4.toInt ≤ 60) ∧ (0 ≤ x5.toInt ∧ x5.toInt ≤ 3) ∧ (x6 = 0 ∨ x6 = 1) ∧ (pa' = upd pa n x1 ∧ re' = upd re n x2 ∧ li' = upd li n x3 ∧ da' = upd da n x4 ∧ ra' = upd ra n x5 ∧ lk' = upd lk n x6 ∧ sg' = upd sg n 0) ∧ R' = srw R n x1.toInt64 x2.toInt64 x3.toInt64 x4.toInt64 x5.toInt64 x6.toInt64)
theorem sub_both (hX : Tx L T X) {m n e1 s : Nat} {a k v pl bg : Int32} {pa re li da ra lk sg : Nat → Int32} {R : Nat → Int64} (hn : n ≤ 8) (h0 : R 0 = jL n) (hs : m ≤ s) (h1 : s < e1) (h2 : e1 ≤ L) (ha : a = jI e1) : SbO L m n X pa re li da ra lk sg R (f_X6_readSub (jI L) a k (jI s) v 0 (-1) T (jI n) pa re li da ra lk sg) (f_X9_subLine (jI L) (jI e1) 0 pl bg R X (jI s)) := by
  have hL := hX.1
  have z0 : (0 : Int32) = 0 := rfl
  by_cases hn8 : n < 8
  · obtain ⟨s1, a1, k1, v1, b1, b2, b3⟩ := k_adv hX h2 k (jI s) v
    have hb1 := b1.1
    have cs1 : CS L X m a1 k1 (jI s1) v1 0 (-1) (jI e1) 0 pl := Or.inl ⟨rfl, rfl, rfl, s1, e1, by omega, rfl, rfl, b1, b2⟩
    have hh := jI_mm1 (n := n) (by omega)
    obtain ⟨x1, a2, k2, t2, v2, e2, ea2, y1, nx2, er2, pl2, bg2, i6, i9, i10, i11⟩ := num hX (lo := 0) (hi := jI n - 1) (by decide) (by decide) (by omega) bg cs1
    have xe := cs_er i10
    subst xe
    obtain ⟨x2, a3, k3, t3, v3, e3, ea3, y2, nx3, er3, pl3, bg3, j6, j9, j10, j11⟩ := num hX (lo := 0) (hi := 20) (by decide) (by decide) (by decide) bg2 i10
    have xe := cs_er j10
    subst xe
    obtain ⟨x3, a4, k4, t4, v4, e4, ea4, y3, nx4, er4, pl4, bg4, l6, l9, l10, l11⟩ := num hX (lo := 0) (hi := 20) (by decide) (by decide) (by decide) bg3 j10
    have xe := cs_er l10
    subst xe
    obtain ⟨x4, a5, k5, t5, v5, e5, ea5, y4, nx5, er5, pl5, bg5, m6, m9, m10, m11⟩ := num hX (lo := 0) (hi := 60) (by decide) (by decide) (by decide) bg4 l10
    have xe := cs_er m10
    subst xe
    obtain ⟨x5, a6, k6, t6, v6, e6, ea6, y5, nx6, er6, pl6, bg6, n6, n9, n10, n11⟩ := num hX (lo := 0) (hi := 3) (by decide) (by decide) (by decide) bg5 m10
    have xe := cs_er n10
    subst xe
    have c6 : f_X6_readSub (jI L) a k (jI s) v 0 (-1) T (jI n) pa re li da ra lk sg = zB1 (f_X6_isWord a6 k6 t6 T 4) fun q_84 => if q_84 = 0 then (f_X6_readSub_98 a6 k6 t6 v6 er6 ea6 (jI n) pa re li da ra lk sg x1 x2 x3 x4 x5 q_84) else (zB1 (f_X6_advance (jI L) a6 k6 t6 v6 T) fun q_95 => f_X6_readSub_98 q_95.1 q_95.2.1 q_95.2.2.1 q_95.2.2.2 er6 ea6 (jI n) pa re li da ra lk sg x1 x2 x3 x4 x5 q_84) := by
      unfold f_X6_readSub
      rw [if_pos (show jI n < (8 : Int32) from (jI_lt (a := n) (b := 8) (by omega) (by omega)).mpr hn8), ha, b3, zB1_s]
      dsimp only
      rw [i6, zB1_s]
      dsimp only
      rw [j6, zB1_s]
      dsimp only
      rw [l6, zB1_s]
      dsimp only
      rw [m6, zB1_s]
      dsimp only
      rw [n6, zB1_s]
    have c9 : f_X9_subLine (jI L) (jI e1) 0 pl bg R X (jI s) = zB1 (f_X9_takes (jI L) nx6 er6 X 18) fun q_84 => if q_84.1 = 0 then (f_X9_subLine_95 q_84.2 er6 pl6 bg6 (srow R n y1.toInt64 y2.toInt64 y3.toInt64 y4.toInt64 y5.toInt64) (jI (20 + 26 * n + 5)) 0) else (f_X9_subLine_95 q_84.2 er6 pl6 bg6 (srow R n y1.toInt64 y2.toInt64 y3.toInt64 y4.toInt64 y5.toInt64) (jI (20 + 26 * n + 5)) 1) := by
      have o1 : jI (20 + 26 * n) + (1 : Int32) = jI (20 + 26 * n + 1) := by rw [jI_1, jI_add]
      have o2 : jI (20 + 26 * n) + (2 : Int32) = jI (20 + 26 * n + 2) := by rw [jI_2, jI_add]
      have o3 : jI (20 + 26 * n) + (3 : Int32) = jI (20 + 26 * n + 3) := by rw [jI_3, jI_add]
      have o4 : jI (20 + 26 * n) + (4 : Int32) = jI (20 + 26 * n + 4) := by rw [jI_4, jI_add]
      have o5 : jI (20 + 26 * n) + (5 : Int32) = jI (20 + 26 * n + 5) := by rw [jI_5, jI_add]
      unfold f_X9_subLine
      rw [zR_z (by omega) (by omega), h0, jL_I, if_neg (fun z => by have := (jI_eq (a := n) (b := 8) (by omega) (by omega)).mp z; omega)]
      unfold f_X9_subLine_21
      rw [if_pos z0, i9, zB1_s, hcc, o4, o5, I_add0]
      dsimp only
      rw [zSl_n (by omega) (by omega)]
      unfold f_X9_terms
      rw [o1, o2, o3, j9, zB1_s]
      dsimp only
      rw [zSl_n (by omega) (by omega), l9, zB1_s]
      dsimp only
      rw [zSl_n (by omega) (by omega), m9, zB1_s]
      dsimp only
      rw [zSl_n (by omega) (by omega), zB1_s]
      dsimp only
      rw [n9, zB1_s]
      dsimp only
      rw [zSl_n (by omega) (by omega)]
      rfl
    have s8 : ∀ (a b c d e f g : Int32), ¬ e = 0 → f_X6_readSub_98 a b c d e f (jI n) pa re li da ra lk sg x1 x2 x3 x4 x5 g = some (a, b, c, d, e, f, jI n, pa, re, li, da, ra, lk, sg) := fun a b c d e f g h => if_neg h
    rw [c6, c9]
    by_cases he : er6 = 0
    · subst he
      have p5 := n11 rfl
      have p4 := m11 p5.1
      have p3 := l11 p4.1
      have p2 := j11 p3.1
      have p1 := i11 p2.1
      have q5 := p5.2.1
      have q4 := p4.2.1
      have q3 := p3.2.1
      have q2 := p2.2.1
      have q1 := p1.2.1
      subst q5 q4 q3 q2 q1
      have fin : ∀ (w : Int32) (w' : Int64), (w = 0 ∨ w = 1) → w' = w.toInt64 → ∀ (a7 k7 t7 v7 nx7 : Int32), CS L X m a7 k7 t7 v7 0 (-1) nx7 0 pl6 → SbO L m n X pa re li da ra lk sg R (f_X6_readSub_98 a7 k7 t7 v7 0 (-1) (jI n) pa re li da ra lk sg y1 y2 y3 y4 y5 w) (f_X9_subLine_95 nx7 0 pl6 bg6 (srow R n y1.toInt64 y2.toInt64 y3.toInt64 y4.toInt64 y5.toInt64) (jI (20 + 26 * n + 5)) w') := by
        intro w w' hw hw' a7 k7 t7 v7 nx7 hc
        subst hw'
        unfold f_X6_readSub_98
        rw [if_pos z0, k_cadd hn8 pa re li da ra lk sg y1 y2 y3 y4 y5 w hw, zB1_s, r_s95 hn8 h0]
        refine ⟨a7, k7, t7, v7, 0, -1, n + 1, _, _, _, _, _, _, _, nx7, pl6, bg6, _, rfl, rfl, hc, fun _ => ⟨hn8, rfl, y1, y2, y3, y4, y5, w, ⟨p1.2.2.1, ?_⟩, ⟨p2.2.2.1, p2.2.2.2.1⟩, ⟨p3.2.2.1, p3.2.2.2.1⟩, ⟨p4.2.2.1, p4.2.2.2.1⟩, ⟨p5.2.2.1, p5.2.2.2.1⟩, hw, ⟨rfl, rfl, rfl, rfl, rfl, rfl, rfl⟩, rfl⟩⟩
        have := p1.2.2.2.1
        omega
      rcases n10 with ⟨-, -, w3, s6, q6, w4, w5, w6, w7, w8⟩ | ⟨w1, -⟩
      · subst w3 w5 w6
        rcases wordP hX (i := 4) (by omega) (by omega) w7 w8 with ⟨e, d1, d2, d3, d4, d5, d6, d7⟩ | ⟨u4, v4'⟩
        · have d8 : f_X9_takes (jI L) (jI q6) 0 X 18 = some (1, jI e) := d7
          obtain ⟨s7, a7, k7, v7, b4, b5, b6⟩ := k_adv hX d2 k6 (jI s6) v6
          have hb4 := b4.1
          rw [d6, zB1_s, if_neg one_ne, d5, b6, zB1_s, d8, zB1_s]
          dsimp only
          rw [if_neg one_ne]
          exact fin 1 1 (Or.inr rfl) (by decide) a7 k7 (jI s7) v7 (jI e) (Or.inl ⟨rfl, rfl, rfl, s7, e, by omega, rfl, rfl, b4, b5⟩)
        · have d8 : f_X9_takes (jI L) (jI q6) 0 X 18 = some (0, jI s6) := v4'
          rw [u4, zB1_s, if_pos z0, d8, zB1_s]
          dsimp only
          rw [if_pos z0]
          exact fin 0 0 (Or.inl rfl) (by decide) a6 k6 (jI s6) v6 (jI s6) (Or.inl ⟨rfl, rfl, rfl, s6, s6, by omega, rfl, rfl, rn_self w7.2.1 w7.2.2.2, w8⟩)
      · exact absurd rfl w1
    · have sf := cs_sf n10
      have ep : pl6 = ea6 := by
        rcases n10 with ⟨w1, -⟩ | ⟨-, -, w3, -⟩
        · exact absurd w1 he
        · exact w3
      rw [takes_e he, zB1_s]
      dsimp only
      rw [if_pos z0, r_s95 hn8 h0]
      rcases k_isWord_sf (k := k6) hX (i := 4) (by omega) (by omega) sf with w | w
      · rw [w, zB1_s, if_pos z0, s8 _ _ _ _ _ _ _ he]
        exact ⟨a6, k6, t6, v6, er6, ea6, n, _, _, _, _, _, _, _, nx6, pl6, bg6, _, rfl, rfl, Or.inr ⟨he, rfl, ep, sf⟩, fun z => absurd z he⟩
      · obtain ⟨a', s', f1, f2, f3, f4⟩ := sf
        obtain ⟨s7, a7, k7, v7, b4, b5, b6⟩ := k_adv hX f3 k6 t6 v6
        rw [w, zB1_s, if_neg one_ne, f1, b6, zB1_s, s8 _ _ _ _ _ _ _ he]
        exact ⟨a7, k7, jI s7, v7, er6, ea6, n, _, _, _, _, _, _, _, nx6, pl6, bg6, _, rfl, rfl, Or.inr ⟨he, rfl, ep, tk_sf b5⟩, fun z => absurd z he⟩
  · have c6 : f_X6_readSub (jI L) a k (jI s) v 0 (-1) T (jI n) pa re li da ra lk sg = some (a, k, jI s, v, -4, jI s, jI n, pa, re, li, da, ra, lk, sg) := by
      unfold f_X6_readSub
      rw [if_neg (fun z => by have := (jI_lt (a := n) (b := 8) (by omega) (by omega)).mp z; omega), failAt_0, zB1_s]
    have c9 : f_X9_subLine (jI L) (jI e1) 0 pl bg R X (jI s) = some (jI e1, -4, jI s, bg, R) := by
      unfold f_X9_subLine
      rw [zR_z (by omega) (by omega), h0, jL_I, if_pos (show jI n = (8 : Int32) from (jI_eq (a := n) (b := 8) (by omega) (by omega)).mpr (by omega)), fails_0, zB1_s]
      exact if_neg (show ¬ (-4 : Int32) = 0 by decide)
    rw [c6, c9]
    exact ⟨a, k, jI s, v, -4, jI s, n, _, _, _, _, _, _, _, jI e1, jI s, bg, _, rfl, rfl, Or.inr ⟨by decide, rfl, rfl, e1, s, ha, rfl, h2, by omega⟩, fun z => absurd z (by decide)⟩
/-! an item -/
def irw (R : Nat → Int64) (c ni : Nat) (y1 y2 : Int64) : Nat → Int64 := vp_updL (vp_updL (vp_updL R (20 + 26 * c + 8 + 3 * ni) y1) (20 + 26 * c + 8 + 3 * ni + 1) y2) (20 + 26 * c + 7) (jL (ni + 1))
theorem k_iadd {c ni : Nat} (hc : c < 8) (hni : ni < 6) {ic : Nat → Int32} (h : ic c = jI ni) (fi pr qu pg : Nat → Int32) (x1 x2 : Int32) : f_X2_add ic fi pr qu pg (jI c) x1 x2 = some (upd ic c (jI (ni + 1)), upd fi (c * 6 + ni) x1, upd pr (c * 6 + ni) x2, upd qu (c * 6 + ni) x1, upd pg (c * 6 + ni) 0) := by
  have e1 : f_X2_slotOf (jI c) (jI ni) = some (jI (c * 6 + ni)) := by
    unfold f_X2_slotOf
    rw [jI_6, jI_mul, jI_add]
  have e2 : jI ni + (1 : Int32) = jI (ni + 1) := by rw [jI_1, jI_add]
  unfold f_X2_add
  rw [zR_n hc (by omega), h, if_pos (show jI ni < (6 : Int32) from (jI_lt (a := ni) (b := 6) (by omega) (by omega)).mpr hni), zR_n hc (by omega), h, e1, zB1_s, zSi_n (by omega) (by omega), zSi_n (by omega) (by omega), zSi_n (by omega) (by omega), zSi_n (by omega) (by omega), zR_n hc (by omega), h, e2, zSi_n hc (by omega)]
def ItO (L m n : Nat) (X : Nat → Int32) (ic fi pr qu pg : Nat → Int32) (R : Nat → Int64) (r6 : Option (Int32 × Int32 × Int32 × Int32 × Int32 × Int32 × (Nat → Int32) × (Nat → Int32) × (Nat → Int32) × (Nat → Int32) × (Nat → Int32))) (r9 : Option (Int32 × Int32 × Int32 × Int32 × (Nat → Int64))) : Prop := ∃ (a k st v e ea : Int32) (ic' fi' pr' qu' pg' : Nat → Int32) (nx pl bg : Int32) (R' : Nat → Int64), r6 = some (a, k, st, v, e, ea, ic', fi', pr', qu', pg') ∧ r9 = some (nx, e, pl, bg, R') ∧ CS L X m a k st v e ea nx e pl ∧ (e = 0 → ∃ (c ni : Nat) (x1 x2 : Int32), c < n ∧ ni < 6 ∧ ic c = jI ni ∧ (1 ≤ x1.toInt ∧ x1.toInt ≤ 999) ∧ (0 ≤ x2.toInt ∧ x2.toInt ≤ 9999) ∧ (ic' = upd ic c (jI (ni + 1)) ∧ fi' = upd fi (c * 6 + ni) x1 ∧ pr' = upd pr (c * 6 + ni) x2 ∧ qu' = upd qu (c * 6 + ni) x1 ∧ pg' = upd pg (c * 6 + ni) 0) ∧ R' = irw R c ni x1.toInt64 x2.toInt64)
theorem k_ie {e : Int32} (he : ¬ e = 0) (a k st v ea x : Int32) (ic fi pr qu pg : Nat → Int32) : f_X6_readItem_58 (jI L) a k st v e ea T ic fi pr qu pg x = some (a, k, st, v, e, ea, ic, fi, pr, qu, pg) := by
  unfold f_X6_readItem_58
  rw [tn_err he, zB1_s]
  dsimp only
  rw [tn_err he, zB1_s]
  exact if_neg he
theorem item_both (hX : Tx L T X) {m n e1 s : Nat} {a k v pl bg : Int32} {ic fi pr qu pg : Nat → Int32} {R : Nat → Int64} (hn : n ≤ 8) (h0 : R 0 = jL n) (hI : DI n ic fi pr qu pg R) (hs : m ≤ s) (h1 : s < e1) (h2 : e1 ≤ L) (ha : a = jI e1) : ItO L m n X ic fi pr qu pg R (f_X6_readItem (jI L) a k (jI s) v 0 (-1) T (jI n) ic fi pr qu pg) (f_X9_itemLine (jI L) (jI e1) 0 pl bg R X) := by
  have hL := hX.1
  have z0 : (0 : Int32) = 0 := rfl
  obtain ⟨s1, a1, k1, v1, b1, b2, b3⟩ := k_adv hX h2 k (jI s) v
  have hb1 := b1.1
  have cs1 : CS L X m a1 k1 (jI s1) v1 0 (-1) (jI e1) 0 pl := Or.inl ⟨rfl, rfl, rfl, s1, e1, by omega, rfl, rfl, b1, b2⟩
  have hh := jI_mm1 (n := n) (by omega)
  obtain ⟨x1, a2, k2, t2, v2, e2, ea2, y1, nx2, er2, pl2, bg2, i6, i9, i10, i11⟩ := num hX (lo := 0) (hi := jI n - 1) (by decide) (by decide) (by omega) bg cs1
  have xe := cs_er i10
  subst xe
  by_cases he : er2 = 0
  · subst he
    obtain ⟨-, q2, q3, q4, q5, q6⟩ := i11 rfl
    subst q2 q5
    rw [hh] at q4
    obtain ⟨c, hc, ec⟩ := I_rng (n := n) q3 q4 (by omega)
    subst ec
    obtain ⟨ni, u1, u2, u3, u4, u5⟩ := hI c (by omega)
    have ea : ea2 = -1 := by
      rcases i10 with ⟨-, -, w3, -⟩ | ⟨w1, -⟩
      · exact w3
      · exact absurd rfl w1
    subst ea
    have o7 : jI (20 + 26 * c) + (7 : Int32) = jI (20 + 26 * c + 7) := by rw [jI_7, jI_add]
    by_cases h6 : ni < 6
    · obtain ⟨x2, a3, k3, t3, v3, e3, ea3, y2, nx3, er3, pl3, bg3, j6, j9, j10, j11⟩ := num hX (lo := 1) (hi := 999) (by decide) (by decide) (by decide) (jI s1) i10
      have xe := cs_er j10
      subst xe
      obtain ⟨x3, a4, k4, t4, v4, e4, ea4, y3, nx4, er4, pl4, bg4, l6, l9, l10, l11⟩ := num hX (lo := 0) (hi := 9999) (by decide) (by decide) (by decide) bg3 j10
      have xe := cs_er l10
      subst xe
      have c6 : f_X6_readItem (jI L) a k (jI s) v 0 (-1) T (jI n) ic fi pr qu pg = if er4 = 0 then (zB1 (f_X2_add ic fi pr qu pg (jI c) x2 x3) fun q_95 => some (a4, k4, t4, v4, er4, ea4, q_95.1, q_95.2.1, q_95.2.2.1, q_95.2.2.2.1, q_95.2.2.2.2)) else some (a4, k4, t4, v4, er4, ea4, ic, fi, pr, qu, pg) := by
        unfold f_X6_readItem
        rw [ha, b3, zB1_s]
        dsimp only
        rw [i6, zB1_s]
        dsimp only
        rw [if_pos z0, zR_n (by omega) (by omega), u3, if_pos (show jI ni < (6 : Int32) from (jI_lt (a := ni) (b := 6) (by omega) (by omega)).mpr h6)]
        unfold f_X6_readItem_58
        rw [j6, zB1_s]
        dsimp only
        rw [l6, zB1_s]
      have c9 : f_X9_itemLine (jI L) (jI e1) 0 pl bg R X = some (nx4, er4, pl4, bg4, irw R c ni y2.toInt64 y3.toInt64) := by
        have o8 : jI (20 + 26 * c) + (8 : Int32) + (3 : Int32) * jI ni = jI (20 + 26 * c + 8 + 3 * ni) := by rw [jI_8, jI_3, jI_add, jI_mul, jI_add]
        have o9 : jI (20 + 26 * c + 8 + 3 * ni) + (1 : Int32) = jI (20 + 26 * c + 8 + 3 * ni + 1) := by rw [jI_1, jI_add]
        have r7 : ∀ z w, vp_updL (vp_updL R (20 + 26 * c + 8 + 3 * ni) z) (20 + 26 * c + 8 + 3 * ni + 1) w (20 + 26 * c + 7) = jL ni := fun z w => by
          rw [updL_ne (by omega), updL_ne (by omega)]
          exact u4
        have h2 : jL ni + (1 : Int64) = jL (ni + 1) := by rw [jL_1, jL_add]
        unfold f_X9_itemLine
        rw [zR_z (by omega) (by omega), h0, jL_I, i9, zB1_s]
        dsimp only
        rw [if_pos z0, hcc, o7, zR_n (by omega) (by omega), u4, if_neg (fun z => by have := (jL_eq (a := ni) (b := 6) (by omega) (by omega)).mp z; omega)]
        unfold f_X9_itemLine_54
        rw [if_pos z0, o7, zR_n (by omega) (by omega), u4, j9, zB1_s]
        dsimp only
        rw [jL_I, o8, zSl_n (by omega) (by omega), l9, zB1_s]
        dsimp only
        rw [o9, zSl_n (by omega) (by omega), zR_n (by omega) (by omega), r7, h2, zSl_n (by omega) (by omega)]
        rfl
      have csm := cs_le l10 (show m ≤ m + 1 + 1 + 1 by omega)
      rw [c6, c9]
      by_cases he : er4 = 0
      · subst he
        have p3 := l11 rfl
        have p2 := j11 p3.1
        have g3 := p3.2.1
        have g2 := p2.2.1
        subst g3 g2
        rw [if_pos z0, k_iadd (by omega) h6 u3, zB1_s]
        exact ⟨a4, k4, t4, v4, 0, ea4, _, _, _, _, _, nx4, pl4, bg4, _, rfl, rfl, csm, fun _ => ⟨c, ni, y2, y3, hc, h6, u3, ⟨p2.2.2.1, p2.2.2.2.1⟩, ⟨p3.2.2.1, p3.2.2.2.1⟩, ⟨rfl, rfl, rfl, rfl, rfl⟩, rfl⟩⟩
      · rw [if_neg he]
        exact ⟨a4, k4, t4, v4, er4, ea4, _, _, _, _, _, nx4, pl4, bg4, _, rfl, rfl, csm, fun z => absurd z he⟩
    · have n6 : ni = 6 := by omega
      subst n6
      have sf := cs_sf i10
      have c6 : f_X6_readItem (jI L) a k (jI s) v 0 (-1) T (jI n) ic fi pr qu pg = some (a2, k2, t2, v2, -4, jI s1, ic, fi, pr, qu, pg) := by
        unfold f_X6_readItem
        rw [ha, b3, zB1_s]
        dsimp only
        rw [i6, zB1_s]
        dsimp only
        rw [if_pos z0, zR_n (by omega) (by omega), u3, if_neg (show ¬ jI 6 < (6 : Int32) by decide), failAt_0, zB1_s]
        exact k_ie (show ¬ (-4 : Int32) = 0 by decide) _ _ _ _ _ _ _ _ _ _ _
      have c9 : f_X9_itemLine (jI L) (jI e1) 0 pl bg R X = some (nx2, -4, jI s1, jI s1, R) := by
        unfold f_X9_itemLine
        rw [zR_z (by omega) (by omega), h0, jL_I, i9, zB1_s]
        dsimp only
        rw [if_pos z0, hcc, o7, zR_n (by omega) (by omega), u4, if_pos (show jL 6 = (6 : Int64) from rfl), fails_0, zB1_s]
        exact if_neg (show ¬ (-4 : Int32) = 0 by decide)
      rw [c6, c9]
      exact ⟨a2, k2, t2, v2, -4, jI s1, _, _, _, _, _, nx2, jI s1, jI s1, _, rfl, rfl, Or.inr ⟨by decide, rfl, rfl, sf⟩, fun z => absurd z (by decide)⟩
  · have sf := cs_sf i10
    have ep : pl2 = ea2 := by
      rcases i10 with ⟨w1, -⟩ | ⟨-, -, w3, -⟩
      · exact absurd w1 he
      · exact w3
    have c6 : f_X6_readItem (jI L) a k (jI s) v 0 (-1) T (jI n) ic fi pr qu pg = some (a2, k2, t2, v2, er2, ea2, ic, fi, pr, qu, pg) := by
      unfold f_X6_readItem
      rw [ha, b3, zB1_s]
      dsimp only
      rw [i6, zB1_s]
      dsimp only
      rw [if_neg he]
      exact k_ie he _ _ _ _ _ _ _ _ _ _ _
    have c9 : f_X9_itemLine (jI L) (jI e1) 0 pl bg R X = some (nx2, er2, pl2, bg2, R) := by
      unfold f_X9_itemLine
      rw [zR_z (by omega) (by omega), h0, jL_I, i9, zB1_s]
      dsimp only
      rw [if_neg he]
      exact if_neg he
    rw [c6, c9]
    exact ⟨a2, k2, t2, v2, er2, ea2, _, _, _, _, _, nx2, pl2, bg2, _, rfl, rfl, Or.inr ⟨he, rfl, ep, sf⟩, fun z => absurd z he⟩
end STMT
