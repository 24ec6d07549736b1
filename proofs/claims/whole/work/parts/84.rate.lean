/-! layer 3: the rate expression, read here and there -/
section RATE
variable {L : Nat} {T X : Nat → Int32}
theorem cs_er {m : Nat} {a k st v e ea nx er pl : Int32} (h : CS L X m a k st v e ea nx er pl) : er = e := by
  rcases h with ⟨h1, h2, -⟩ | ⟨-, h2, -⟩
  · rw [h1, h2]
  · exact h2
theorem cs_m {m : Nat} {a k st v ea nx er pl : Int32} (h : CS L X m a k st v 0 ea nx er pl) : m ≤ L := by
  rcases h with ⟨-, -, -, s, q, h4, -, -, -, h8⟩ | ⟨h1, -⟩
  · have := h8.2.1
    omega
  · exact absurd rfl h1
def Pc (n : Nat) (C : Nat → Int32) (R : Nat → Int64) : Prop := n ≤ 900 ∧ R 3 = jL (2 * n) ∧ ∀ j, j < n → kR (C j) (R (600 + 2 * j)) (R (600 + 2 * j + 1))
def Fr (R' R : Nat → Int64) : Prop := ∀ q, q < 600 → q ≠ 3 → R' q = R q
def pcR (R : Nat → Int64) (n : Nat) (a v : Int64) : Nat → Int64 := vp_updL (vp_updL (vp_updL R (600 + 2 * n) a) (600 + 2 * n + 1) v) 3 (jL (2 * (n + 1)))
theorem k_add1 {n : Nat} (h9 : L ≤ 900) (hn : n < L) (C : Nat → Int32) (x : Int32) : f_X4_add (jI n) L C x = some (jI (n + 1), upd C n x) := by
  unfold f_X4_add
  rw [if_neg (fun z => by have := (jI_le (a := L) (b := n) (by omega) (by omega)).mp z; omega), zSi_n hn (by omega), jI_1, jI_add]
theorem k_add0 {n : Nat} (h9 : L ≤ 900) (hn : n ≤ 900) (C : Nat → Int32) (x : Int32) : ∃ n' C', f_X4_add (jI n) L C x = some (jI n', C') ∧ n' ≤ 900 := by
  by_cases h : n < L
  · exact ⟨n + 1, _, k_add1 h9 h C x, by omega⟩
  · refine ⟨n, C, ?_, hn⟩
    unfold f_X4_add
    rw [if_pos (show Int32.ofNat L ≤ jI n from (jI_le (a := L) (b := n) (by omega) (by omega)).mpr (by omega))]
theorem r_codes {n : Nat} (hn : n < 900) {R : Nat → Int64} (h3 : R 3 = jL (2 * n)) (a v : Int32) : f_X9_codes 0 R a v = some (pcR R n a.toInt64 v.toInt64) := by
  unfold f_X9_codes pcR
  have e6 : (600 : Int32) + (jL (2 * n)).toInt32 = jI (600 + 2 * n) := by rw [jL_I, jI_600, jI_add]
  have e7 : jI (600 + 2 * n) + (1 : Int32) = jI (600 + 2 * n + 1) := by rw [jI_1, jI_add]
  have e8 : jL (2 * n) + (2 : Int64) = jL (2 * (n + 1)) := by
    rw [jL_2, jL_add]
    exact congrArg jL (by omega)
  have h4 : ∀ x, vp_updL R (600 + 2 * n) x 3 = jL (2 * n) := fun x => (updL_ne (by omega)).trans h3
  have h5 : ∀ x y, vp_updL (vp_updL R (600 + 2 * n) x) (600 + 2 * n + 1) y 3 = jL (2 * n) := fun x y => (updL_ne (by omega)).trans (h4 x)
  rw [if_pos (show (0 : Int32) = 0 from rfl), jI_3, zR_n (by omega) (by omega), h3, e6, zSl_n (by omega) (by omega), zR_n (by omega) (by omega), h4, e6, e7, zSl_n (by omega) (by omega), zR_n (by omega) (by omega), h5, e8, zSl_n (by omega) (by omega)]
theorem codes_e {e : Int32} (h : ¬ e = 0) (R : Nat → Int64) (a v : Int32) : f_X9_codes e R a v = some R := if_neg h
theorem fr_pc (R : Nat → Int64) (n : Nat) (a v : Int64) : Fr (pcR R n a v) R := fun q hq h3 => by
  unfold pcR
  rw [updL_ne h3, updL_ne (by omega), updL_ne (by omega)]
theorem fr_tr {R R' R'' : Nat → Int64} (h1 : Fr R'' R') (h2 : Fr R' R) : Fr R'' R := fun q hq h3 => (h1 q hq h3).trans (h2 q hq h3)
theorem Pc_push {n : Nat} {C : Nat → Int32} {R : Nat → Int64} {x : Int32} {a v : Int64} (hn : n < 900) (h : Pc n C R) (hk : kR x a v) : Pc (n + 1) (upd C n x) (pcR R n a v) := by
  unfold pcR
  refine ⟨by omega, updL_same _ _ _, fun j hj => ?_⟩
  by_cases c : j = n
  · subst c
    rw [upd_same, updL_ne (by omega), updL_ne (by omega), updL_same, updL_ne (by omega), updL_same]
    exact hk
  · rw [upd_ne c, updL_ne (by omega), updL_ne (by omega), updL_ne (by omega), updL_ne (by omega), updL_ne (by omega), updL_ne (by omega)]
    exact h.2.2 j (by omega)
theorem kD_n {n d : Nat} {C : Nat → Int32} (x : Int32) (h : kD C n = some d) : kD (upd C n x) (n + 1) = if x.toInt > -4 then (if d < 16 then some (d + 1) else none) else (if 2 ≤ d then some (d - 1) else none) := by
  show (kD (upd C n x) n).bind (fun d => if (upd C n x n).toInt > -4 then (if d < 16 then some (d + 1) else none) else (if 2 ≤ d then some (d - 1) else none)) = _
  rw [kD_congr n (fun j hj => upd_ne (show j ≠ n by omega)), h, upd_same]
  rfl
theorem kD_up1 {n d : Nat} {C : Nat → Int32} {x : Int32} (h : kD C n = some d) (hx : -4 < x.toInt) (hd : d < 16) : kD (upd C n x) (n + 1) = some (d + 1) := by
  rw [kD_n x h, if_pos hx, if_pos hd]
theorem kD_dn1 {n d : Nat} {C : Nat → Int32} {x : Int32} (h : kD C n = some (d + 2)) (hx : x.toInt ≤ -4) : kD (upd C n x) (n + 1) = some (d + 1) := by
  rw [kD_n x h, if_neg (by omega), if_pos (by omega)]
  rfl
/-- both readers of a part of the expression answer alike -/
def Rs (L : Nat) (X : Nat → Int32) (p m n d : Nat) (R : Nat → Int64) (r6 : Option (Int32 × Int32 × Int32 × Int32 × Int32 × Int32 × Int32 × (Nat → Int32))) (r9 : Option (Int32 × Int32 × Int32 × Int32 × Int32 × (Nat → Int64))) : Prop := ∃ (a k st v e ea : Int32) (n' : Nat) (C' : Nat → Int32) (nx pl bg : Int32) (R' : Nat → Int64) (m' : Nat), r6 = some (a, k, st, v, e, ea, jI n', C') ∧ r9 = some (nx, e, pl, bg, jI p, R') ∧ n' ≤ 900 ∧ m ≤ m' ∧ CS L X m' a k st v e ea nx e pl ∧ (e = 0 → n' + m ≤ n + m' ∧ Pc n' C' R' ∧ kD C' n' = some (d + 1) ∧ Fr R' R)
def RcS (L : Nat) (T X : Nat → Int32) (D : Nat) : Prop := ∀ (kk p m n d : Nat) (a k st v ea nx pl bg : Int32) (C : Nat → Int32) (R : Nat → Int64), kk ≤ 2 → p ≤ 4 → 15 ≤ D + kk + 3 * p → n ≤ m → CS L X m a k st v 0 ea nx 0 pl → Pc n C R → kD C n = some d → d ≤ 2 * p + kk → Rs L X p m n d R (f_X6_rec D kk (jI L) a k st v 0 ea T (jI n) L C (jI p)) (f_X9_rec D kk (jI L) nx 0 pl bg (jI p) R X)
theorem lp_Sum (hX : Tx L T X) {D : Nat} (hD : RcS L T X D) {p d m0 n0 : Nat} {R0 : Nat → Int64} (hp : p ≤ 4) (h15 : 15 ≤ D + 1 + 3 * p) (hd : d + 1 ≤ 2 * p + 1) : ∀ (r i m n z6 z9 : Nat) (a k st v e ea nx pl bg : Int32) (C : Nat → Int32) (R : Nat → Int64), L ≤ i + r → i ≤ m → r < z6 → r < z9 → n ≤ 900 → m0 ≤ m → CS L X m a k st v e ea nx e pl → (e = 0 → n ≤ m ∧ n + m0 ≤ n0 + m ∧ Pc n C R ∧ kD C n = some (d + 1) ∧ Fr R R0) → Rs L X p m0 n0 d R0 (f_X6_readSum_7 (f_X6_rec D) z6 (jI L) a k st v e ea T (jI n) L C (jI p) (jI i)) (f_X9_sum_4 (f_X9_rec D) z9 (jI L) nx e pl bg (jI p) R X) := by
  have hL := hX.1
  intro r
  induction r using Nat.strongRecOn with
  | ind r ih =>
    intro i m n z6 z9 a k st v e ea nx pl bg C R hi him hz6 hz9 hn hm hC hI
    obtain ⟨z6, rfl⟩ : ∃ y, z6 = y + 1 := ⟨z6 - 1, by omega⟩
    obtain ⟨z9, rfl⟩ : ∃ y, z9 = y + 1 := ⟨z9 - 1, by omega⟩
    have z0 : (0 : Int32) = 0 := rfl
    by_cases he : e = 0
    · subst he
      obtain ⟨i1, i2, i3, i4, i5⟩ := hI rfl
      rcases hC with ⟨-, -, g3, s, q, g4, g5, g6, g7, g8⟩ | ⟨g1, -⟩
      · subst g3 g5 g6
        obtain ⟨t1, t2, t3⟩ := id g8
        have hs2 : Rn spc L X s s := rn_self g7.2.1 g7.2.2.2
        by_cases op : s < L ∧ (X s = 43 ∨ X s = 45)
        · obtain ⟨o1, o2⟩ := op
          have ov : (X s).toInt = 43 ∨ (X s).toInt = 45 := o2.imp (fun o => by rw [o]; rfl) (fun o => by rw [o]; rfl)
          have tn : k = X s ∧ a = jI (s + 1) := by
            rcases t3 with ⟨b1, -⟩ | ⟨-, b2, -⟩ | ⟨-, b2, -⟩ | ⟨-, -, -, b4, b5⟩
            · omega
            · exfalso
              unfold dgt at b2
              omega
            · exfalso
              unfold ltr at b2
              omega
            · exact ⟨b4, b5⟩
          obtain ⟨tk, ta⟩ := tn
          subst ta
          obtain ⟨s2, a2, k2, v2, b1, b2, b3⟩ := k_adv hX (p := s + 1) (by omega) k (jI s) v
          have hb1 := b1.1
          have cs2 : CS L X (m + 1) a2 k2 (jI s2) v2 0 (-1) (jI (s + 1)) 0 pl := Or.inl ⟨rfl, rfl, rfl, s2, s + 1, by omega, rfl, rfl, b1, b2⟩
          obtain ⟨a3, k3, st3, v3, e3, ea3, n3, C3, nx3, pl3, bg3, R3, m3, f6, f9, w1, w2, w3, w4⟩ := hD 1 p (m + 1) n (d + 1) a2 k2 (jI s2) v2 (-1) (jI (s + 1)) pl bg C R (by omega) hp h15 (by omega) cs2 i3 i4 hd
          have st6 : ∀ o : Int32, f_X6_readSum_56 (f_X6_rec D) (f_X6_readSum_7 (f_X6_rec D) z6) (jI L) (jI (s + 1)) k (jI s) v 0 (-1) T (jI n) L C (jI p) (jI i) o = zB1 (f_X4_add (jI n3) L C3 o) fun q_74 => f_X6_readSum_7 (f_X6_rec D) z6 (jI L) a3 k3 st3 v3 e3 ea3 T q_74.1 L q_74.2 (jI p) (jI (i + 1)) := fun o => by
            have ei : jI i + (1 : Int32) = jI (i + 1) := by rw [jI_1, jI_add]
            unfold f_X6_readSum_56
            rw [b3, zB1_s]
            dsimp only
            rw [f6, zB1_s, ei]
          have key : ∃ o : Int32, o.toInt ≤ -4 ∧ kR o (X s).toInt64 ((0 : Int32).toInt64) ∧ f_X6_readSum_7 (f_X6_rec D) (z6 + 1) (jI L) (jI (s + 1)) k (jI s) v 0 (-1) T (jI n) L C (jI p) (jI i) = zB1 (f_X4_add (jI n3) L C3 o) fun q_74 => f_X6_readSum_7 (f_X6_rec D) z6 (jI L) a3 k3 st3 v3 e3 ea3 T q_74.1 L q_74.2 (jI p) (jI (i + 1)) := by
            have nl : ¬ jI L ≤ jI i := fun z => by
              have := (jI_le (by omega) (by omega)).mp z
              omega
            rcases o2 with o | o
            · refine ⟨-4, by decide, ?_, ?_⟩
              · rw [o]
                exact Or.inr (Or.inr (Or.inr (Or.inr (Or.inl ⟨rfl, by rfl⟩))))
              · refine Eq.trans ?_ (st6 (-4))
                simp only [f_X6_readSum_7]
                rw [if_neg nl, if_pos trivial, if_pos (tk.trans o)]
                unfold f_X6_readSum_40
                rw [if_pos (tk.trans o)]
            · have nk : ¬ k = 43 := fun z => absurd (z.symm.trans (tk.trans o)) (by decide)
              refine ⟨-5, by decide, ?_, ?_⟩
              · rw [o]
                exact Or.inr (Or.inr (Or.inr (Or.inr (Or.inr (Or.inl ⟨rfl, by rfl⟩)))))
              · refine Eq.trans ?_ (st6 (-5))
                simp only [f_X6_readSum_7]
                rw [if_neg nl, if_pos trivial, if_neg nk, if_pos (tk.trans o)]
                unfold f_X6_readSum_40
                rw [if_neg nk]
          have st9 : f_X9_sum_4 (f_X9_rec D) (z9 + 1) (jI L) (jI q) 0 pl bg (jI p) R X = zB1 (f_X9_codes e3 R3 (X s) 0) fun q_56 => f_X9_sum_4 (f_X9_rec D) z9 (jI L) nx3 e3 pl3 bg3 (jI p) q_56 X := by
            have st29 : f_X9_sum_29 (f_X9_rec D) (f_X9_sum_4 (f_X9_rec D) z9) (jI L) (jI s) 0 pl bg (jI p) R X = zB1 (f_X9_codes e3 R3 (X s) 0) fun q_56 => f_X9_sum_4 (f_X9_rec D) z9 (jI L) nx3 e3 pl3 bg3 (jI p) q_56 X := by
              have es : jI s + (1 : Int32) = jI (s + 1) := by rw [jI_1, jI_add]
              unfold f_X9_sum_29
              rw [zR_n (by omega) (by omega), es, f9, zB1_s]
            refine Eq.trans ?_ st29
            simp only [f_X9_sum_4]
            rw [if_pos trivial, r_sees hL g7, zB1_s]
            dsimp only
            rw [if_pos o1]
            rcases o2 with o | o
            · rw [if_pos o]
            · have nk : ¬ X s = 43 := fun z => absurd (z.symm.trans o) (by decide)
              rw [if_neg nk, r_sees hL hs2, zB1_s]
              dsimp only
              rw [if_pos o1, if_pos o]
          obtain ⟨o, ho1, ho2, key⟩ := key
          rw [key, st9]
          by_cases h3 : e3 = 0
          · subst h3
            obtain ⟨w5, w6, w7, w8⟩ := w4 rfl
            have hm3 := cs_m w3
            have hl3 : n3 < L := by omega
            have hn3 : n3 < 900 := by omega
            rw [k_add1 hL hl3, zB1_s, r_codes hn3 w6.2.1, zB1_s]
            exact ih (r - 1) (by omega) (i + 1) m3 (n3 + 1) z6 z9 a3 k3 st3 v3 0 ea3 nx3 pl3 bg3 _ _ (by omega) (by omega) (by omega) (by omega) (by omega) (by omega) w3 (fun _ => ⟨by omega, by omega, Pc_push hn3 w6 ho2, kD_dn1 w7 ho1, fr_tr (fr_pc _ _ _ _) (fr_tr w8 i5)⟩)
          · obtain ⟨n4, C4, x1, x2⟩ := k_add0 hL w1 C3 o
            rw [x1, zB1_s, codes_e h3, zB1_s]
            exact ih (r - 1) (by omega) (i + 1) m3 n4 z6 z9 a3 k3 st3 v3 e3 ea3 nx3 pl3 bg3 _ _ (by omega) (by omega) (by omega) (by omega) x2 (by omega) w3 (fun z => absurd z h3)
        · have nk : ∀ c : Int32, (c = 43 ∨ c = 45) → ¬ k = c := fun c hc z => by
            rcases t3 with ⟨b1, b2, b3⟩ | ⟨b1, b2, b3, b4⟩ | ⟨b1, b2, b3, e', b4, b5⟩ | ⟨b1, b2, b3, b4, b5⟩
            · rw [b3] at z
              rcases hc with h | h <;> rw [h] at z <;> exact absurd z (by decide)
            · rw [b3] at z
              rcases hc with h | h <;> rw [h] at z <;> exact absurd z (by decide)
            · rw [b3] at z
              rcases hc with h | h <;> rw [h] at z <;> exact absurd z (by decide)
            · exact op ⟨b1, by rw [← b4, z]; exact hc⟩
          have ns : ∀ c : Int32, (c = 43 ∨ c = 45) → ¬ (if s < L then X s else (-1 : Int32)) = c := fun c hc z => by
            by_cases c1 : s < L
            · rw [if_pos c1] at z
              exact op ⟨c1, by rw [z]; exact hc⟩
            · rw [if_neg c1] at z
              rcases hc with h | h <;> rw [h] at z <;> exact absurd z (by decide)
          have e6 : f_X6_readSum_7 (f_X6_rec D) (z6 + 1) (jI L) a k (jI s) v 0 (-1) T (jI n) L C (jI p) (jI i) = some (a, k, jI s, v, 0, -1, jI n, C) := by
            simp only [f_X6_readSum_7]
            rw [if_pos trivial, if_neg (nk 43 (Or.inl rfl)), if_neg (nk 45 (Or.inr rfl))]
            split <;> rfl
          have e9 : f_X9_sum_4 (f_X9_rec D) (z9 + 1) (jI L) (jI q) 0 pl bg (jI p) R X = some (jI s, 0, pl, bg, jI p, R) := by
            simp only [f_X9_sum_4]
            rw [if_pos trivial, r_sees hL g7, zB1_s]
            dsimp only
            rw [if_neg (ns 43 (Or.inl rfl)), r_sees hL hs2, zB1_s]
            dsimp only
            rw [if_neg (ns 45 (Or.inr rfl))]
          exact ⟨a, k, jI s, v, 0, -1, n, C, jI s, pl, bg, R, m, e6, e9, hn, hm, Or.inl ⟨rfl, rfl, rfl, s, s, g4, rfl, rfl, hs2, g8⟩, fun _ => ⟨i2, i3, i4, i5⟩⟩
      · exact absurd rfl g1
    · have e6 : f_X6_readSum_7 (f_X6_rec D) (z6 + 1) (jI L) a k st v e ea T (jI n) L C (jI p) (jI i) = some (a, k, st, v, e, ea, jI n, C) := by
        simp only [f_X6_readSum_7]
        rw [if_neg he]
        split <;> rfl
      have e9 : f_X9_sum_4 (f_X9_rec D) (z9 + 1) (jI L) nx e pl bg (jI p) R X = some (nx, e, pl, bg, jI p, R) := by
        simp only [f_X9_sum_4]
        rw [if_neg he]
      exact ⟨a, k, st, v, e, ea, n, C, nx, pl, bg, R, m, e6, e9, hn, hm, hC, fun z => absurd z he⟩
theorem rc_Sum (hX : Tx L T X) {D : Nat} (hD : RcS L T X D) {p m n d : Nat} {a k st v ea nx pl bg : Int32} {C : Nat → Int32} {R : Nat → Int64} (hp : p ≤ 4) (h15 : 15 ≤ D + 1 + 3 * p) (hnm : n ≤ m) (hC : CS L X m a k st v 0 ea nx 0 pl) (hP : Pc n C R) (hk : kD C n = some d) (hd : d + 1 ≤ 2 * p + 1) : Rs L X p m n d R (f_X6_readSum (f_X6_rec D) (jI L) a k st v 0 ea T (jI n) L C (jI p)) (f_X9_sum (f_X9_rec D) (jI L) nx 0 pl bg (jI p) R X) := by
  have hL := hX.1
  obtain ⟨a3, k3, st3, v3, e3, ea3, n3, C3, nx3, pl3, bg3, R3, m3, f6, f9, w1, w2, w3, w4⟩ := hD 1 p m n d a k st v ea nx pl bg C R (by omega) hp h15 hnm hC hP hk (by omega)
  unfold f_X6_readSum f_X9_sum
  rw [f6, f9, zB1_s, zB1_s]
  have hF : L < FU := Nat.lt_trans (show L < 1000 by omega) FU_k
  exact lp_Sum hX hD hp h15 hd L 0 m3 n3 FU FU a3 k3 st3 v3 e3 ea3 nx3 pl3 bg3 C3 R3 (by omega) (Nat.zero_le _) hF hF w1 w2 w3 (fun z => by
    obtain ⟨w5, w6, w7, w8⟩ := w4 z
    exact ⟨by omega, w5, w6, w7, w8⟩)
theorem lp_Term (hX : Tx L T X) {D : Nat} (hD : RcS L T X D) {p d m0 n0 : Nat} {R0 : Nat → Int64} (hp : p ≤ 4) (h15 : 15 ≤ D + 2 + 3 * p) (hd : d + 1 ≤ 2 * p + 2) : ∀ (r i m n z6 z9 : Nat) (a k st v e ea nx pl bg : Int32) (C : Nat → Int32) (R : Nat → Int64), L ≤ i + r → i ≤ m → r < z6 → r < z9 → n ≤ 900 → m0 ≤ m → CS L X m a k st v e ea nx e pl → (e = 0 → n ≤ m ∧ n + m0 ≤ n0 + m ∧ Pc n C R ∧ kD C n = some (d + 1) ∧ Fr R R0) → Rs L X p m0 n0 d R0 (f_X6_readTerm_7 (f_X6_rec D) z6 (jI L) a k st v e ea T (jI n) L C (jI p) (jI i)) (f_X9_term_4 (f_X9_rec D) z9 (jI L) nx e pl bg (jI p) R X) := by
  have hL := hX.1
  intro r
  induction r using Nat.strongRecOn with
  | ind r ih =>
    intro i m n z6 z9 a k st v e ea nx pl bg C R hi him hz6 hz9 hn hm hC hI
    obtain ⟨z6, rfl⟩ : ∃ y, z6 = y + 1 := ⟨z6 - 1, by omega⟩
    obtain ⟨z9, rfl⟩ : ∃ y, z9 = y + 1 := ⟨z9 - 1, by omega⟩
    have z0 : (0 : Int32) = 0 := rfl
    by_cases he : e = 0
    · subst he
      obtain ⟨i1, i2, i3, i4, i5⟩ := hI rfl
      rcases hC with ⟨-, -, g3, s, q, g4, g5, g6, g7, g8⟩ | ⟨g1, -⟩
      · subst g3 g5 g6
        obtain ⟨t1, t2, t3⟩ := id g8
        have hs2 : Rn spc L X s s := rn_self g7.2.1 g7.2.2.2
        by_cases op : s < L ∧ (X s = 42 ∨ X s = 47)
        · obtain ⟨o1, o2⟩ := op
          have ov : (X s).toInt = 42 ∨ (X s).toInt = 47 := o2.imp (fun o => by rw [o]; rfl) (fun o => by rw [o]; rfl)
          have tn : k = X s ∧ a = jI (s + 1) := by
            rcases t3 with ⟨b1, -⟩ | ⟨-, b2, -⟩ | ⟨-, b2, -⟩ | ⟨-, -, -, b4, b5⟩
            · omega
            · exfalso
              unfold dgt at b2
              omega
            · exfalso
              unfold ltr at b2
              omega
            · exact ⟨b4, b5⟩
          obtain ⟨tk, ta⟩ := tn
          subst ta
          obtain ⟨s2, a2, k2, v2, b1, b2, b3⟩ := k_adv hX (p := s + 1) (by omega) k (jI s) v
          have hb1 := b1.1
          have cs2 : CS L X (m + 1) a2 k2 (jI s2) v2 0 (-1) (jI (s + 1)) 0 pl := Or.inl ⟨rfl, rfl, rfl, s2, s + 1, by omega, rfl, rfl, b1, b2⟩
          obtain ⟨a3, k3, st3, v3, e3, ea3, n3, C3, nx3, pl3, bg3, R3, m3, f6, f9, w1, w2, w3, w4⟩ := hD 2 p (m + 1) n (d + 1) a2 k2 (jI s2) v2 (-1) (jI (s + 1)) pl bg C R (by omega) hp h15 (by omega) cs2 i3 i4 hd
          have st6 : ∀ o : Int32, f_X6_readTerm_56 (f_X6_rec D) (f_X6_readTerm_7 (f_X6_rec D) z6) (jI L) (jI (s + 1)) k (jI s) v 0 (-1) T (jI n) L C (jI p) (jI i) o = zB1 (f_X4_add (jI n3) L C3 o) fun q_74 => f_X6_readTerm_7 (f_X6_rec D) z6 (jI L) a3 k3 st3 v3 e3 ea3 T q_74.1 L q_74.2 (jI p) (jI (i + 1)) := fun o => by
            have ei : jI i + (1 : Int32) = jI (i + 1) := by rw [jI_1, jI_add]
            unfold f_X6_readTerm_56
            rw [b3, zB1_s]
            dsimp only
            rw [f6, zB1_s, ei]
          have key : ∃ o : Int32, o.toInt ≤ -4 ∧ kR o (X s).toInt64 ((0 : Int32).toInt64) ∧ f_X6_readTerm_7 (f_X6_rec D) (z6 + 1) (jI L) (jI (s + 1)) k (jI s) v 0 (-1) T (jI n) L C (jI p) (jI i) = zB1 (f_X4_add (jI n3) L C3 o) fun q_74 => f_X6_readTerm_7 (f_X6_rec D) z6 (jI L) a3 k3 st3 v3 e3 ea3 T q_74.1 L q_74.2 (jI p) (jI (i + 1)) := by
            have nl : ¬ jI L ≤ jI i := fun z => by
              have := (jI_le (by omega) (by omega)).mp z
              omega
            rcases o2 with o | o
            · refine ⟨-6, by decide, ?_, ?_⟩
              · rw [o]
                exact Or.inr (Or.inr (Or.inr (Or.inr (Or.inr (Or.inr (Or.inl ⟨rfl, by rfl⟩))))))
              · refine Eq.trans ?_ (st6 (-6))
                simp only [f_X6_readTerm_7]
                rw [if_neg nl, if_pos trivial, if_pos (tk.trans o)]
                unfold f_X6_readTerm_40
                rw [if_pos (tk.trans o)]
            · have nk : ¬ k = 42 := fun z => absurd (z.symm.trans (tk.trans o)) (by decide)
              refine ⟨-7, by decide, ?_, ?_⟩
              · rw [o]
                exact Or.inr (Or.inr (Or.inr (Or.inr (Or.inr (Or.inr (Or.inr (⟨rfl, by rfl⟩)))))))
              · refine Eq.trans ?_ (st6 (-7))
                simp only [f_X6_readTerm_7]
                rw [if_neg nl, if_pos trivial, if_neg nk, if_pos (tk.trans o)]
                unfold f_X6_readTerm_40
                rw [if_neg nk]
          have st9 : f_X9_term_4 (f_X9_rec D) (z9 + 1) (jI L) (jI q) 0 pl bg (jI p) R X = zB1 (f_X9_codes e3 R3 (X s) 0) fun q_56 => f_X9_term_4 (f_X9_rec D) z9 (jI L) nx3 e3 pl3 bg3 (jI p) q_56 X := by
            have st29 : f_X9_term_29 (f_X9_rec D) (f_X9_term_4 (f_X9_rec D) z9) (jI L) (jI s) 0 pl bg (jI p) R X = zB1 (f_X9_codes e3 R3 (X s) 0) fun q_56 => f_X9_term_4 (f_X9_rec D) z9 (jI L) nx3 e3 pl3 bg3 (jI p) q_56 X := by
              have es : jI s + (1 : Int32) = jI (s + 1) := by rw [jI_1, jI_add]
              unfold f_X9_term_29
              rw [zR_n (by omega) (by omega), es, f9, zB1_s]
            refine Eq.trans ?_ st29
            simp only [f_X9_term_4]
            rw [if_pos trivial, r_sees hL g7, zB1_s]
            dsimp only
            rw [if_pos o1]
            rcases o2 with o | o
            · rw [if_pos o]
            · have nk : ¬ X s = 42 := fun z => absurd (z.symm.trans o) (by decide)
              rw [if_neg nk, r_sees hL hs2, zB1_s]
              dsimp only
              rw [if_pos o1, if_pos o]
          obtain ⟨o, ho1, ho2, key⟩ := key
          rw [key, st9]
          by_cases h3 : e3 = 0
          · subst h3
            obtain ⟨w5, w6, w7, w8⟩ := w4 rfl
            have hm3 := cs_m w3
            have hl3 : n3 < L := by omega
            have hn3 : n3 < 900 := by omega
            rw [k_add1 hL hl3, zB1_s, r_codes hn3 w6.2.1, zB1_s]
            exact ih (r - 1) (by omega) (i + 1) m3 (n3 + 1) z6 z9 a3 k3 st3 v3 0 ea3 nx3 pl3 bg3 _ _ (by omega) (by omega) (by omega) (by omega) (by omega) (by omega) w3 (fun _ => ⟨by omega, by omega, Pc_push hn3 w6 ho2, kD_dn1 w7 ho1, fr_tr (fr_pc _ _ _ _) (fr_tr w8 i5)⟩)
          · obtain ⟨n4, C4, x1, x2⟩ := k_add0 hL w1 C3 o
            rw [x1, zB1_s, codes_e h3, zB1_s]
            exact ih (r - 1) (by omega) (i + 1) m3 n4 z6 z9 a3 k3 st3 v3 e3 ea3 nx3 pl3 bg3 _ _ (by omega) (by omega) (by omega) (by omega) x2 (by omega) w3 (fun z => absurd z h3)
        · have nk : ∀ c : Int32, (c = 42 ∨ c = 47) → ¬ k = c := fun c hc z => by
            rcases t3 with ⟨b1, b2, b3⟩ | ⟨b1, b2, b3, b4⟩ | ⟨b1, b2, b3, e', b4, b5⟩ | ⟨b1, b2, b3, b4, b5⟩
            · rw [b3] at z
              rcases hc with h | h <;> rw [h] at z <;> exact absurd z (by decide)
            · rw [b3] at z
              rcases hc with h | h <;> rw [h] at z <;> exact absurd z (by decide)
            · rw [b3] at z
              rcases hc with h | h <;> rw [h] at z <;> exact absurd z (by decide)
            · exact op ⟨b1, by rw [← b4, z]; exact hc⟩
          have ns : ∀ c : Int32, (c = 42 ∨ c = 47) → ¬ (if s < L then X s else (-1 : Int32)) = c := fun c hc z => by
            by_cases c1 : s < L
            · rw [if_pos c1] at z
              exact op ⟨c1, by rw [z]; exact hc⟩
            · rw [if_neg c1] at z
              rcases hc with h | h <;> rw [h] at z <;> exact absurd z (by decide)
          have e6 : f_X6_readTerm_7 (f_X6_rec D) (z6 + 1) (jI L) a k (jI s) v 0 (-1) T (jI n) L C (jI p) (jI i) = some (a, k, jI s, v, 0, -1, jI n, C) := by
            simp only [f_X6_readTerm_7]
            rw [if_pos trivial, if_neg (nk 42 (Or.inl rfl)), if_neg (nk 47 (Or.inr rfl))]
            split <;> rfl
          have e9 : f_X9_term_4 (f_X9_rec D) (z9 + 1) (jI L) (jI q) 0 pl bg (jI p) R X = some (jI s, 0, pl, bg, jI p, R) := by
            simp only [f_X9_term_4]
            rw [if_pos trivial, r_sees hL g7, zB1_s]
            dsimp only
            rw [if_neg (ns 42 (Or.inl rfl)), r_sees hL hs2, zB1_s]
            dsimp only
            rw [if_neg (ns 47 (Or.inr rfl))]
          exact ⟨a, k, jI s, v, 0, -1, n, C, jI s, pl, bg, R, m, e6, e9, hn, hm, Or.inl ⟨rfl, rfl, rfl, s, s, g4, rfl, rfl, hs2, g8⟩, fun _ => ⟨i2, i3, i4, i5⟩⟩
      · exact absurd rfl g1
    · have e6 : f_X6_readTerm_7 (f_X6_rec D) (z6 + 1) (jI L) a k st v e ea T (jI n) L C (jI p) (jI i) = some (a, k, st, v, e, ea, jI n, C) := by
        simp only [f_X6_readTerm_7]
        rw [if_neg he]
        split <;> rfl
      have e9 : f_X9_term_4 (f_X9_rec D) (z9 + 1) (jI L) nx e pl bg (jI p) R X = some (nx, e, pl, bg, jI p, R) := by
        simp only [f_X9_term_4]
        rw [if_neg he]
      exact ⟨a, k, st, v, e, ea, n, C, nx, pl, bg, R, m, e6, e9, hn, hm, hC, fun z => absurd z he⟩
theorem rc_Term (hX : Tx L T X) {D : Nat} (hD : RcS L T X D) {p m n d : Nat} {a k st v ea nx pl bg : Int32} {C : Nat → Int32} {R : Nat → Int64} (hp : p ≤ 4) (h15 : 15 ≤ D + 2 + 3 * p) (hnm : n ≤ m) (hC : CS L X m a k st v 0 ea nx 0 pl) (hP : Pc n C R) (hk : kD C n = some d) (hd : d + 1 ≤ 2 * p + 2) : Rs L X p m n d R (f_X6_readTerm (f_X6_rec D) (jI L) a k st v 0 ea T (jI n) L C (jI p)) (f_X9_term (f_X9_rec D) (jI L) nx 0 pl bg (jI p) R X) := by
  have hL := hX.1
  obtain ⟨a3, k3, st3, v3, e3, ea3, n3, C3, nx3, pl3, bg3, R3, m3, f6, f9, w1, w2, w3, w4⟩ := hD 2 p m n d a k st v ea nx pl bg C R (by omega) hp h15 hnm hC hP hk (by omega)
  unfold f_X6_readTerm f_X9_term
  rw [f6, f9, zB1_s, zB1_s]
  have hF : L < FU := Nat.lt_trans (show L < 1000 by omega) FU_k
  exact lp_Term hX hD hp h15 hd L 0 m3 n3 FU FU a3 k3 st3 v3 e3 ea3 nx3 pl3 bg3 C3 R3 (by omega) (Nat.zero_le _) hF hF w1 w2 w3 (fun z => by
    obtain ⟨w5, w6, w7, w8⟩ := w4 z
    exact ⟨by omega, w5, w6, w7, w8⟩)
theorem rc_factor (hX : Tx L T X) {D : Nat} (hD : RcS L T X D) {p m n d : Nat} {a k st v ea nx pl bg : Int32} {C : Nat → Int32} {R : Nat → Int64} (hp : p ≤ 4) (h15 : 15 ≤ D + 1 + 2 + 3 * p) (hnm : n ≤ m) (hC : CS L X m a k st v 0 ea nx 0 pl) (hP : Pc n C R) (hk : kD C n = some d) (hd : d ≤ 2 * p + 2) : Rs L X p m n d R (f_X6_readFactor (f_X6_rec D) (jI L) a k st v 0 ea T (jI n) L C (jI p)) (f_X9_factor (f_X9_rec D) (jI L) nx 0 pl bg (jI p) R X) := by
  have hL := hX.1
  have z0 : (0 : Int32) = 0 := rfl
  rcases hC with ⟨-, -, g3, s, q, g4, g5, g6, g7, g8⟩ | ⟨g1, -⟩
  · subst g3 g5 g6
    obtain ⟨t1, t2, t3⟩ := id g8
    have hs2 : Rn spc L X s s := rn_self g7.2.1 g7.2.2.2
    have cs0 : CS L X m a k (jI s) v 0 (-1) (jI s) 0 pl := Or.inl ⟨rfl, rfl, rfl, s, s, g4, rfl, rfl, hs2, g8⟩
    have word : ∀ (e : Nat) (x y : Int32), s < e → e ≤ L → a = jI e → -4 < x.toInt → kR x ((1 : Int32).toInt64) y.toInt64 → Rs L X p m n d R (zB1 (f_X6_addOperand (jI L) a k (jI s) v T (jI n) L C x) fun q => some (q.1, q.2.1, q.2.2.1, q.2.2.2.1, 0, -1, q.2.2.2.2.1, q.2.2.2.2.2)) (zB1 (f_X9_codes 0 R 1 y) fun q => some (jI e, 0, pl, bg, jI p, q)) := by
      intro e x y h1 h2 h3 h5 h6
      obtain ⟨s2, a2, k2, v2, b1, b2, b3⟩ := k_adv hX h2 k (jI s) v
      have hb1 := b1.1
      have hl : n < L := by omega
      have hn : n < 900 := by omega
      unfold f_X6_addOperand
      rw [k_add1 hL hl, zB1_s, h3, b3, zB1_s, zB1_s, r_codes hn hP.2.1, zB1_s]
      exact ⟨a2, k2, jI s2, v2, 0, -1, n + 1, _, jI e, pl, bg, _, m + 1, rfl, rfl, by omega, by omega, Or.inl ⟨rfl, rfl, rfl, s2, e, by omega, rfl, rfl, b1, b2⟩, fun _ => ⟨by omega, Pc_push hn hP h6, kD_up1 hk h5 (by omega), fr_pc _ _ _ _⟩⟩
    have lets : ltr (X s) → s < L → ¬ (if s < L then X s else (-1 : Int32)) = 40 ∧ f_X9_isDigit (jI L) (jI s) X = some (0, jI s) := fun hl c => by
      unfold ltr at hl
      refine ⟨fun z => ?_, ?_⟩
      · rw [if_pos c] at z
        have z2 : (X s).toInt = 40 := by rw [z]; rfl
        omega
      · rcases r_digit hX hs2 with ⟨d1, d2, d3⟩ | ⟨d1, d3⟩
        · exfalso
          unfold dgt at d2
          omega
        · exact d3
    rcases wordP hX (i := 8) (by omega) (by omega) hs2 g8 with ⟨e, y1, y2, y3, y4, y5, y6, y7⟩ | ⟨u8, v8⟩
    · have y8 : f_X9_takes (jI L) (jI s) 0 X 22 = some (1, jI e) := y7
      obtain ⟨l1, l2⟩ := lets y3 y4
      have c6 : f_X6_readFactor (f_X6_rec D) (jI L) a k (jI s) v 0 (-1) T (jI n) L C (jI p) = zB1 (f_X6_addOperand (jI L) a k (jI s) v T (jI n) L C (-1)) fun q => some (q.1, q.2.1, q.2.2.1, q.2.2.2.1, 0, -1, q.2.2.2.2.1, q.2.2.2.2.2) := by
        unfold f_X6_readFactor
        rw [y6, zB1_s, if_neg one_ne]
      have c9 : f_X9_factor (f_X9_rec D) (jI L) (jI q) 0 pl bg (jI p) R X = zB1 (f_X9_codes 0 R 1 0) fun q => some (jI e, 0, pl, bg, jI p, q) := by
        unfold f_X9_factor
        rw [if_pos z0, r_sees hL g7, zB1_s]
        dsimp only
        rw [if_neg l1, l2, zB1_s]
        dsimp only
        rw [if_pos z0, y8, zB1_s]
        dsimp only
        rw [if_neg one_ne]
      rw [c6, c9]
      exact word e (-1) 0 y1 y2 y5 (by decide) (Or.inr (Or.inl ⟨rfl, by rfl, by rfl⟩))
    · have v8' : f_X9_takes (jI L) (jI s) 0 X 22 = some (0, jI s) := v8
      rcases wordP hX (i := 9) (by omega) (by omega) hs2 g8 with ⟨e, y1, y2, y3, y4, y5, y6, y7⟩ | ⟨u9, v9⟩
      · have y8 : f_X9_takes (jI L) (jI s) 0 X 23 = some (1, jI e) := y7
        obtain ⟨l1, l2⟩ := lets y3 y4
        have c6 : f_X6_readFactor (f_X6_rec D) (jI L) a k (jI s) v 0 (-1) T (jI n) L C (jI p) = zB1 (f_X6_addOperand (jI L) a k (jI s) v T (jI n) L C (-2)) fun q => some (q.1, q.2.1, q.2.2.1, q.2.2.2.1, 0, -1, q.2.2.2.2.1, q.2.2.2.2.2) := by
          unfold f_X6_readFactor
          rw [u8, zB1_s, if_pos z0, y6, zB1_s, if_neg one_ne]
        have c9 : f_X9_factor (f_X9_rec D) (jI L) (jI q) 0 pl bg (jI p) R X = zB1 (f_X9_codes 0 R 1 1) fun q => some (jI e, 0, pl, bg, jI p, q) := by
          unfold f_X9_factor
          rw [if_pos z0, r_sees hL g7, zB1_s]
          dsimp only
          rw [if_neg l1, l2, zB1_s]
          dsimp only
          rw [if_pos z0, v8', zB1_s]
          dsimp only
          rw [if_pos z0, y8, zB1_s]
          dsimp only
          rw [if_neg one_ne]
        rw [c6, c9]
        exact word e (-2) 1 y1 y2 y5 (by decide) (Or.inr (Or.inr (Or.inl ⟨rfl, by rfl, by rfl⟩)))
      · have v9' : f_X9_takes (jI L) (jI s) 0 X 23 = some (0, jI s) := v9
        rcases wordP hX (i := 10) (by omega) (by omega) hs2 g8 with ⟨e, y1, y2, y3, y4, y5, y6, y7⟩ | ⟨u10, v10⟩
        · have y8 : f_X9_takes (jI L) (jI s) 0 X 24 = some (1, jI e) := y7
          obtain ⟨l1, l2⟩ := lets y3 y4
          have c6 : f_X6_readFactor (f_X6_rec D) (jI L) a k (jI s) v 0 (-1) T (jI n) L C (jI p) = zB1 (f_X6_addOperand (jI L) a k (jI s) v T (jI n) L C (-3)) fun q => some (q.1, q.2.1, q.2.2.1, q.2.2.2.1, 0, -1, q.2.2.2.2.1, q.2.2.2.2.2) := by
            unfold f_X6_readFactor
            rw [u8, zB1_s, if_pos z0, u9, zB1_s, if_pos z0, y6, zB1_s, if_neg one_ne]
          have c9 : f_X9_factor (f_X9_rec D) (jI L) (jI q) 0 pl bg (jI p) R X = zB1 (f_X9_codes 0 R 1 2) fun q => some (jI e, 0, pl, bg, jI p, q) := by
            unfold f_X9_factor
            rw [if_pos z0, r_sees hL g7, zB1_s]
            dsimp only
            rw [if_neg l1, l2, zB1_s]
            dsimp only
            rw [if_pos z0, v8', zB1_s]
            dsimp only
            rw [if_pos z0, v9', zB1_s]
            dsimp only
            rw [if_pos z0, y8, zB1_s]
            dsimp only
            rw [if_neg one_ne]
          rw [c6, c9]
          exact word e (-3) 2 y1 y2 y5 (by decide) (Or.inr (Or.inr (Or.inr (Or.inl ⟨rfl, by rfl, by rfl⟩))))
        · have v10' : f_X9_takes (jI L) (jI s) 0 X 24 = some (0, jI s) := v10
          by_cases op : s < L ∧ X s = 40
          · obtain ⟨o1, o2⟩ := op
            have ov : (X s).toInt = 40 := by rw [o2]; rfl
            have tn : k = 40 ∧ a = jI (s + 1) := by
              rcases t3 with ⟨b1, -⟩ | ⟨-, b2, -⟩ | ⟨-, b2, -⟩ | ⟨-, -, -, b4, b5⟩
              · omega
              · exfalso
                unfold dgt at b2
                omega
              · exfalso
                unfold ltr at b2
                omega
              · exact ⟨b4.trans o2, b5⟩
            obtain ⟨tk, ta⟩ := tn
            by_cases p4 : p < 4
            · obtain ⟨s2, a2, k2, v2, b1, b2, b3⟩ := k_adv hX (p := s + 1) (by omega) k (jI s) v
              have hb1 := b1.1
              have cs2 : CS L X (m + 1) a2 k2 (jI s2) v2 0 (-1) (jI (s + 1)) 0 pl := Or.inl ⟨rfl, rfl, rfl, s2, s + 1, by omega, rfl, rfl, b1, b2⟩
              obtain ⟨a3, k3, st3, v3, e3, ea3, n3, C3, nx3, pl3, bg3, R3, m3, f6, f9, w1, w2, w3, w4⟩ := hD 0 (p + 1) (m + 1) n d a2 k2 (jI s2) v2 (-1) (jI (s + 1)) pl bg C R (by omega) (by omega) (by omega) (by omega) cs2 hP hk (by omega)
              obtain ⟨a4, k4, st4, v4, e4, ea4, nx4, er4, pl4, x6, x9, x10, x11⟩ := tak hX (c := 41) (by decide) (by decide) w3
              have xe := cs_er x10
              subst xe
              have ep : jI p + (1 : Int32) = jI (p + 1) := by rw [jI_1, jI_add]
              have es : jI s + (1 : Int32) = jI (s + 1) := by rw [jI_1, jI_add]
              have em : jI (p + 1) - (1 : Int32) = jI p := by rw [jI_1, jI_sub (by omega), Nat.add_sub_cancel]
              have c6 : f_X6_readFactor (f_X6_rec D) (jI L) a k (jI s) v 0 (-1) T (jI n) L C (jI p) = some (a4, k4, st4, v4, er4, ea4, jI n3, C3) := by
                unfold f_X6_readFactor
                rw [u8, zB1_s, if_pos z0, u9, zB1_s, if_pos z0, u10, zB1_s, if_pos z0, if_pos tk, if_pos (show jI p < (4 : Int32) from (jI_lt (a := p) (b := 4) (by omega) (by omega)).mpr p4), ta, b3, zB1_s]
                dsimp only
                rw [ep, f6, zB1_s]
                dsimp only
                rw [x6, zB1_s]
              have c9 : f_X9_factor (f_X9_rec D) (jI L) (jI q) 0 pl bg (jI p) R X = some (nx4, er4, pl4, bg3, jI p, R3) := by
                unfold f_X9_factor
                rw [if_pos z0, r_sees hL g7, zB1_s]
                dsimp only
                rw [if_pos o1, if_pos o2, if_neg (fun z => by have := (jI_eq (a := p) (b := 4) (by omega) (by omega)).mp z; omega), es, ep, f9, zB1_s]
                dsimp only
                rw [x9, zB1_s, em]
              rw [c6, c9]
              refine ⟨a4, k4, st4, v4, er4, ea4, n3, C3, nx4, pl4, bg3, R3, m3 + 1, rfl, rfl, w1, by omega, x10, fun z => ?_⟩
              obtain ⟨w5, w6, w7, w8⟩ := w4 (x11 z).1
              exact ⟨by omega, w6, w7, w8⟩
            · have c6 : f_X6_readFactor (f_X6_rec D) (jI L) a k (jI s) v 0 (-1) T (jI n) L C (jI p) = some (a, k, jI s, v, -5, jI s, jI n, C) := by
                unfold f_X6_readFactor
                rw [u8, zB1_s, if_pos z0, u9, zB1_s, if_pos z0, u10, zB1_s, if_pos z0, if_pos tk, if_neg (fun z => by have := (jI_lt (a := p) (b := 4) (by omega) (by omega)).mp z; omega), failAt_0, zB1_s]
              have c9 : f_X9_factor (f_X9_rec D) (jI L) (jI q) 0 pl bg (jI p) R X = some (jI s, -5, jI s, bg, jI p, R) := by
                unfold f_X9_factor
                rw [if_pos z0, r_sees hL g7, zB1_s]
                dsimp only
                rw [if_pos o1, if_pos o2, if_pos (show jI p = (4 : Int32) from (jI_eq (a := p) (b := 4) (by omega) (by omega)).mpr (by omega)), fails_0, zB1_s]
              rw [c6, c9]
              exact ⟨a, k, jI s, v, -5, jI s, n, C, jI s, jI s, bg, R, m, rfl, rfl, hP.1, Nat.le_refl _, Or.inr ⟨by decide, rfl, rfl, tk_sf g8⟩, fun z => absurd z (by decide)⟩
          · have nk : ¬ k = 40 := fun z => by
              rcases t3 with ⟨b1, b2, b3⟩ | ⟨b1, b2, b3, b4⟩ | ⟨b1, b2, b3, e', b4, b5⟩ | ⟨b1, b2, b3, b4, b5⟩
              · rw [b3] at z
                exact absurd z (by decide)
              · rw [b3] at z
                exact absurd z (by decide)
              · rw [b3] at z
                exact absurd z (by decide)
              · exact op ⟨b1, b4.symm.trans z⟩
            have ns : ¬ (if s < L then X s else (-1 : Int32)) = 40 := fun z => by
              by_cases c1 : s < L
              · rw [if_pos c1] at z
                exact op ⟨c1, z⟩
              · rw [if_neg c1] at z
                exact absurd z (by decide)
            have c6 : f_X6_readFactor (f_X6_rec D) (jI L) a k (jI s) v 0 (-1) T (jI n) L C (jI p) = zB1 (f_X6_takeNumber (jI L) a k (jI s) v 0 (-1) T (0 : Int32) (9999 : Int32)) fun q_74 => zB1 (f_X4_add (jI n) L C q_74.1) fun q_77 => some (q_74.2.1, q_74.2.2.1, q_74.2.2.2.1, q_74.2.2.2.2.1, q_74.2.2.2.2.2.1, q_74.2.2.2.2.2.2, q_77.1, q_77.2) := by
              unfold f_X6_readFactor
              rw [u8, zB1_s, if_pos z0, u9, zB1_s, if_pos z0, u10, zB1_s, if_pos z0, if_neg nk]
            rw [c6]
            rcases r_digit hX hs2 with ⟨d1, d2, d3⟩ | ⟨d1, d3⟩
            · obtain ⟨x, a1, k1, st1, v1, e1, ea1, y, nx1, er1, pl1, bg1, j6, j9, j10, j11⟩ := num hX (lo := 0) (hi := 9999) (by decide) (by decide) (by decide) bg cs0
              have xe := cs_er j10
              subst xe
              have c9 : f_X9_factor (f_X9_rec D) (jI L) (jI q) 0 pl bg (jI p) R X = zB1 (f_X9_codes er1 R 0 y) fun q_96 => some (nx1, er1, pl1, bg1, jI p, q_96) := by
                unfold f_X9_factor
                rw [if_pos z0, r_sees hL g7, zB1_s]
                dsimp only
                rw [if_neg ns, d3, zB1_s]
                dsimp only
                rw [if_neg one_ne, j9, zB1_s]
              rw [c9, j6, zB1_s]
              dsimp only
              by_cases he : er1 = 0
              · subst he
                obtain ⟨-, q2, q3, q4, -, -⟩ := j11 rfl
                subst q2
                have hmm := cs_m j10
                have hl : n < L := by omega
                have hn : n < 900 := by omega
                have q3' : 0 ≤ y.toInt := q3
                have q4' : y.toInt ≤ 9999 := q4
                rw [k_add1 hL hl, zB1_s, r_codes hn hP.2.1, zB1_s]
                exact ⟨a1, k1, st1, v1, 0, ea1, n + 1, _, nx1, pl1, bg1, _, m + 1, rfl, rfl, by omega, by omega, j10, fun _ => ⟨by omega, Pc_push hn hP (Or.inl ⟨q3', q4', by rfl, rfl⟩), kD_up1 hk (by omega) (by omega), fr_pc _ _ _ _⟩⟩
              · obtain ⟨n4, C4, x1, x2⟩ := k_add0 hL hP.1 C x
                rw [x1, zB1_s, codes_e he, zB1_s]
                exact ⟨a1, k1, st1, v1, er1, ea1, n4, C4, nx1, pl1, bg1, R, m + 1, rfl, rfl, x2, by omega, j10, fun z => absurd z he⟩
            · have hk2 : ¬ k = -2 := by
                rcases t3 with ⟨c1, c2, c3⟩ | ⟨c1, c2, c3, c4⟩ | ⟨c1, c2, c3, e', c4, c5⟩ | ⟨c1, c2, c3, c4, c5⟩
                · rw [c3]
                  decide
                · exact absurd ⟨c1, c2⟩ d1
                · rw [c3]
                  decide
                · intro z
                  have := X_nn hX c1
                  rw [← c4, z, show (-2 : Int32).toInt = -2 from rfl] at this
                  omega
              have c9 : f_X9_factor (f_X9_rec D) (jI L) (jI q) 0 pl bg (jI p) R X = some (jI s, -2, jI s, bg, jI p, R) := by
                unfold f_X9_factor
                rw [if_pos z0, r_sees hL g7, zB1_s]
                dsimp only
                rw [if_neg ns, d3, zB1_s]
                dsimp only
                rw [if_pos z0, v8', zB1_s]
                dsimp only
                rw [if_pos z0, v9', zB1_s]
                dsimp only
                rw [if_pos z0, v10', zB1_s]
                dsimp only
                rw [if_pos z0, fails_0, zB1_s]
              obtain ⟨n4, C4, x1, x2⟩ := k_add0 hL hP.1 C (-1)
              rw [c9, tn_bad hk2, zB1_s]
              dsimp only
              rw [x1, zB1_s]
              exact ⟨a, k, jI s, v, -2, jI s, n4, C4, jI s, jI s, bg, R, m, rfl, rfl, x2, Nat.le_refl _, Or.inr ⟨by decide, rfl, rfl, tk_sf g8⟩, fun z => absurd z (by decide)⟩
  · exact absurd rfl g1
theorem rc_all (hX : Tx L T X) : ∀ D, RcS L T X D
  | 0 => fun kk p m n d a k st v ea nx pl bg C R h1 h2 h3 => by omega
  | D + 1 => fun kk p m n d a k st v ea nx pl bg C R h1 h2 h3 h4 h5 h6 h7 h8 => by
    have hD := rc_all hX D
    have : kk = 0 ∨ kk = 1 ∨ kk = 2 := by omega
    rcases this with e | e | e <;> subst e
    · exact rc_Sum hX hD h2 (by omega) h4 h5 h6 h7 (by omega)
    · exact rc_Term hX hD h2 (by omega) h4 h5 h6 h7 (by omega)
    · exact rc_factor hX hD h2 (by omega) h4 h5 h6 h7 (by omega)
end RATE
