/-! layer 3: words, numbers, signs -/
def wch (i m : Nat) : Int32 := (zSb i).getD m 0 &&& 255
theorem wd_f : ∀ i, i < 11 → 1 ≤ i → zSb (i + 14) = zSb i ∧ 1 ≤ (zSb i).length ∧ (zSb i).length ≤ 9 ∧ ∀ m, m < (zSb i).length → 97 ≤ (wch i m).toInt ∧ (wch i m).toInt ≤ 122 := by decide
theorem flen_j (i : Nat) : f_len i = jI (zSb i).length := rfl
theorem fchr_j {β : Type} {i j : Nat} {K : Int32 → Option β} (h : j < (zSb i).length) (h9 : (zSb i).length ≤ 9) : f_chr i (jI j) K = K (wch i j) := by
  unfold f_chr
  rw [zR_n h (by omega)]
  rfl
section PRIM
variable {L : Nat} {T X : Nat → Int32}
def wmis (X : Nat → Int32) (s i q : Nat) : Bool := decide (¬ X (s + q) = wch i q)
theorem k_wloop (hX : Tx L T X) {i s : Nat} (hi : i < 11) (h1 : 1 ≤ i) (hs : s + (zSb i).length ≤ L) : f_X6_isWord_29 FU (jI s) T i (0 : Int32) = some (if sE (wmis X s i) 0 (zSb i).length = true then 0 else 1) := by
  obtain ⟨-, n1, n9, ch⟩ := wd_f i hi h1
  obtain ⟨hL, hT⟩ := hX
  have hfu := FU_k
  generalize FU = fu at hfu ⊢
  refine lo_E2 (F := fun z k => f_X6_isWord_29 z (jI s) T i k) (n := (zSb i).length) ?_ ?_ (zSb i).length 0 fu (by omega) (by omega)
  · intro z
    simp only [f_X6_isWord_29]
    rw [flen_j, if_pos ((jI_le (by omega) (by omega)).mpr (Nat.le_refl _))]
  · intro z k hk
    simp only [f_X6_isWord_29]
    have ek : jI k + (1 : Int32) = jI (k + 1) := by rw [jI_1, jI_add]
    rw [flen_j, if_neg (fun z => by have := (jI_le (by omega) (by omega)).mp z; omega), jI_add, zR_n (by omega) (by omega), fchr_j hk n9, ek]
    have tr := tR_i (hT (s + k) (by omega))
    have trl := (hT (s + k) (by omega)).1
    have c1 := ch k hk
    by_cases c : X (s + k) = wch i k
    · have w0 : wmis X s i k = false := by unfold wmis; simp [c]
      have w1 : T (s + k) = wch i k := i32_eq.mpr (by rw [c] at tr; omega)
      rw [w0, if_pos w1, if_neg (show ¬ (false = true) by decide)]
    · have w0 : wmis X s i k = true := by unfold wmis; simp [c]
      have w1 : ¬ T (s + k) = wch i k := fun z => c (i32_eq.mpr (by rw [z] at tr; omega))
      rw [w0, if_neg w1, if_pos rfl]
theorem r_w0 {z : Nat} {nx : Int32} {i : Nat} (x : Int32) : f_X9_isWord_68 (z + 1) nx X i 0 x = some (0, nx) := by
  simp only [f_X9_isWord_68]
  rw [if_pos trivial]
  rfl
theorem r_wloop {i s : Nat} (hL : L ≤ 900) (hi : i < 11) (h1 : 1 ≤ i) (hs : s + (zSb i).length ≤ L) : ∀ (m k z : Nat), k + m = (zSb i).length → m + 1 < z → f_X9_isWord_68 z (jI s) X (i + 14) 1 (jI k) = some (if sE (wmis X s i) k m = true then 0 else 1, jI s) := by
  obtain ⟨e14, n1, n9, ch⟩ := wd_f i hi h1
  have el : f_len (i + 14) = jI (zSb i).length := by rw [flen_j, e14]
  have ec : ∀ {β : Type} (j : Nat) (K : Int32 → Option β), j < (zSb i).length → f_chr (i + 14) (jI j) K = K (wch i j) := fun j K hj => by
    rw [fchr_j (by rw [e14]; exact hj) (by rw [e14]; exact n9)]
    unfold wch
    rw [e14]
  intro m
  induction m with
  | zero =>
    intro k z hk hz
    obtain ⟨z, rfl⟩ : ∃ y, z = y + 1 := ⟨z - 1, by omega⟩
    simp only [f_X9_isWord_68]
    rw [if_neg one_ne, el, if_pos ((jI_le (by omega) (by omega)).mpr (by omega))]
    rfl
  | succ m ih =>
    intro k z hk hz
    obtain ⟨z, rfl⟩ : ∃ y, z = y + 1 := ⟨z - 1, by omega⟩
    have ek : jI k + (1 : Int32) = jI (k + 1) := by rw [jI_1, jI_add]
    simp only [f_X9_isWord_68]
    rw [if_neg one_ne, el, if_neg (fun z => by have := (jI_le (by omega) (by omega)).mp z; omega), jI_add, zR_n (by omega) (by omega), ec k _ (by omega), ek, sE_s]
    by_cases c : X (s + k) = wch i k
    · rw [if_pos c, ih (k + 1) z (by omega) (by omega)]
      have : wmis X s i k = false := by unfold wmis; simp [c]
      rw [this, Bool.false_or]
    · rw [if_neg c]
      have : wmis X s i k = true := by unfold wmis; simp [c]
      rw [this, Bool.true_or, if_pos rfl]
      obtain ⟨z, rfl⟩ : ∃ y, z = y + 1 := ⟨z - 1, by omega⟩
      exact r_w0 _
theorem r_wlet (hL : L ≤ 900) {i s : Nat} : ∀ (m p e z : Nat), p + m = e → m < z → Rn ltr L X p e → f_X9_isWord_10 z (jI L) (jI s) X i (jI p) = f_X9_isWord_46 (jI s) X i (jI e) := by
  have e97 : (97 : Int32).toInt = 97 := rfl
  have e122 : (122 : Int32).toInt = 122 := rfl
  intro m
  induction m with
  | zero =>
    intro p e z hp hz h
    obtain ⟨z, rfl⟩ : ∃ y, z = y + 1 := ⟨z - 1, by omega⟩
    have : p = e := by omega
    subst this
    have hpl := h.2.1
    simp only [f_X9_isWord_10]
    by_cases c : p < L
    · have nd := h.2.2.2 c
      unfold ltr at nd
      rw [if_neg (fun z => by have := (jI_le (by omega) (by omega)).mp z; omega), zR_n (by omega) (by omega)]
      by_cases c1 : X p < 97
      · rw [if_pos c1]
      · have c1' : ¬ (X p).toInt < (97 : Int32).toInt := fun z => c1 (i32_lt.mpr z)
        rw [if_neg c1, zR_n (by omega) (by omega), if_pos (i32_lt.mpr (by omega))]
    · rw [if_pos ((jI_le (by omega) (by omega)).mpr (by omega))]
  | succ m ih =>
    intro p e z hp hz h
    obtain ⟨z, rfl⟩ : ∃ y, z = y + 1 := ⟨z - 1, by omega⟩
    have hs := h.2.1
    have dg := h.2.2.1 p (Nat.le_refl _) (by omega)
    unfold ltr at dg
    have ep : jI p + (1 : Int32) = jI (p + 1) := by rw [jI_1, jI_add]
    simp only [f_X9_isWord_10]
    rw [if_neg (fun z => by have := (jI_le (by omega) (by omega)).mp z; omega), zR_n (by omega) (by omega), if_neg (fun z => by have := i32_lt.mp z; omega), zR_n (by omega) (by omega), if_neg (fun z => by have := i32_lt.mp z; omega), ep]
    exact ih (p + 1) e z (by omega) (by omega) (rn_next h (by omega))
theorem r_isWord (hL : L ≤ 900) {i p s e : Nat} (hp : Rn spc L X p s) (he : Rn ltr L X s e) : f_X9_isWord (jI L) (jI p) X i = f_X9_isWord_46 (jI s) X i (jI e) := by
  unfold f_X9_isWord
  have he1 := he.1
  have he2 := he.2.1
  rw [r_sees hL hp, zB1_s]
  dsimp only
  have hfu := FU_k
  generalize FU = fu at hfu ⊢
  exact r_wlet hL (e - s) s e fu (by omega) (by omega) he
theorem X_nn (hX : Tx L T X) {s : Nat} (hs : s < L) : 0 ≤ (X s).toInt := (tR_i (hX.2 s hs)).1
theorem wordP (hX : Tx L T X) {i p s : Nat} {a k v : Int32} (hi : i < 11) (h1 : 1 ≤ i) (hp : Rn spc L X p s) (hk : Tk L X s a k v) : (∃ e, s < e ∧ e ≤ L ∧ ltr (X s) ∧ s < L ∧ a = jI e ∧ f_X6_isWord a k (jI s) T i = some 1 ∧ f_X9_takes (jI L) (jI p) 0 X (i + 14) = some (1, jI e)) ∨ (f_X6_isWord a k (jI s) T i = some 0 ∧ f_X9_takes (jI L) (jI p) 0 X (i + 14) = some (0, jI s)) := by
  obtain ⟨e14, n1, n9, ch⟩ := wd_f i hi h1
  have el : f_len (i + 14) = jI (zSb i).length := by rw [flen_j, e14]
  have hL := hX.1
  obtain ⟨t1, t2, t3⟩ := hk
  obtain ⟨e, he⟩ := rn_ex (Q := ltr) (X := X) (L := L) (L - s) s (by omega)
  have he1 := he.1
  have he2 := he.2.1
  have esub : jI e - jI s = jI (e - s) := jI_sub he1
  have rno : ¬ e - s = (zSb i).length → f_X9_takes (jI L) (jI p) 0 X (i + 14) = some (0, jI s) := fun hne => by
    unfold f_X9_takes
    rw [if_pos rfl, r_isWord hL hp he]
    unfold f_X9_isWord_46
    rw [esub, el, if_neg (fun z => hne ((jI_eq (by omega) (by omega)).mp z))]
    have : f_X9_isWord_68 FU (jI s) X (i + 14) 0 0 = some (0, jI s) := by
      have hfu := FU_k
      generalize FU = fu at hfu ⊢
      obtain ⟨z, rfl⟩ : ∃ y, fu = y + 1 := ⟨fu - 1, by omega⟩
      exact r_w0 _
    rw [this, zB1_s, if_pos rfl]
  have knot : ¬ k = -3 → f_X6_isWord a k (jI s) T i = some 0 := fun hk3 => by
    unfold f_X6_isWord
    rw [if_neg hk3]
  have nolet : ¬ (s < L ∧ ltr (X s)) → ¬ e - s = (zSb i).length := fun hn he3 => hn ⟨by omega, he.2.2.1 s (Nat.le_refl _) (by omega)⟩
  rcases t3 with ⟨c1, c2, c3⟩ | ⟨c1, c2, c3, c4⟩ | ⟨c1, c2, c3, e', c4, c5⟩ | ⟨c1, c2, c3, c4, c5⟩
  · exact Or.inr ⟨knot (by rw [c3]; decide), rno (nolet (fun z => by omega))⟩
  · exact Or.inr ⟨knot (by rw [c3]; decide), rno (nolet (fun z => by
      have z2 := z.2
      unfold ltr at z2
      unfold dgt at c2
      omega))⟩
  · have : e' = e := rn_un c4 he
    subst this
    by_cases hl : e' - s = (zSb i).length
    · have kw : f_X6_isWord a k (jI s) T i = some (if sE (wmis X s i) 0 (zSb i).length = true then 0 else 1) := by
        unfold f_X6_isWord
        rw [if_pos c3, c5, esub, flen_j, if_pos (by rw [hl])]
        exact k_wloop hX hi h1 (by omega)
      have rw1 : f_X9_takes (jI L) (jI p) 0 X (i + 14) = if sE (wmis X s i) 0 (zSb i).length = true then some (0, jI s) else some (1, jI e') := by
        unfold f_X9_takes
        rw [if_pos rfl, r_isWord hL hp he]
        unfold f_X9_isWord_46
        rw [esub, el, if_pos (by rw [hl])]
        have : f_X9_isWord_68 FU (jI s) X (i + 14) 1 (jI 0) = some (if sE (wmis X s i) 0 (zSb i).length = true then 0 else 1, jI s) := by
          have hfu := FU_k
          generalize FU = fu at hfu ⊢
          exact r_wloop hL hi h1 (by omega) (zSb i).length 0 fu (by omega) (by omega)
        have this2 : f_X9_isWord_68 FU (jI s) X (i + 14) 1 (0 : Int32) = some (if sE (wmis X s i) 0 (zSb i).length = true then 0 else 1, jI s) := this
        rw [this2, zB1_s]
        by_cases hh : sE (wmis X s i) 0 (zSb i).length = true
        · rw [if_pos hh, if_pos hh, if_pos rfl]
        · rw [if_neg hh, if_neg hh, if_neg one_ne, jI_add, show s + (zSb i).length = e' by omega]
      by_cases hh : sE (wmis X s i) 0 (zSb i).length = true
      · rw [if_pos hh] at kw rw1
        exact Or.inr ⟨kw, rw1⟩
      · rw [if_neg hh] at kw rw1
        exact Or.inl ⟨e', by omega, he2, c2, c1, c5, kw, rw1⟩
    · refine Or.inr ⟨?_, rno hl⟩
      unfold f_X6_isWord
      rw [if_pos c3, c5, esub, flen_j, if_neg (fun z => hl ((jI_eq (by omega) (by omega)).mp z))]
  · have := X_nn hX c1
    exact Or.inr ⟨knot (fun z => by
      rw [c4] at z
      rw [z, show (-3 : Int32).toInt = -3 from rfl] at this
      omega), rno (nolet (fun z => c3 z.2))⟩
/-- both readers before a token, or both at the same error -/
def Sf (L : Nat) (a st : Int32) : Prop := ∃ a' s', a = jI a' ∧ st = jI s' ∧ a' ≤ L ∧ s' ≤ L
def CS (L : Nat) (X : Nat → Int32) (m : Nat) (a k st v e ea nx er pl : Int32) : Prop := (e = 0 ∧ er = 0 ∧ ea = -1 ∧ ∃ s p, m ≤ s ∧ st = jI s ∧ nx = jI p ∧ Rn spc L X p s ∧ Tk L X s a k v) ∨ (¬ e = 0 ∧ er = e ∧ pl = ea ∧ Sf L a st)
theorem tk_sf {s : Nat} {a k v : Int32} (hk : Tk L X s a k v) : Sf L a (jI s) := by
  obtain ⟨t1, t2, t3⟩ := hk
  rcases t3 with ⟨c1, c2, c3⟩ | ⟨c1, c2, c3, e, c4, c5, c6⟩ | ⟨c1, c2, c3, e, c4, c5⟩ | ⟨c1, c2, c3, c4, c5⟩
  · exact ⟨L, s, c2, rfl, Nat.le_refl _, t2⟩
  · exact ⟨e, s, c5, rfl, c4.2.1, t2⟩
  · exact ⟨e, s, c5, rfl, c4.2.1, t2⟩
  · exact ⟨s + 1, s, c5, rfl, by omega, t2⟩
theorem cs_le {m m' : Nat} {a k st v e ea nx er pl : Int32} (h : CS L X m a k st v e ea nx er pl) (hm : m' ≤ m) : CS L X m' a k st v e ea nx er pl := by
  rcases h with ⟨h1, h2, h3, s, p, h4, h5⟩ | h
  · exact Or.inl ⟨h1, h2, h3, s, p, by omega, h5⟩
  · exact Or.inr h
theorem r_digit (hX : Tx L T X) {p s : Nat} (hp : Rn spc L X p s) : (s < L ∧ dgt (X s) ∧ f_X9_isDigit (jI L) (jI p) X = some (1, jI s)) ∨ (¬ (s < L ∧ dgt (X s)) ∧ f_X9_isDigit (jI L) (jI p) X = some (0, jI s)) := by
  have hL := hX.1
  have e48 : (48 : Int32).toInt = 48 := rfl
  have e57 : (57 : Int32).toInt = 57 := rfl
  have hs2 : Rn spc L X s s := rn_self hp.2.1 hp.2.2.2
  unfold f_X9_isDigit
  rw [r_sees hL hp, zB1_s]
  dsimp only
  by_cases c : s < L
  · rw [if_pos c]
    by_cases c1 : X s < 48
    · have := i32_lt.mp c1
      rw [if_pos c1]
      exact Or.inr ⟨fun z => by
        have := z.2
        unfold dgt at this
        omega, rfl⟩
    · have c1' : ¬ (X s).toInt < (48 : Int32).toInt := fun z => c1 (i32_lt.mpr z)
      rw [if_neg c1, r_sees hL hs2, zB1_s, if_pos c]
      dsimp only
      by_cases c2 : (57 : Int32) < X s
      · have := i32_lt.mp c2
        rw [if_pos c2]
        exact Or.inr ⟨fun z => by
          have := z.2
          unfold dgt at this
          omega, rfl⟩
      · have c2' : ¬ (57 : Int32).toInt < (X s).toInt := fun z => c2 (i32_lt.mpr z)
        rw [if_neg c2]
        exact Or.inl ⟨c, by unfold dgt; omega, rfl⟩
  · rw [if_neg c, if_pos (by decide)]
    exact Or.inr ⟨fun z => c z.1, rfl⟩
theorem failAt_0 (x p1 p2 : Int32) : f_X6_failAt 0 x p1 p2 = some (p2, p1) := if_pos rfl
theorem failAt_e {e : Int32} (h : ¬ e = 0) (x p1 p2 : Int32) : f_X6_failAt e x p1 p2 = some (e, x) := if_neg h
theorem fails_0 (x p1 p2 : Int32) : f_X9_fails 0 x p1 p2 = some (p1, p2) := if_pos rfl
theorem fails_e {e : Int32} (h : ¬ e = 0) (x p1 p2 : Int32) : f_X9_fails e x p1 p2 = some (e, x) := if_neg h
theorem tn_err {e : Int32} (h : ¬ e = 0) (a k st v ea lo hi : Int32) : f_X6_takeNumber (jI L) a k st v e ea T lo hi = some (-1, a, k, st, v, e, ea) := by
  have h47 : ∀ x, f_X6_takeNumber_47 (jI L) a k st v e ea T x = some (-1, a, k, st, v, e, ea) := fun x => if_neg h
  have h37 : ∀ x, f_X6_takeNumber_37 (jI L) a k st v e ea T x = some (-1, a, k, st, v, e, ea) := fun x => by
    unfold f_X6_takeNumber_37
    rw [failAt_e h, zB1_s]
    exact h47 x
  unfold f_X6_takeNumber
  by_cases c : k = -2
  · rw [if_pos c]
    by_cases c1 : v < lo
    · rw [if_pos c1, h37]
    · rw [if_neg c1]
      by_cases c2 : v ≤ hi
      · rw [if_pos c2, h47]
      · rw [if_neg c2, h37]
  · rw [if_neg c, failAt_e h, zB1_s]
    exact h47 _
theorem tn_bad {a k st v ea lo hi : Int32} (hk : ¬ k = -2) : f_X6_takeNumber (jI L) a k st v 0 ea T lo hi = some (-1, a, k, st, v, -2, st) := by
  unfold f_X6_takeNumber
  rw [if_neg hk, failAt_0, zB1_s]
  exact if_neg (show ¬ (-2 : Int32) = 0 by decide)
theorem num (hX : Tx L T X) {m : Nat} {a k st v e ea nx er pl lo hi : Int32} (hl : 0 ≤ lo.toInt) (hlh : lo.toInt ≤ 1000) (hh : hi.toInt < 100000000) (bg : Int32) (h : CS L X m a k st v e ea nx er pl) : ∃ x a' k' st' v' e' ea' y nx' er' pl' bg', f_X6_takeNumber (jI L) a k st v e ea T lo hi = some (x, a', k', st', v', e', ea') ∧ f_X9_reads (jI L) nx er pl bg X lo hi = some (y, nx', er', pl', bg') ∧ CS L X (m + 1) a' k' st' v' e' ea' nx' er' pl' ∧ (e' = 0 → e = 0 ∧ y = x ∧ lo.toInt ≤ x.toInt ∧ x.toInt ≤ hi.toInt ∧ bg' = st ∧ pl' = pl) := by
  have hL := hX.1
  rcases h with ⟨h1, h2, h3, s, p, h4, h5, h6, h7, h8⟩ | ⟨h1, h2, h3, h4⟩
  · have hsf := tk_sf h8
    obtain ⟨t1, t2, t3⟩ := id h8
    subst h1 h2 h3 h5 h6
    rcases r_digit hX h7 with ⟨d1, d2, d3⟩ | ⟨d1, d3⟩
    · have tn : k = -2 ∧ ∃ e', Rn dgt L X s e' ∧ a = jI e' ∧ cap v.toInt = vR X s (e' - s) 0 ∧ 0 ≤ v.toInt := by
        rcases t3 with ⟨c1, c2, c3⟩ | ⟨c1, c2, c3, c4⟩ | ⟨c1, c2, c3, e', c4, c5⟩ | ⟨c1, c2, c3, c4, c5⟩
        · omega
        · exact ⟨c3, c4⟩
        · exfalso
          unfold ltr at c2
          unfold dgt at d2
          omega
        · exact absurd d2 c2
      obtain ⟨k2, e', r1, r2, r3, r4⟩ := tn
      have he1 := r1.1
      have he2 := r1.2.1
      have hse : s < e' := by
        rcases Nat.lt_or_ge s e' with z | z
        · exact z
        · exact absurd d2 (by have := r1.2.2.2; rw [show e' = s by omega] at this; exact this d1)
      have hrd : ∃ r' : Int32, f_X9_reads (jI L) (jI p) 0 pl bg X lo hi = f_X9_reads_113 (jI e') 0 pl (jI s) lo hi r' ∧ r'.toInt = vR X s (e' - s) 0 := by
        unfold f_X9_reads
        rw [if_pos rfl, d3, zB1_s, if_neg one_ne]
        dsimp only
        have hfu := FU_k
        generalize FU = fu at hfu ⊢
        exact r_digits hL 0 pl (jI s) lo hi (e' - s) s e' fu 0 (by omega) (by omega) r1 (by decide) (by decide)
      obtain ⟨r', g1, g2⟩ := hrd
      rw [← r3] at g2
      have r113 : f_X9_reads_113 (jI e') 0 pl (jI s) lo hi r' = if r' < lo then some (0, jI e', -3, jI s, jI s) else if hi < r' then some (0, jI e', -3, jI s, jI s) else some (r', jI e', 0, pl, jI s) := by
        unfold f_X9_reads_113 f_X9_isIn
        simp only [L_lt]
        have bad : (zB1 (f_X9_fails 0 pl (-3) (jI s)) fun q_132 => f_X9_reads_135 (jI e') q_132.1 q_132.2 (jI s) r') = some (0, jI e', -3, jI s, jI s) := by
          rw [fails_0, zB1_s]
          exact if_neg (show ¬ (-3 : Int32) = 0 by decide)
        by_cases c1 : r' < lo
        · rw [if_pos c1, if_pos c1, zB1_s, if_pos rfl, bad]
        · rw [if_neg c1, if_neg c1]
          by_cases c2 : hi < r'
          · rw [if_pos c2, if_pos c2, zB1_s, if_pos rfl, bad]
          · rw [if_neg c2, if_neg c2, zB1_s, if_neg one_ne]
            exact if_pos rfl
      have k37 : f_X6_takeNumber_37 (jI L) a k (jI s) v 0 (-1) T v = some (-1, a, k, jI s, v, -3, jI s) := by
        unfold f_X6_takeNumber_37
        rw [failAt_0, zB1_s]
        exact if_neg (show ¬ (-3 : Int32) = 0 by decide)
      have hbad : f_X6_takeNumber (jI L) a k (jI s) v 0 (-1) T lo hi = some (-1, a, k, jI s, v, -3, jI s) → f_X9_reads_113 (jI e') 0 pl (jI s) lo hi r' = some (0, jI e', -3, jI s, jI s) → ∃ x a' k' st' v' e'_1 ea' y nx' er' pl' bg', f_X6_takeNumber (jI L) a k (jI s) v 0 (-1) T lo hi = some (x, a', k', st', v', e'_1, ea') ∧ f_X9_reads (jI L) (jI p) 0 pl bg X lo hi = some (y, nx', er', pl', bg') ∧ CS L X (m + 1) a' k' st' v' e'_1 ea' nx' er' pl' ∧ (e'_1 = 0 → (0 : Int32) = 0 ∧ y = x ∧ lo.toInt ≤ x.toInt ∧ x.toInt ≤ hi.toInt ∧ bg' = jI s ∧ pl' = pl) := fun w1 w2 => ⟨_, _, _, _, _, _, _, _, _, _, _, _, w1, g1.trans w2, Or.inr ⟨by decide, rfl, rfl, hsf⟩, fun z => absurd z (by decide)⟩
      have kt : f_X6_takeNumber (jI L) a k (jI s) v 0 (-1) T lo hi = if v < lo then f_X6_takeNumber_37 (jI L) a k (jI s) v 0 (-1) T v else if v ≤ hi then f_X6_takeNumber_47 (jI L) a k (jI s) v 0 (-1) T v else f_X6_takeNumber_37 (jI L) a k (jI s) v 0 (-1) T v := by
        unfold f_X6_takeNumber
        rw [if_pos k2]
      by_cases cv : v.toInt < 100000000
      · rw [cap_1 cv] at g2
        have ev : r' = v := i32_eq.mpr g2
        subst ev
        by_cases c1 : r' < lo
        · rw [if_pos c1] at kt r113
          exact hbad (kt.trans k37) r113
        · rw [if_neg c1] at kt r113
          by_cases c2 : r' ≤ hi
          · have c2' : ¬ hi < r' := fun z => by have := i32_lt.mp z; have := i32_le.mp c2; omega
            rw [if_pos c2] at kt
            rw [if_neg c2'] at r113
            obtain ⟨s2, a2, k3, v2, b1, b2, b3⟩ := k_adv hX he2 k (jI s) r'
            have k47 : f_X6_takeNumber_47 (jI L) a k (jI s) r' 0 (-1) T r' = some (r', a2, k3, jI s2, v2, 0, -1) := by
              unfold f_X6_takeNumber_47
              rw [if_pos rfl, r2, b3, zB1_s]
            have hb1 := b1.1
            refine ⟨_, _, _, _, _, _, _, _, _, _, _, _, kt.trans k47, g1.trans r113, Or.inl ⟨rfl, rfl, rfl, s2, e', by omega, rfl, rfl, b1, b2⟩, fun _ => ⟨rfl, rfl, ?_, i32_le.mp c2, rfl, rfl⟩⟩
            have : ¬ r'.toInt < lo.toInt := fun z => c1 (i32_lt.mpr z)
            omega
          · have c2' : hi < r' := i32_lt.mpr (by
              have : ¬ r'.toInt ≤ hi.toInt := fun z => c2 (i32_le.mpr z)
              omega)
            rw [if_neg c2] at kt
            rw [if_pos c2'] at r113
            exact hbad (kt.trans k37) r113
      · rw [cap_2 cv] at g2
        rw [if_neg (fun z => by have := i32_lt.mp z; omega), if_neg (fun z => by have := i32_le.mp z; omega)] at kt
        rw [if_neg (fun z => by have := i32_lt.mp z; omega), if_pos (i32_lt.mpr (by omega))] at r113
        exact hbad (kt.trans k37) r113
    · have hk2 : ¬ k = -2 := by
        rcases t3 with ⟨c1, c2, c3⟩ | ⟨c1, c2, c3, c4⟩ | ⟨c1, c2, c3, e', c4, c5⟩ | ⟨c1, c2, c3, c4, c5⟩
        · rw [c3]; decide
        · exact absurd ⟨c1, c2⟩ d1
        · rw [c3]; decide
        · intro z
          have := X_nn hX c1
          rw [← c4, z, show (-2 : Int32).toInt = -2 from rfl] at this
          omega
      have rr : f_X9_reads (jI L) (jI p) 0 pl bg X lo hi = some (0, jI s, -2, jI s, bg) := by
        unfold f_X9_reads
        rw [if_pos rfl, d3, zB1_s, if_pos rfl, fails_0, zB1_s]
      exact ⟨_, _, _, _, _, _, _, _, _, _, _, _, tn_bad hk2, rr, Or.inr ⟨by decide, rfl, rfl, hsf⟩, fun z => absurd z (by decide)⟩
  · subst h2 h3
    have rr : f_X9_reads (jI L) nx er pl bg X lo hi = some (0, nx, er, pl, bg) := if_neg h1
    exact ⟨_, _, _, _, _, _, _, _, _, _, _, _, tn_err h1 _ _ _ _ _ _ _, rr, Or.inr ⟨h1, rfl, rfl, h4⟩, fun z => absurd z h1⟩
/-- a sign -/
theorem tak (hX : Tx L T X) {m : Nat} {a k st v e ea nx er pl c : Int32} (hc : 33 ≤ c.toInt) (hc2 : c.toInt ≤ 47 ∨ c.toInt = 59) (h : CS L X m a k st v e ea nx er pl) : ∃ a' k' st' v' e' ea' nx' er' pl', f_X6_take (jI L) a k st v e ea T c = some (a', k', st', v', e', ea') ∧ f_X9_wants (jI L) nx er pl X c = some (nx', er', pl') ∧ CS L X (m + 1) a' k' st' v' e' ea' nx' er' pl' ∧ (e' = 0 → e = 0 ∧ pl' = pl) := by
  have hL := hX.1
  rcases h with ⟨h1, h2, h3, s, p, h4, h5, h6, h7, h8⟩ | ⟨h1, h2, h3, h4⟩
  · have hsf := tk_sf h8
    obtain ⟨t1, t2, t3⟩ := id h8
    subst h1 h2 h3 h5 h6
    by_cases cc : s < L ∧ X s = c
    · obtain ⟨c1, c2⟩ := cc
      have tn : k = c ∧ a = jI (s + 1) := by
        rcases t3 with ⟨b1, b2, b3⟩ | ⟨b1, b2, b3, b4⟩ | ⟨b1, b2, b3, e', b4, b5⟩ | ⟨b1, b2, b3, b4, b5⟩
        · omega
        · exfalso
          unfold dgt at b2
          rw [c2] at b2
          omega
        · exfalso
          unfold ltr at b2
          rw [c2] at b2
          omega
        · exact ⟨b4.trans c2, b5⟩
      obtain ⟨s2, a2, k3, v2, b1, b2, b3⟩ := k_adv hX (p := s + 1) (by omega) k (jI s) v
      have hb1 := b1.1
      have e1 : f_X6_take (jI L) a k (jI s) v 0 (-1) T c = some (a2, k3, jI s2, v2, 0, -1) := by
        unfold f_X6_take
        rw [if_pos tn.1, tn.2, b3, zB1_s]
      have e2 : f_X9_wants (jI L) (jI p) 0 pl X c = some (jI (s + 1), 0, pl) := by
        unfold f_X9_wants
        rw [if_pos rfl, r_sees hL h7, zB1_s, if_pos c1, if_pos c2, jI_1, jI_add]
      exact ⟨_, _, _, _, _, _, _, _, _, e1, e2, Or.inl ⟨rfl, rfl, rfl, s2, s + 1, by omega, rfl, rfl, b1, b2⟩, fun _ => ⟨rfl, rfl⟩⟩
    · have nk : ¬ k = c := fun z => by
        rcases t3 with ⟨b1, b2, b3⟩ | ⟨b1, b2, b3, b4⟩ | ⟨b1, b2, b3, e', b4, b5⟩ | ⟨b1, b2, b3, b4, b5⟩
        · rw [← z, b3, show (-1 : Int32).toInt = -1 from rfl] at hc
          omega
        · rw [← z, b3, show (-2 : Int32).toInt = -2 from rfl] at hc
          omega
        · rw [← z, b3, show (-3 : Int32).toInt = -3 from rfl] at hc
          omega
        · exact cc ⟨b1, b4.symm.trans z⟩
      have e1 : f_X6_take (jI L) a k (jI s) v 0 (-1) T c = some (a, k, jI s, v, -2, jI s) := by
        unfold f_X6_take
        rw [if_neg nk, failAt_0, zB1_s]
      have e2 : f_X9_wants (jI L) (jI p) 0 pl X c = some (jI s, -2, jI s) := by
        unfold f_X9_wants
        rw [if_pos rfl, r_sees hL h7, zB1_s]
        dsimp only
        rw [if_neg (fun z => by
          by_cases c1 : s < L
          · rw [if_pos c1] at z
            exact cc ⟨c1, z⟩
          · rw [if_neg c1] at z
            rw [← z, show (-1 : Int32).toInt = -1 from rfl] at hc
            omega), fails_0, zB1_s]
      exact ⟨_, _, _, _, _, _, _, _, _, e1, e2, Or.inr ⟨by decide, rfl, rfl, hsf⟩, fun z => absurd z (by decide)⟩
  · subst h2 h3
    have e2 : f_X9_wants (jI L) nx er pl X c = some (nx, er, pl) := if_neg h1
    by_cases ck : k = c
    · obtain ⟨a', s', q1, q2, q3, q4⟩ := h4
      obtain ⟨s2, a2, k3, v2, b1, b2, b3⟩ := k_adv hX q3 k st v
      have e1 : f_X6_take (jI L) a k st v er pl T c = some (a2, k3, jI s2, v2, er, pl) := by
        unfold f_X6_take
        rw [if_pos ck, q1, b3, zB1_s]
      exact ⟨_, _, _, _, _, _, _, _, _, e1, e2, Or.inr ⟨h1, rfl, rfl, tk_sf b2⟩, fun z => absurd z h1⟩
    · have e1 : f_X6_take (jI L) a k st v er pl T c = some (a, k, st, v, er, pl) := by
        unfold f_X6_take
        rw [if_neg ck, failAt_e h1, zB1_s]
      exact ⟨_, _, _, _, _, _, _, _, _, e1, e2, Or.inr ⟨h1, rfl, rfl, h4⟩, fun z => absurd z h1⟩
/-- the class's word in an error -/
theorem k_isWord_sf (hX : Tx L T X) {i : Nat} {a k st : Int32} (hi : i < 11) (h1 : 1 ≤ i) (h : Sf L a st) : f_X6_isWord a k st T i = some 0 ∨ f_X6_isWord a k st T i = some 1 := by
  obtain ⟨a', s', q1, q2, q3, q4⟩ := h
  obtain ⟨-, n1, n9, ch⟩ := wd_f i hi h1
  have hL := hX.1
  unfold f_X6_isWord
  by_cases c : k = -3
  · rw [if_pos c]
    by_cases c2 : a - st = f_len i
    · rw [if_pos c2, q2]
      have : s' + (zSb i).length ≤ L := by
        rw [q1, q2, flen_j] at c2
        have := congrArg Int32.toInt c2
        rw [I_sub (by rw [jI_toInt (by omega), jI_toInt (by omega)]; omega) (by rw [jI_toInt (by omega), jI_toInt (by omega)]; omega), jI_toInt (by omega), jI_toInt (by omega), jI_toInt (by omega)] at this
        omega
      rw [k_wloop hX hi h1 this]
      split
      · exact Or.inl rfl
      · exact Or.inr rfl
    · rw [if_neg c2]
      exact Or.inl rfl
  · rw [if_neg c]
    exact Or.inl rfl
/-- a word that must stand there -/
theorem wrd (hX : Tx L T X) {i m : Nat} {a k st v e ea nx er pl : Int32} (hi : i < 11) (h1 : 1 ≤ i) (h : CS L X m a k st v e ea nx er pl) : ∃ a' k' st' v' e' ea' nx' er' pl', f_X6_takeWord (jI L) a k st v e ea T i = some (a', k', st', v', e', ea') ∧ f_X9_needs (jI L) nx er pl X (i + 14) = some (nx', er', pl') ∧ CS L X (m + 1) a' k' st' v' e' ea' nx' er' pl' ∧ (e' = 0 → e = 0 ∧ pl' = pl) := by
  have hL := hX.1
  rcases h with ⟨g1, g2, g3, s, p, h4, h5, h6, h7, h8⟩ | ⟨g1, g2, g3, h4⟩
  · have hsf := tk_sf h8
    subst g1 g2 g3 h5 h6
    rcases wordP hX hi h1 h7 h8 with ⟨e, w1, w2, w3, w4, w5, w6, w7⟩ | ⟨w6, w7⟩
    · obtain ⟨s2, a2, k3, v2, b1, b2, b3⟩ := k_adv hX w2 k (jI s) v
      have hb1 := b1.1
      have e1 : f_X6_takeWord (jI L) a k (jI s) v 0 (-1) T i = some (a2, k3, jI s2, v2, 0, -1) := by
        unfold f_X6_takeWord
        rw [w6, zB1_s, if_neg one_ne, w5, b3, zB1_s]
      have e2 : f_X9_needs (jI L) (jI p) 0 pl X (i + 14) = some (jI e, 0, pl) := by
        unfold f_X9_needs
        rw [if_pos rfl, w7, zB1_s, if_neg one_ne]
      exact ⟨_, _, _, _, _, _, _, _, _, e1, e2, Or.inl ⟨rfl, rfl, rfl, s2, e, by omega, rfl, rfl, b1, b2⟩, fun _ => ⟨rfl, rfl⟩⟩
    · have e1 : f_X6_takeWord (jI L) a k (jI s) v 0 (-1) T i = some (a, k, jI s, v, -2, jI s) := by
        unfold f_X6_takeWord
        rw [w6, zB1_s, if_pos rfl, failAt_0, zB1_s]
      have e2 : f_X9_needs (jI L) (jI p) 0 pl X (i + 14) = some (jI s, -2, jI s) := by
        unfold f_X9_needs
        rw [if_pos rfl, w7, zB1_s, if_pos rfl, fails_0, zB1_s]
      exact ⟨_, _, _, _, _, _, _, _, _, e1, e2, Or.inr ⟨by decide, rfl, rfl, hsf⟩, fun z => absurd z (by decide)⟩
  · subst g2 g3
    have e2 : f_X9_needs (jI L) nx er pl X (i + 14) = some (nx, er, pl) := if_neg g1
    rcases k_isWord_sf (k := k) hX hi h1 h4 with w | w
    · have e1 : f_X6_takeWord (jI L) a k st v er pl T i = some (a, k, st, v, er, pl) := by
        unfold f_X6_takeWord
        rw [w, zB1_s, if_pos rfl, failAt_e g1, zB1_s]
      exact ⟨_, _, _, _, _, _, _, _, _, e1, e2, Or.inr ⟨g1, rfl, rfl, h4⟩, fun z => absurd z g1⟩
    · obtain ⟨a', s', q1, q2, q3, q4⟩ := h4
      obtain ⟨s2, a2, k3, v2, b1, b2, b3⟩ := k_adv hX q3 k st v
      have e1 : f_X6_takeWord (jI L) a k st v er pl T i = some (a2, k3, jI s2, v2, er, pl) := by
        unfold f_X6_takeWord
        rw [w, zB1_s, if_neg one_ne, q1, b3, zB1_s]
      exact ⟨_, _, _, _, _, _, _, _, _, e1, e2, Or.inr ⟨g1, rfl, rfl, tk_sf b2⟩, fun z => absurd z g1⟩
end PRIM
