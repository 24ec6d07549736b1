/-! layer 3: the tokens of a text, here and there -/
theorem tR_i {x y : Int32} (h : tR x y) : 0 ≤ y.toInt ∧ y.toInt ≤ 255 ∧ (y.toInt = x.toInt ∨ (x.toInt < 0 ∧ y.toInt = x.toInt + 256)) ∧ (0 ≤ x.toInt → y.toInt = x.toInt) := by
  obtain ⟨h1, h2, h3⟩ := h
  have e1 : y.toBitVec.toNat = x.toBitVec.toNat % 256 := by
    rw [h3]
    show (x.toBitVec &&& 255#32).toNat = _
    rw [BitVec.toNat_and]
    exact Nat.and_two_pow_sub_one_eq_mod _ 8
  have e2 : y.toInt = if 2 * y.toBitVec.toNat < 2 ^ 32 then (y.toBitVec.toNat : Int) else (y.toBitVec.toNat : Int) - ((2 ^ 32 : Nat) : Int) := BitVec.toInt_eq_toNat_cond _
  have e3 : x.toInt = if 2 * x.toBitVec.toNat < 2 ^ 32 then (x.toBitVec.toNat : Int) else (x.toBitVec.toNat : Int) - ((2 ^ 32 : Nat) : Int) := BitVec.toInt_eq_toNat_cond _
  have e4 : x.toBitVec.toNat < 2 ^ 32 := x.toBitVec.isLt
  rw [if_pos (by omega)] at e2
  by_cases c : 2 * x.toBitVec.toNat < 2 ^ 32
  · rw [if_pos c] at e3
    omega
  · rw [if_neg c] at e3
    omega
theorem i32_lt {a b : Int32} : a < b ↔ a.toInt < b.toInt := Int32.lt_iff_toInt_lt
theorem i32_le {a b : Int32} : a ≤ b ↔ a.toInt ≤ b.toInt := Int32.le_iff_toInt_le
theorem i32_eq {a b : Int32} : a = b ↔ a.toInt = b.toInt := Int32.toInt_inj.symm
def dgt (y : Int32) : Prop := 48 ≤ y.toInt ∧ y.toInt ≤ 57
def ltr (y : Int32) : Prop := 97 ≤ y.toInt ∧ y.toInt ≤ 122
def spc (y : Int32) : Prop := y.toInt = 32
/-- a run of such signs from s up to e -/
def Rn (Q : Int32 → Prop) (L : Nat) (X : Nat → Int32) (s e : Nat) : Prop := s ≤ e ∧ e ≤ L ∧ (∀ k, s ≤ k → k < e → Q (X k)) ∧ (e < L → ¬ Q (X e))
section LEX
variable {L : Nat} {T X : Nat → Int32} {Q : Int32 → Prop}
theorem rn_ex : ∀ (m s : Nat), s + m = L → ∃ e, Rn Q L X s e
  | 0, s, h => ⟨s, Nat.le_refl _, by omega, fun k h1 h2 => by omega, fun h => by omega⟩
  | m + 1, s, h => by
    by_cases c : Q (X s)
    · obtain ⟨e, a1, a2, a3, a4⟩ := rn_ex m (s + 1) (by omega)
      refine ⟨e, by omega, a2, fun k h1 h2 => ?_, a4⟩
      by_cases c2 : k = s
      · rw [c2]
        exact c
      · exact a3 k (by omega) h2
    · exact ⟨s, Nat.le_refl _, by omega, fun k h1 h2 => by omega, fun _ => c⟩
theorem rn_un {s e e' : Nat} (h : Rn Q L X s e) (h' : Rn Q L X s e') : e = e' := by
  obtain ⟨a1, a2, a3, a4⟩ := h
  obtain ⟨b1, b2, b3, b4⟩ := h'
  rcases Nat.lt_trichotomy e e' with c | c | c
  · exact absurd (b3 e a1 c) (a4 (by omega))
  · exact c
  · exact absurd (a3 e' b1 c) (b4 (by omega))
theorem rn_self {s : Nat} (h1 : s ≤ L) (h2 : s < L → ¬ Q (X s)) : Rn Q L X s s := ⟨Nat.le_refl _, h1, fun k a b => by omega, h2⟩
theorem rn_next {s e : Nat} (h : Rn Q L X s e) (hs : s < e) : Rn Q L X (s + 1) e := ⟨hs, h.2.1, fun k a b => h.2.2.1 k (by omega) b, h.2.2.2⟩
def Tx (L : Nat) (T X : Nat → Int32) : Prop := L ≤ 900 ∧ ∀ k, k < L → tR (T k) (X k)
/-- the reference's blanks -/
theorem r_sees0 (hL : L ≤ 900) : ∀ (m p s z : Nat), p + m = s → m < z → Rn spc L X p s → f_X9_sees_0 z (jI L) (jI p) X = some ((if s < L then X s else (-1 : Int32)), jI s) := by
  have e32 : (32 : Int32).toInt = 32 := rfl
  have last : ∀ s, s ≤ L → f_X9_sees_38 (jI L) (jI s) X = some ((if s < L then X s else (-1 : Int32)), jI s) := fun s hs => by
    unfold f_X9_sees_38
    by_cases c : s < L
    · rw [if_neg (fun z => by have := (jI_le (by omega) (by omega)).mp z; omega), zR_n (by omega) (by omega), if_pos c]
    · rw [if_pos ((jI_le (by omega) (by omega)).mpr (by omega)), if_neg c]
  intro m
  induction m with
  | zero =>
    intro p s z hp hz h
    obtain ⟨z, rfl⟩ : ∃ y, z = y + 1 := ⟨z - 1, by omega⟩
    have : p = s := by omega
    subst this
    have hpl := h.2.1
    simp only [f_X9_sees_0]
    by_cases c : p < L
    · have ns : ¬ X p = 32 := fun z => h.2.2.2 c (by unfold spc; rw [z]; rfl)
      rw [if_neg (fun z => by have := (jI_le (by omega) (by omega)).mp z; omega), zR_n (by omega) (by omega), if_neg ns]
      exact last p (by omega)
    · rw [if_pos ((jI_le (by omega) (by omega)).mpr (by omega))]
      exact last p h.2.1
  | succ m ih =>
    intro p s z hp hz h
    obtain ⟨z, rfl⟩ : ∃ y, z = y + 1 := ⟨z - 1, by omega⟩
    have hs := h.2.1
    have ys : X p = 32 := i32_eq.mpr (h.2.2.1 p (Nat.le_refl _) (by omega))
    have ep : jI p + (1 : Int32) = jI (p + 1) := by rw [jI_1, jI_add]
    simp only [f_X9_sees_0]
    rw [if_neg (fun z => by have := (jI_le (by omega) (by omega)).mp z; omega), zR_n (by omega) (by omega), if_pos ys, ep]
    exact ih (p + 1) s z (by omega) (by omega) (rn_next h (by omega))
theorem r_sees (hL : L ≤ 900) {p s : Nat} (h : Rn spc L X p s) : f_X9_sees (jI L) (jI p) X = some ((if s < L then X s else (-1 : Int32)), jI s) := by
  unfold f_X9_sees
  have hfu := FU_k
  have h1 := h.1
  have h2 := h.2.1
  generalize FU = fu at hfu ⊢
  exact r_sees0 hL (s - p) p s fu (by omega) (by omega) h
theorem k_skip (hX : Tx L T X) (k st v : Int32) : ∀ (m p s z : Nat), p + m = s → m < z → Rn spc L X p s → f_X6_advance_0 z (jI L) (jI p) k st v T = f_X6_advance_38 (jI L) (jI s) k st v T := by
  obtain ⟨hL, hT⟩ := hX
  have e32 : (32 : Int32).toInt = 32 := rfl
  intro m
  induction m with
  | zero =>
    intro p s z hp hz h
    obtain ⟨z, rfl⟩ : ∃ y, z = y + 1 := ⟨z - 1, by omega⟩
    have : p = s := by omega
    subst this
    have hpl := h.2.1
    simp only [f_X6_advance_0]
    by_cases c : p < L
    · have ns : ¬ T p = 32 := fun z => h.2.2.2 c (by
        have := (tR_i (hT p c)).2.2.2
        rw [z] at this
        unfold spc
        omega)
      rw [if_neg (fun z => by have := (jI_le (by omega) (by omega)).mp z; omega), zR_n (by omega) (by omega), if_neg ns]
    · rw [if_pos ((jI_le (by omega) (by omega)).mpr (by omega))]
  | succ m ih =>
    intro p s z hp hz h
    obtain ⟨z, rfl⟩ : ∃ y, z = y + 1 := ⟨z - 1, by omega⟩
    have hs := h.2.1
    have hsp := h.2.2.1 p (Nat.le_refl _) (by omega)
    have ys : T p = 32 := i32_eq.mpr (by
      have := (tR_i (hT p (by omega)))
      have h1 := (hT p (by omega)).1
      unfold spc at hsp
      omega)
    have ep : jI p + (1 : Int32) = jI (p + 1) := by rw [jI_1, jI_add]
    simp only [f_X6_advance_0]
    rw [if_neg (fun z => by have := (jI_le (by omega) (by omega)).mp z; omega), zR_n (by omega) (by omega), if_pos ys, ep]
    exact ih (p + 1) s z (by omega) (by omega) (rn_next h (by omega))
/-- a number's value, capped -/
def cap (c : Int) : Int := if c < 100000000 then c else 100000000
def vR (X : Nat → Int32) : Nat → Nat → Int → Int
  | _, 0, r => r
  | p, m + 1, r => vR X (p + 1) m (cap (10 * r + (X p).toInt - 48))
theorem cap_1 {c : Int} (h : c < 100000000) : cap c = c := if_pos h
theorem cap_2 {c : Int} (h : ¬ c < 100000000) : cap c = 100000000 := if_neg h
theorem k_digits (hX : Tx L T X) (k st : Int32) : ∀ (m p e z : Nat) (v : Int32), p + m = e → m < z → Rn dgt L X p e → 0 ≤ v.toInt → v.toInt ≤ 1000000000 → ∃ v', f_X6_advance_96 z (jI L) (jI p) k st v T = some (jI e, k, st, v') ∧ 0 ≤ v'.toInt ∧ cap v'.toInt = vR X p m (cap v.toInt) := by
  obtain ⟨hL, hT⟩ := hX
  have e48 : (48 : Int32).toInt = 48 := rfl
  have e57 : (57 : Int32).toInt = 57 := rfl
  have e10 : (10 : Int32).toInt = 10 := rfl
  have eh : (100000000 : Int32).toInt = 100000000 := rfl
  intro m
  induction m with
  | zero =>
    intro p e z v hp hz h v0 v1
    obtain ⟨z, rfl⟩ : ∃ y, z = y + 1 := ⟨z - 1, by omega⟩
    have : p = e := by omega
    subst this
    have hpl := h.2.1
    refine ⟨v, ?_, v0, rfl⟩
    simp only [f_X6_advance_96]
    by_cases c : p < L
    · have nd := h.2.2.2 c
      have tr := tR_i (hT p c)
      unfold dgt at nd
      rw [if_neg (fun z => by have := (jI_le (by omega) (by omega)).mp z; omega), zR_n (by omega) (by omega)]
      by_cases c1 : T p < 48
      · rw [if_pos c1]
      · have c1' : ¬ (T p).toInt < (48 : Int32).toInt := fun z => c1 (i32_lt.mpr z)
        rw [if_neg c1, zR_n (by omega) (by omega), if_pos (i32_lt.mpr (by omega))]
    · rw [if_pos ((jI_le (by omega) (by omega)).mpr (by omega))]
  | succ m ih =>
    intro p e z v hp hz h v0 v1
    obtain ⟨z, rfl⟩ : ∃ y, z = y + 1 := ⟨z - 1, by omega⟩
    have hs := h.2.1
    have dg := h.2.2.1 p (Nat.le_refl _) (by omega)
    have tr := tR_i (hT p (by omega))
    have trl := (hT p (by omega)).1
    unfold dgt at dg
    have et : (T p).toInt = (X p).toInt := by omega
    have ep : jI p + (1 : Int32) = jI (p + 1) := by rw [jI_1, jI_add]
    have nx := rn_next h (by omega)
    simp only [f_X6_advance_96]
    rw [if_neg (fun z => by have := (jI_le (by omega) (by omega)).mp z; omega), zR_n (by omega) (by omega), if_neg (fun z => by have := i32_lt.mp z; omega), zR_n (by omega) (by omega), if_neg (fun z => by have := i32_lt.mp z; omega)]
    unfold f_X6_advance_170
    rw [ep]
    show ∃ v' : Int32, _ ∧ _ ∧ cap v'.toInt = vR X (p + 1) m (cap (10 * cap v.toInt + (X p).toInt - 48))
    by_cases c : (100000000 : Int32) ≤ v
    · have c' := i32_le.mp c
      rw [if_pos c]
      obtain ⟨v', a1, a2, a3⟩ := ih (p + 1) e z 100000000 (by omega) (by omega) nx (by omega) (by omega)
      refine ⟨v', a1, a2, ?_⟩
      rw [a3, cap_2 (c := v.toInt) (by omega), cap_2 (c := (100000000 : Int32).toInt) (by omega), cap_2 (c := 10 * 100000000 + (X p).toInt - 48) (by omega)]
    · have c' : ¬ (100000000 : Int32).toInt ≤ v.toInt := fun z => c (i32_le.mpr z)
      rw [if_neg c, zR_n (by omega) (by omega)]
      have m1 := I_mul (a := v) (b := 10) (by rw [e10]; omega) (by rw [e10]; omega)
      rw [e10] at m1
      have m2 := I_add (a := v * 10) (b := T p) (by omega) (by omega)
      have m3 := I_sub (a := v * 10 + T p) (b := 48) (by omega) (by omega)
      obtain ⟨v', a1, a2, a3⟩ := ih (p + 1) e z (v * 10 + T p - 48) (by omega) (by omega) nx (by omega) (by omega)
      refine ⟨v', a1, a2, ?_⟩
      rw [a3, cap_1 (c := v.toInt) (by omega), m3, m2, m1, et, e48, Int.mul_comm]
theorem vR_bd {e : Nat} : ∀ (m p : Nat) (r : Int), p + m = e → (∀ k, p ≤ k → k < e → dgt (X k)) → 0 ≤ r → r ≤ 100000000 → 0 ≤ vR X p m r ∧ vR X p m r ≤ 100000000
  | 0, p, r, _, _, h1, h2 => ⟨h1, h2⟩
  | m + 1, p, r, hp, hd, h1, h2 => by
    have d := hd p (Nat.le_refl _) (by omega)
    unfold dgt at d
    refine vR_bd m (p + 1) _ (by omega) (fun k a b => hd k (by omega) b) ?_ ?_
    · unfold cap
      split <;> omega
    · unfold cap
      split <;> omega
theorem r_digits (hL : L ≤ 900) (er pl bg lo hi : Int32) : ∀ (m p e z : Nat) (r : Int32), p + m = e → m < z → Rn dgt L X p e → 0 ≤ r.toInt → r.toInt ≤ 100000000 → ∃ r' : Int32, f_X9_reads_38 z (jI L) (jI p) er pl bg X lo hi r = f_X9_reads_113 (jI e) er pl bg lo hi r' ∧ r'.toInt = vR X p m r.toInt := by
  have e48 : (48 : Int32).toInt = 48 := rfl
  have e57 : (57 : Int32).toInt = 57 := rfl
  have e10 : (10 : Int32).toInt = 10 := rfl
  have eh : (100000000 : Int32).toInt = 100000000 := rfl
  intro m
  induction m with
  | zero =>
    intro p e z r hp hz h v0 v1
    obtain ⟨z, rfl⟩ : ∃ y, z = y + 1 := ⟨z - 1, by omega⟩
    have : p = e := by omega
    subst this
    have hpl := h.2.1
    refine ⟨r, ?_, rfl⟩
    simp only [f_X9_reads_38]
    by_cases c : p < L
    · have nd := h.2.2.2 c
      unfold dgt at nd
      rw [if_neg (fun z => by have := (jI_le (by omega) (by omega)).mp z; omega), zR_n (by omega) (by omega)]
      by_cases c1 : X p < 48
      · rw [if_pos c1]
      · have c1' : ¬ (X p).toInt < (48 : Int32).toInt := fun z => c1 (i32_lt.mpr z)
        rw [if_neg c1, zR_n (by omega) (by omega), if_pos (i32_lt.mpr (by omega))]
    · rw [if_pos ((jI_le (by omega) (by omega)).mpr (by omega))]
  | succ m ih =>
    intro p e z r hp hz h v0 v1
    obtain ⟨z, rfl⟩ : ∃ y, z = y + 1 := ⟨z - 1, by omega⟩
    have hs := h.2.1
    have dg := h.2.2.1 p (Nat.le_refl _) (by omega)
    unfold dgt at dg
    have ep : jI p + (1 : Int32) = jI (p + 1) := by rw [jI_1, jI_add]
    have nx := rn_next h (by omega)
    simp only [f_X9_reads_38]
    rw [if_neg (fun z => by have := (jI_le (by omega) (by omega)).mp z; omega), zR_n (by omega) (by omega), if_neg (fun z => by have := i32_lt.mp z; omega), zR_n (by omega) (by omega), if_neg (fun z => by have := i32_lt.mp z; omega), zR_n (by omega) (by omega), ep]
    have m1 := I_mul (a := 10) (b := r) (by rw [e10]; omega) (by rw [e10]; omega)
    rw [e10] at m1
    have m2 := I_add (a := 10 * r) (b := X p) (by omega) (by omega)
    have m3 := I_sub (a := 10 * r + X p) (b := 48) (by omega) (by omega)
    show ∃ r' : Int32, _ ∧ r'.toInt = vR X (p + 1) m (cap (10 * r.toInt + (X p).toInt - 48))
    by_cases c : (10 : Int32) * r + X p - 48 < 100000000
    · have c' := i32_lt.mp c
      rw [if_pos c]
      obtain ⟨r', a1, a2⟩ := ih (p + 1) e z (10 * r + X p - 48) (by omega) (by omega) nx (by omega) (by omega)
      refine ⟨r', a1, ?_⟩
      rw [a2, cap_1 (by omega), m3, m2, m1, e48]
    · have c' : ¬ ((10 : Int32) * r + X p - 48).toInt < (100000000 : Int32).toInt := fun z => c (i32_lt.mpr z)
      rw [if_neg c]
      obtain ⟨r', a1, a2⟩ := ih (p + 1) e z 100000000 (by omega) (by omega) nx (by omega) (by omega)
      refine ⟨r', a1, ?_⟩
      rw [a2, cap_2 (by omega), eh]
theorem k_letters (hX : Tx L T X) (k st v : Int32) : ∀ (m p e z : Nat), p + m = e → m < z → Rn ltr L X p e → f_X6_advance_204 z (jI L) (jI p) k st v T = some (jI e, k, st, v) := by
  obtain ⟨hL, hT⟩ := hX
  have e97 : (97 : Int32).toInt = 97 := rfl
  have e122 : (122 : Int32).toInt = 122 := rfl
  intro m
  induction m with
  | zero =>
    intro p e z hp hz h
    obtain ⟨z, rfl⟩ : ∃ y, z = y + 1 := ⟨z - 1, by omega⟩
    have : p = e := by omega
    subst this
    have hpl := h.2.1
    simp only [f_X6_advance_204]
    by_cases c : p < L
    · have nd := h.2.2.2 c
      have tr := tR_i (hT p c)
      unfold ltr at nd
      rw [if_neg (fun z => by have := (jI_le (by omega) (by omega)).mp z; omega), zR_n (by omega) (by omega)]
      by_cases c1 : T p < 97
      · rw [if_pos c1]
      · have c1' : ¬ (T p).toInt < (97 : Int32).toInt := fun z => c1 (i32_lt.mpr z)
        rw [if_neg c1, zR_n (by omega) (by omega), if_pos (i32_lt.mpr (by omega))]
    · rw [if_pos ((jI_le (by omega) (by omega)).mpr (by omega))]
  | succ m ih =>
    intro p e z hp hz h
    obtain ⟨z, rfl⟩ : ∃ y, z = y + 1 := ⟨z - 1, by omega⟩
    have hs := h.2.1
    have dg := h.2.2.1 p (Nat.le_refl _) (by omega)
    have tr := tR_i (hT p (by omega))
    have trl := (hT p (by omega)).1
    unfold ltr at dg
    have ep : jI p + (1 : Int32) = jI (p + 1) := by rw [jI_1, jI_add]
    simp only [f_X6_advance_204]
    rw [if_neg (fun z => by have := (jI_le (by omega) (by omega)).mp z; omega), zR_n (by omega) (by omega), if_neg (fun z => by have := i32_lt.mp z; omega), zR_n (by omega) (by omega), if_neg (fun z => by have := i32_lt.mp z; omega), ep]
    exact ih (p + 1) e z (by omega) (by omega) (rn_next h (by omega))
/-- the class's token at s -/
def Tk (L : Nat) (X : Nat → Int32) (s : Nat) (a k v : Int32) : Prop := (s < L → ¬ spc (X s)) ∧ s ≤ L ∧ ((s = L ∧ a = jI L ∧ k = -1) ∨ (s < L ∧ dgt (X s) ∧ k = -2 ∧ ∃ e, Rn dgt L X s e ∧ a = jI e ∧ cap v.toInt = vR X s (e - s) 0 ∧ 0 ≤ v.toInt) ∨ (s < L ∧ ltr (X s) ∧ k = -3 ∧ ∃ e, Rn ltr L X s e ∧ a = jI e) ∨ (s < L ∧ ¬ dgt (X s) ∧ ¬ ltr (X s) ∧ k = X s ∧ a = jI (s + 1)))
theorem k_adv (hX : Tx L T X) {p : Nat} (hp : p ≤ L) (k st v : Int32) : ∃ (s : Nat) (a' k' v' : Int32), Rn spc L X p s ∧ Tk L X s a' k' v' ∧ f_X6_advance (jI L) (jI p) k st v T = some (a', k', jI s, v') := by
  obtain ⟨s, hs⟩ := rn_ex (Q := spc) (X := X) (L := L) (L - p) p (by omega)
  have h1 := hs.1
  have h2 := hs.2.1
  have hL := hX.1
  have hfu := FU_k
  have e1 : f_X6_advance (jI L) (jI p) k st v T = f_X6_advance_38 (jI L) (jI s) k st v T := by
    unfold f_X6_advance
    generalize FU = fu at hfu ⊢
    exact k_skip hX k st v (s - p) p s fu (by omega) (by omega) hs
  rw [e1]
  unfold f_X6_advance_38
  by_cases c : s < L
  · have e48 : (48 : Int32).toInt = 48 := rfl
    have e57 : (57 : Int32).toInt = 57 := rfl
    have e97 : (97 : Int32).toInt = 97 := rfl
    have e122 : (122 : Int32).toInt = 122 := rfl
    have tr := tR_i (hX.2 s c)
    have trl := (hX.2 s c).1
    have ns := hs.2.2.2 c
    rw [if_pos ((jI_lt (by omega) (by omega)).mpr c), zR_n (by omega) (by omega)]
    have sg : ¬ dgt (X s) → ∃ (s' : Nat) (a' k' v' : Int32), Rn spc L X p s' ∧ Tk L X s' a' k' v' ∧ f_X6_advance_186 (jI L) (jI s) k (jI s) v T (T s) = some (a', k', jI s', v') := by
      intro nd
      unfold f_X6_advance_186
      have oth : ¬ ltr (X s) → ∃ (s' : Nat) (a' k' v' : Int32), Rn spc L X p s' ∧ Tk L X s' a' k' v' ∧ f_X6_advance_256 (jI s) k (jI s) v (T s) = some (a', k', jI s', v') := by
        intro nl
        refine ⟨s, jI (s + 1), X s, v, hs, ⟨fun _ => ns, h2, Or.inr (Or.inr (Or.inr ⟨c, nd, nl, rfl, rfl⟩))⟩, ?_⟩
        unfold f_X6_advance_256
        rw [jI_1, jI_add, (hX.2 s c).2.2]
      unfold ltr at oth
      by_cases c1 : T s < 97
      · rw [if_pos c1]
        have := i32_lt.mp c1
        exact oth (by omega)
      · have c1' : ¬ (T s).toInt < (97 : Int32).toInt := fun z => c1 (i32_lt.mpr z)
        rw [if_neg c1]
        by_cases c2 : (122 : Int32) < T s
        · rw [if_pos c2]
          have := i32_lt.mp c2
          exact oth (by omega)
        · have c2' : ¬ (122 : Int32).toInt < (T s).toInt := fun z => c2 (i32_lt.mpr z)
          rw [if_neg c2]
          obtain ⟨e, he⟩ := rn_ex (Q := ltr) (X := X) (L := L) (L - s) s (by omega)
          refine ⟨s, jI e, -3, v, hs, ⟨fun _ => ns, h2, Or.inr (Or.inr (Or.inl ⟨c, ?_, rfl, e, he, rfl⟩))⟩, ?_⟩
          · unfold ltr
            omega
          · have he1 := he.1
            have he2 := he.2.1
            generalize FU = fu at hfu ⊢
            exact k_letters hX (-3) (jI s) v (e - s) s e fu (by omega) (by omega) he
    unfold dgt at sg
    by_cases c1 : T s < 48
    · rw [if_pos c1]
      have := i32_lt.mp c1
      exact sg (by omega)
    · have c1' : ¬ (T s).toInt < (48 : Int32).toInt := fun z => c1 (i32_lt.mpr z)
      rw [if_neg c1]
      by_cases c2 : (57 : Int32) < T s
      · rw [if_pos c2]
        have := i32_lt.mp c2
        exact sg (by omega)
      · have c2' : ¬ (57 : Int32).toInt < (T s).toInt := fun z => c2 (i32_lt.mpr z)
        rw [if_neg c2]
        obtain ⟨e, he⟩ := rn_ex (Q := dgt) (X := X) (L := L) (L - s) s (by omega)
        have he1 := he.1
        have he2 := he.2.1
        have hd : ∃ v', f_X6_advance_96 FU (jI L) (jI s) (-2) (jI s) 0 T = some (jI e, -2, jI s, v') ∧ 0 ≤ v'.toInt ∧ cap v'.toInt = vR X s (e - s) (cap (0 : Int32).toInt) := by
          generalize FU = fu at hfu ⊢
          exact k_digits hX (-2) (jI s) (e - s) s e fu 0 (by omega) (by omega) he (by decide) (by decide)
        obtain ⟨v', g1, g2, g3⟩ := hd
        refine ⟨s, jI e, -2, v', hs, ⟨fun _ => ns, h2, Or.inr (Or.inl ⟨c, ?_, rfl, e, he, rfl, g3, g2⟩)⟩, g1⟩
        unfold dgt
        omega
  · have : s = L := by omega
    rw [if_neg (fun z => by have := (jI_lt (by omega) (by omega)).mp z; omega), this]
    exact ⟨L, jI L, -1, v, this ▸ hs, ⟨fun h => by omega, Nat.le_refl _, Or.inl ⟨rfl, rfl, rfl⟩⟩, rfl⟩
end LEX
