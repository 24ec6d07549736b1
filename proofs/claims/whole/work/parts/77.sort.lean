/-! layer 3: the order of certificates by due days -/
def lxl (due : Nat → Int32) (a c : Nat) : Prop := (due a).toInt < (due c).toInt ∨ ((due a).toInt = (due c).toInt ∧ a < c)
theorem lxl_irr {due : Nat → Int32} {a : Nat} (h : lxl due a a) : False := by
  unfold lxl at h
  omega
theorem lxl_asy {due : Nat → Int32} {a c : Nat} (h : lxl due a c) (h2 : lxl due c a) : False := by
  unfold lxl at h h2
  omega
theorem lxl_le {due : Nat → Int32} {a c : Nat} (h : lxl due a c) : (due a).toInt ≤ (due c).toInt := by
  unfold lxl at h
  omega
def oS (due : Nat → Int32) (b : Nat → Int32) (o : Nat → Nat) (i : Nat) : Prop := (∀ j, j < i → b j = jI (o j) ∧ o j < i) ∧ (∀ j k, j < k → k < i → lxl due (o j) (o k)) ∧ ∀ k, k < i → ∃ j, j < i ∧ o j = k
section SORT
variable {n : Nat} {due : Nat → Int32}
theorem sort_put {i p : Nat} {o : Nat → Nat} {b b' : Nat → Int32} (h : oS due b o i) (hp : p ≤ i) (h1 : ∀ j, j < p → b' j = jI (o j)) (h2 : ∀ j, p ≤ j → j < i → b' (j + 1) = jI (o j) ∧ (due i).toInt < (due (o j)).toInt) (h3 : p = 0 ∨ (due (o (p - 1))).toInt ≤ (due i).toInt) : oS due (upd b' p (jI i)) (fun j => if j < p then o j else if j = p then i else o (j - 1)) (i + 1) := by
  obtain ⟨a1, a2, a3⟩ := h
  generalize hf : (fun j => if j < p then o j else if j = p then i else o (j - 1)) = f
  have f1 : ∀ j, j < p → f j = o j := fun j hj => by rw [← hf]; exact if_pos hj
  have f2 : f p = i := by
    rw [← hf]
    show (if p < p then o p else if p = p then i else o (p - 1)) = i
    rw [if_neg (by omega), if_pos rfl]
  have f3 : ∀ j, p < j → f j = o (j - 1) := fun j hj => by
    rw [← hf]
    show (if j < p then o j else if j = p then i else o (j - 1)) = _
    rw [if_neg (by omega), if_neg (by omega)]
  refine ⟨fun j hj => ?_, fun j k hjk hk => ?_, fun k hk => ?_⟩
  · by_cases c1 : j < p
    · rw [upd_ne (by omega), f1 j c1, h1 j c1]
      exact ⟨rfl, by have := (a1 j (by omega)).2; omega⟩
    · by_cases c2 : j = p
      · subst c2
        rw [upd_same, f2]
        exact ⟨rfl, by omega⟩
      · have := h2 (j - 1) (by omega) (by omega)
        rw [show j - 1 + 1 = j by omega] at this
        rw [upd_ne c2, f3 j (by omega), this.1]
        exact ⟨rfl, by have := (a1 (j - 1) (by omega)).2; omega⟩
  · by_cases c1 : k < p
    · rw [f1 j (by omega), f1 k c1]
      exact a2 j k hjk (by omega)
    · by_cases c2 : k = p
      · subst c2
        rw [f1 j hjk, f2]
        have e1 : (due (o j)).toInt ≤ (due i).toInt := by
          rcases h3 with h3 | h3
          · omega
          · by_cases c3 : j = k - 1
            · rw [c3]
              exact h3
            · have := lxl_le (a2 j (k - 1) (by omega) (by omega))
              omega
        have e2 := (a1 j (by omega)).2
        unfold lxl
        omega
      · rw [f3 k (by omega)]
        by_cases c3 : j < p
        · rw [f1 j c3]
          exact a2 j (k - 1) (by omega) (by omega)
        · by_cases c4 : j = p
          · rw [c4, f2]
            exact Or.inl (h2 (k - 1) (by omega) (by omega)).2
          · rw [f3 j (by omega)]
            exact a2 (j - 1) (k - 1) (by omega) (by omega)
  · by_cases c1 : k = i
    · exact ⟨p, by omega, by rw [f2, c1]⟩
    · obtain ⟨j, hj, e⟩ := a3 k (by omega)
      by_cases c2 : j < p
      · exact ⟨j, by omega, by rw [f1 j c2, e]⟩
      · exact ⟨j + 1, by omega, by rw [f3 (j + 1) (by omega), ← e]; rfl⟩
theorem sort_in {k2 : Int32 → (Nat → Int32) → (Nat → Int32) → Int32 → Option (Nat → Int32)} (hn : n ≤ 40) {i : Nat} (hi : i < n) {o : Nat → Nat} {b : Nat → Int32} (h : oS due b o i) : ∀ (p z : Nat) (b' : Nat → Int32), p ≤ i → p < z → (∀ j, j < p → b' j = jI (o j)) → (∀ j, p ≤ j → j < i → b' (j + 1) = jI (o j) ∧ (due i).toInt < (due (o j)).toInt) → ∃ b'' o'', f_X0_sortByDueDay_18 k2 z (jI n) due b' (jI i) (jI p) = k2 (jI n) due b'' (jI (i + 1)) ∧ oS due b'' o'' (i + 1) := by
  have ei : jI i + (1 : Int32) = jI (i + 1) := by rw [jI_1, jI_add]
  intro p
  induction p with
  | zero =>
    intro z b' hp hz h1 h2
    obtain ⟨z, rfl⟩ : ∃ z', z = z' + 1 := ⟨z - 1, by omega⟩
    refine ⟨_, _, ?_, sort_put h hp h1 h2 (Or.inl rfl)⟩
    simp only [f_X0_sortByDueDay_18]
    rw [if_pos (by decide), zSi_n (by omega) (by omega), ei]
  | succ p ih =>
    intro z b' hp hz h1 h2
    obtain ⟨z, rfl⟩ : ∃ z', z = z' + 1 := ⟨z - 1, by omega⟩
    have op := (h.1 p (by omega)).2
    have e1 : jI (p + 1) - (1 : Int32) = jI p := by rw [jI_1, jI_sub (by omega), Nat.add_sub_cancel]
    have e2 : jI (p + 1) + (-1 : Int32) = jI p := by
      rw [← e1, Int32.sub_eq_add_neg]
    simp only [f_X0_sortByDueDay_18]
    rw [if_neg (fun z => by have := (jI_le (a := p + 1) (b := 0) (by omega) (by omega)).mp z; omega), e1, zR_n (by omega) (by omega), h1 p (by omega), zR_n (by omega) (by omega), zR_n (by omega) (by omega)]
    by_cases c : due (o p) ≤ due i
    · rw [if_pos c, zSi_n (by omega) (by omega), ei]
      exact ⟨_, _, rfl, sort_put h hp h1 h2 (Or.inr (by rw [Nat.add_sub_cancel]; exact Int32.le_iff_toInt_le.mp c))⟩
    · rw [if_neg c, zR_n (by omega) (by omega), h1 p (by omega), zSi_n (by omega) (by omega), e2]
      have c' : ¬ (due (o p)).toInt ≤ (due i).toInt := fun z => c (Int32.le_iff_toInt_le.mpr z)
      refine ih z _ (by omega) (by omega) (fun j hj => ?_) (fun j hj hj2 => ?_)
      · rw [upd_ne (by omega)]
        exact h1 j (by omega)
      · by_cases c2 : j = p
        · subst c2
          rw [upd_same]
          exact ⟨rfl, by omega⟩
        · rw [upd_ne (by omega)]
          exact h2 j (by omega) hj2
theorem sort_all (hn : n ≤ 40) : ∀ (m i z : Nat) (b : Nat → Int32) (o : Nat → Nat), i + m = n → m < z → oS due b o i → ∃ b' o', f_X0_sortByDueDay_2 z (jI n) due b (jI i) = some b' ∧ oS due b' o' n := by
  intro m
  induction m with
  | zero =>
    intro i z b o hi hz h
    obtain ⟨z, rfl⟩ : ∃ z', z = z' + 1 := ⟨z - 1, by omega⟩
    have : i = n := by omega
    subst this
    refine ⟨b, o, ?_, h⟩
    simp only [f_X0_sortByDueDay_2]
    rw [if_pos ((jI_le (by omega) (by omega)).mpr (Nat.le_refl _))]
  | succ m ih =>
    intro i z b o hi hz h
    obtain ⟨z, rfl⟩ : ∃ z', z = z' + 1 := ⟨z - 1, by omega⟩
    simp only [f_X0_sortByDueDay_2]
    rw [if_neg (fun z => by have := (jI_le (by omega) (by omega)).mp z; omega), jI_40, if_neg (fun z => by have := (jI_le (by omega) (by omega)).mp z; omega)]
    have hfu := FU_k
    generalize FU = fu at hfu ⊢
    obtain ⟨b2, o2, e, h2⟩ := sort_in (k2 := f_X0_sortByDueDay_2 z) hn (i := i) (by omega) h i fu b (Nat.le_refl _) (by omega) (fun j hj => (h.1 j hj).1) (fun j hj hj2 => by omega)
    rw [e]
    exact ih (i + 1) z b2 o2 (by omega) (by omega) h2
theorem k_sort (hn : n ≤ 40) (b : Nat → Int32) : ∃ b' o', f_X0_sortByDueDay (jI n) due b = some b' ∧ oS due b' o' n := by
  unfold f_X0_sortByDueDay
  have hfu := FU_k
  generalize FU = fu at hfu ⊢
  exact sort_all hn n 0 fu b (fun _ => 0) (by omega) (by omega) ⟨fun j hj => by omega, fun j k h1 h2 => by omega, fun k hk => by omega⟩
/-! the next due day -/
theorem k_nextDue (hn : n ≤ 40) {d e : Int32} : ∀ (m i z : Nat) (x : Int32), i + m = n → m < z → d.toInt ≤ x.toInt → x.toInt ≤ e.toInt → (∀ k, k < i → (due k).toInt < d.toInt ∨ x.toInt ≤ (due k).toInt) → ∃ r, f_X0_nextDueDay_5 z (jI n) due d x (jI i) = some r ∧ d.toInt ≤ r.toInt ∧ r.toInt ≤ e.toInt ∧ ∀ k, k < n → (due k).toInt < d.toInt ∨ r.toInt ≤ (due k).toInt := by
  intro m
  induction m with
  | zero =>
    intro i z x hi hz h1 h2 h3
    obtain ⟨z, rfl⟩ : ∃ z', z = z' + 1 := ⟨z - 1, by omega⟩
    have : i = n := by omega
    subst this
    refine ⟨x, ?_, h1, h2, h3⟩
    simp only [f_X0_nextDueDay_5]
    rw [if_pos ((jI_le (by omega) (by omega)).mpr (Nat.le_refl _))]
  | succ m ih =>
    intro i z x hi hz h1 h2 h3
    obtain ⟨z, rfl⟩ : ∃ z', z = z' + 1 := ⟨z - 1, by omega⟩
    have ei : jI i + (1 : Int32) = jI (i + 1) := by rw [jI_1, jI_add]
    simp only [f_X0_nextDueDay_5]
    rw [if_neg (fun z => by have := (jI_le (by omega) (by omega)).mp z; omega), zR_n (by omega) (by omega), ei, zR_n (by omega) (by omega), zR_n (by omega) (by omega)]
    have nx : ∀ x : Int32, (∀ k, k < i → (due k).toInt < d.toInt ∨ x.toInt ≤ (due k).toInt) → ((due i).toInt < d.toInt ∨ x.toInt ≤ (due i).toInt) → ∀ k, k < i + 1 → (due k).toInt < d.toInt ∨ x.toInt ≤ (due k).toInt := fun x g1 g2 k hk => by
      by_cases c : k = i
      · subst c
        exact g2
      · exact g1 k (by omega)
    by_cases c1 : due i < d
    · rw [if_pos c1]
      exact ih (i + 1) z x (by omega) (by omega) h1 h2 (nx x h3 (Or.inl (Int32.lt_iff_toInt_lt.mp c1)))
    · rw [if_neg c1]
      have c1' : ¬ (due i).toInt < d.toInt := fun z => c1 (Int32.lt_iff_toInt_lt.mpr z)
      by_cases c2 : x ≤ due i
      · rw [if_pos c2]
        exact ih (i + 1) z x (by omega) (by omega) h1 h2 (nx x h3 (Or.inr (Int32.le_iff_toInt_le.mp c2)))
      · rw [if_neg c2]
        have c2' : ¬ x.toInt ≤ (due i).toInt := fun z => c2 (Int32.le_iff_toInt_le.mpr z)
        exact ih (i + 1) z (due i) (by omega) (by omega) (by omega) (by omega) (nx (due i) (fun k hk => by have := h3 k hk; omega) (Or.inr (Int.le_refl _)))
end SORT
/-! the reference: the certificate that comes next -/
def nxP (due : Nat → Int32) (D T x : Int) (k : Nat) : Prop := (due k).toInt ≤ T ∧ D ≤ (due k).toInt ∧ ((due k).toInt = D → x < (k : Int))
def nxI (due : Nat → Int32) (Q : Nat → Prop) (j : Nat) (r : Int32) : Prop := (r = -1 ∧ ∀ k, k < j → ¬ Q k) ∨ ∃ s, s < j ∧ r = jI s ∧ Q s ∧ ∀ k, k < j → Q k → k ≠ s → lxl due s k
theorem jI_nm {s : Nat} (h : s < 1000) : ¬ jI s = (-1 : Int32) := fun z => by
  have e := congrArg Int32.toInt z
  rw [jI_toInt (by omega), show (-1 : Int32).toInt = -1 from rfl] at e
  omega
section DUE
variable {B : Int} {P : PrT} {b : Nat} {rows : Nat → Int64}
theorem nx_no {due : Nat → Int32} {Q : Nat → Prop} {j : Nat} {r : Int32} (h : nxI due Q j r) (hq : ¬ Q j) : nxI due Q (j + 1) r := by
  rcases h with ⟨h1, h2⟩ | ⟨s, h1, h2, h3, h4⟩
  · refine Or.inl ⟨h1, fun k hk => ?_⟩
    by_cases c : k = j
    · rw [c]
      exact hq
    · exact h2 k (by omega)
  · refine Or.inr ⟨s, by omega, h2, h3, fun k hk hk2 hk3 => ?_⟩
    by_cases c : k = j
    · rw [c] at hk2
      exact absurd hk2 hq
    · exact h4 k (by omega) hk2 hk3
theorem r_dueNext_lo (hb : b < 9) (hR : Rl B P (zrow b rows)) (d t x : Int32) : ∀ (m j z : Nat) (r : Int32), j + m = nce P → m < z → nxI (pj_ce_due P) (nxP (pj_ce_due P) d.toInt t.toInt x.toInt) j r → ∃ r', f_X9_dueNext_6 z (jI b) rows d.toInt64 x t.toInt64 r (jI j) = some r' ∧ nxI (pj_ce_due P) (nxP (pj_ce_due P) d.toInt t.toInt x.toInt) (nce P) r' := by
  obtain ⟨-, h40, h5, hG⟩ := hR.2.2.2.2.2.1
  intro m
  induction m with
  | zero =>
    intro j z r hj hz h
    obtain ⟨z, rfl⟩ : ∃ z', z = z' + 1 := ⟨z - 1, by omega⟩
    have : j = nce P := by omega
    refine ⟨r, ?_, this ▸ h⟩
    simp only [f_X9_dueNext_6]
    rw [jI_5, X9_get hb (by omega), zB1_s, h5, jI_L (by omega), if_pos ((jL_le (by omega) (by omega)).mpr (by omega))]
  | succ m ih =>
    intro j z r hj hz h
    obtain ⟨z, rfl⟩ : ∃ z', z = z' + 1 := ⟨z - 1, by omega⟩
    have e4 : zrow b rows (320 + 5 * j + 4) = (pj_ce_due P j).toInt64 := (hG j (by omega)).2.2.2.2.1
    have ej : jI j + (1 : Int32) = jI (j + 1) := by rw [jI_1, jI_add]
    have cand : nxP (pj_ce_due P) d.toInt t.toInt x.toInt j → ∃ r', f_X9_dueNext_62 (f_X9_dueNext_6 z) (jI b) rows d.toInt64 x t.toInt64 r (jI j) (pj_ce_due P j).toInt64 = some r' ∧ nxI (pj_ce_due P) (nxP (pj_ce_due P) d.toInt t.toInt x.toInt) (nce P) r' := by
      intro hq
      unfold f_X9_dueNext_62
      rw [ej]
      rcases h with ⟨h1, h2⟩ | ⟨s, h1, h2, h3, h4⟩
      · rw [if_pos h1]
        refine ih (j + 1) z _ (by omega) (by omega) (Or.inr ⟨j, by omega, rfl, hq, fun k hk hk2 hk3 => absurd hk2 (h2 k (by omega))⟩)
      · have e5 : zrow b rows (320 + 5 * s + 4) = (pj_ce_due P s).toInt64 := (hG s (by omega)).2.2.2.2.1
        rw [h2, if_neg (jI_nm (by omega)), X9_bill, zB1_s, jI_4, jI_add, X9_get hb (by omega), zB1_s, e5]
        simp only [L_le]
        by_cases c : pj_ce_due P s ≤ pj_ce_due P j
        · rw [if_pos c]
          have c' := Int32.le_iff_toInt_le.mp c
          refine ih (j + 1) z _ (by omega) (by omega) (Or.inr ⟨s, by omega, rfl, h3, fun k hk hk2 hk3 => ?_⟩)
          by_cases c2 : k = j
          · subst c2
            unfold lxl
            omega
          · exact h4 k (by omega) hk2 hk3
        · rw [if_neg c]
          have c' : ¬ (pj_ce_due P s).toInt ≤ (pj_ce_due P j).toInt := fun z => c (Int32.le_iff_toInt_le.mpr z)
          refine ih (j + 1) z _ (by omega) (by omega) (Or.inr ⟨j, by omega, rfl, hq, fun k hk hk2 hk3 => ?_⟩)
          by_cases c2 : k = s
          · subst c2
            exact Or.inl (by omega)
          · have := lxl_le (h4 k (by omega) hk2 c2)
            exact Or.inl (by omega)
    simp only [f_X9_dueNext_6]
    rw [jI_5, X9_get hb (by omega), zB1_s, h5, jI_L (by omega), if_neg (fun z => by have := (jL_le (by omega) (by omega)).mp z; omega), X9_bill, zB1_s, jI_4, jI_add, X9_get hb (by omega), zB1_s, e4, ej]
    simp only [L_lt, L_eq]
    by_cases c1 : t < pj_ce_due P j
    · rw [if_pos c1]
      have := Int32.lt_iff_toInt_lt.mp c1
      exact ih (j + 1) z r (by omega) (by omega) (nx_no h (fun hq => by unfold nxP at hq; omega))
    · rw [if_neg c1]
      have c1' : ¬ t.toInt < (pj_ce_due P j).toInt := fun z => c1 (Int32.lt_iff_toInt_lt.mpr z)
      by_cases c2 : pj_ce_due P j < d
      · rw [if_pos c2]
        have := Int32.lt_iff_toInt_lt.mp c2
        exact ih (j + 1) z r (by omega) (by omega) (nx_no h (fun hq => by unfold nxP at hq; omega))
      · rw [if_neg c2]
        have c2' : ¬ (pj_ce_due P j).toInt < d.toInt := fun z => c2 (Int32.lt_iff_toInt_lt.mpr z)
        by_cases c3 : pj_ce_due P j = d
        · rw [if_pos c3]
          have ed := congrArg Int32.toInt c3
          have ejt := jI_toInt (k := j) (by omega)
          by_cases c4 : x < jI j
          · rw [if_pos c4]
            have := Int32.lt_iff_toInt_lt.mp c4
            exact cand (by unfold nxP; omega)
          · rw [if_neg c4]
            have c4' : ¬ x.toInt < (jI j).toInt := fun z => c4 (Int32.lt_iff_toInt_lt.mpr z)
            exact ih (j + 1) z r (by omega) (by omega) (nx_no h (fun hq => by unfold nxP at hq; omega))
        · rw [if_neg c3]
          have c3' : ¬ (pj_ce_due P j).toInt = d.toInt := fun z => c3 (Int32.toInt_inj.mp z)
          exact cand (by unfold nxP; omega)
theorem r_dueNext (hb : b < 9) (hR : Rl B P (zrow b rows)) (d t x : Int32) : ∃ r', f_X9_dueNext (jI b) rows d.toInt64 x t.toInt64 = some r' ∧ nxI (pj_ce_due P) (nxP (pj_ce_due P) d.toInt t.toInt x.toInt) (nce P) r' := by
  have h40 := hR.2.2.2.2.2.1.2.1
  unfold f_X9_dueNext
  have hfu := FU_k
  generalize FU = fu at hfu ⊢
  exact r_dueNext_lo hb hR d t x (nce P) 0 fu (-1) (by omega) (by omega) (Or.inl ⟨rfl, fun k hk => by omega⟩)
def nxt (due : Nat → Int32) (o : Nat → Nat) (n : Nat) (T : Int) (i : Nat) : Int32 := if i < n ∧ (due (o i)).toInt ≤ T then jI (o i) else -1
theorem nx_gen {due : Nat → Int32} {bb : Nat → Int32} {o : Nat → Nat} {n i0 : Nat} {T : Int} {Q : Nat → Prop} {r : Int32} (ho : oS due bb o n) (hQ : ∀ j, j < n → (Q (o j) ↔ (due (o j)).toInt ≤ T ∧ i0 ≤ j)) (hr : nxI due Q n r) : r = nxt due o n T i0 := by
  obtain ⟨a1, a2, a3⟩ := ho
  unfold nxt
  rcases hr with ⟨h1, h2⟩ | ⟨s, h1, h2, h3, h4⟩
  · rw [h1, if_neg]
    intro z
    exact h2 (o i0) (a1 i0 z.1).2 ((hQ i0 z.1).mpr ⟨z.2, Nat.le_refl _⟩)
  · obtain ⟨j, hj, e⟩ := a3 s h1
    subst e
    obtain ⟨g1, g2⟩ := (hQ j hj).mp h3
    have g3 : (due (o i0)).toInt ≤ T := by
      by_cases c : i0 = j
      · rw [c]
        exact g1
      · have := lxl_le (a2 i0 j (by omega) hj)
        omega
    rw [if_pos ⟨by omega, g3⟩, h2]
    by_cases c : j = i0
    · rw [c]
    · exfalso
      have l1 := a2 i0 j (by omega) hj
      have ne : o i0 ≠ o j := fun z => by
        rw [z] at l1
        exact lxl_irr l1
      exact lxl_asy l1 (h4 (o i0) (a1 i0 (by omega)).2 ((hQ i0 (by omega)).mpr ⟨g3, Nat.le_refl _⟩) ne)
theorem nx_first {due : Nat → Int32} {bb : Nat → Int32} {o : Nat → Nat} {n : Nat} {T : Int} {r : Int32} (ho : oS due bb o n) (h0 : ∀ k, k < n → 0 ≤ (due k).toInt) (hr : nxI due (nxP due (0 : Int32).toInt T (-1 : Int32).toInt) n r) : r = nxt due o n T 0 := by
  refine nx_gen ho (fun j hj => ?_) hr
  have e0 : (0 : Int32).toInt = 0 := rfl
  have e1 : (-1 : Int32).toInt = -1 := rfl
  have := h0 (o j) (ho.1 j hj).2
  unfold nxP
  constructor
  · intro z
    exact ⟨z.1, Nat.zero_le _⟩
  · intro z
    exact ⟨z.1, by omega, fun _ => by omega⟩
theorem nx_then {due : Nat → Int32} {bb : Nat → Int32} {o : Nat → Nat} {n i : Nat} {T : Int} {r : Int32} (hn : n < 1000) (ho : oS due bb o n) (hi : i < n) (hr : nxI due (nxP due (due (o i)).toInt T (jI (o i)).toInt) n r) : r = nxt due o n T (i + 1) := by
  refine nx_gen ho (fun j hj => ?_) hr
  have ei := (ho.1 i hi).2
  have et := jI_toInt (k := o i) (by omega)
  unfold nxP
  constructor
  · intro z
    refine ⟨z.1, ?_⟩
    by_cases c : j ≤ i
    · exfalso
      by_cases c2 : j = i
      · subst c2
        have := z.2.2 rfl
        omega
      · have l := ho.2.1 j i (by omega) hi
        unfold lxl at l
        omega
    · omega
  · intro z
    have l := ho.2.1 i j (by omega) hj
    unfold lxl at l
    omega
end DUE
