/-! the walk's own judgement: zZ X w Q k n x N h pc lv st: with N cells from the base on, which hold h, the machine at pc with locals lv and stack st comes to Q -/
abbrev zC : Type := Program × Launch × Env × Room × State × MethodId × Array Value × List Frame × Method × Code
abbrev zV : Type := Launch × va_G × (Nat → ClassId) × Nat × (Nat → Nat) × (Nat → Nat)
abbrev zo (w : zV) : Nat := w.2.2.2.1
abbrev zsa (w : zV) : Nat → Nat := w.2.2.2.2.1
abbrev zsv (w : zV) : Nat → Nat := w.2.2.2.2.2
abbrev zD (w : zV) : va_G := w.2.1
abbrev zty (w : zV) : List (ClassId × FieldType) := [(w.2.2.1 0, .int), (w.2.2.1 1, .long), (w.2.2.1 2, .byte), (w.2.2.1 3, .boolean), (w.2.2.1 4, .object "ConstructionLedger$Project")]
abbrev zH : Type := Nat → va_E
/-- a cell of the world, or a place of which it doesn't speak -/
def zj : va_E → Bool
  | .inl _ => true
  | .inr q => Nat.blt q.1 10
def zl (w : zV) (N : Nat) (h : zH) : va_W := ((List.range N).filter fun a => zj (h a)).map fun a => (zo w + a, h a)
def zx (h : zH) (a : Nat) : Nat := ((List.range a).filter fun b => zj (h b)).length
def zc (N : Nat) (h : zH) (a : Nat) (e : va_E) : Prop := a < N ∧ h a = e
theorem zl_succ (w : zV) (N : Nat) (h : zH) : zl w (N + 1) h = zl w N h ++ (if zj (h N) = true then [(zo w + N, h N)] else []) := by
  unfold zl
  rw [List.range_succ, List.filter_append, List.map_append]
  congr 1
  by_cases c : zj (h N) = true
  · simp [c]
  · simp [c]
theorem zl_len (w : zV) (N : Nat) (h : zH) : (zl w N h).length = zx h N := by
  unfold zl zx
  rw [List.length_map]
theorem zx_succ (h : zH) (N : Nat) : zx h (N + 1) = zx h N + (if zj (h N) = true then 1 else 0) := by
  unfold zx
  rw [List.range_succ, List.filter_append, List.length_append]
  congr 1
  by_cases c : zj (h N) = true
  · simp [c]
  · simp [c]
theorem zl_get {w : zV} {h : zH} {a : Nat} (hj : zj (h a) = true) : ∀ {N : Nat}, a < N → (zl w N h)[zx h a]? = some (zo w + a, h a)
  | 0, ha => absurd ha (Nat.not_lt_zero a)
  | N + 1, ha => by
    rw [zl_succ]
    by_cases e : a = N
    · subst e
      rw [List.getElem?_append_right (by rw [zl_len]; exact Nat.le_refl _), zl_len, Nat.sub_self, if_pos hj]
      rfl
    · have ih := zl_get (w := w) hj (N := N) (by omega)
      rw [List.getElem?_append_left (List.getElem?_eq_some_iff.mp ih).1]
      exact ih
theorem zc_at {w : zV} {N a : Nat} {h : zH} {e : va_E} (hc : zc N h a e) (hj : zj e = true) : (zl w N h)[zx h a]? = some (zo w + a, e) := by
  obtain ⟨h1, rfl⟩ := hc
  exact zl_get hj h1
theorem zl_cong {w : zV} {N : Nat} {h h' : zH} (e : ∀ j, j < N → h j = h' j) : zl w N h = zl w N h' := by
  unfold zl
  rw [List.filter_congr (fun a ha => by rw [e a (List.mem_range.mp ha)] : ∀ a ∈ List.range N, zj (h a) = zj (h' a))]
  exact List.map_congr_left fun a ha => by rw [e a (List.mem_range.mp (List.mem_filter.mp ha).1)]
theorem zl_set0 {w : zV} {h : zH} {a : Nat} {e : va_E} (h0 : zj (h a) = true) (h1 : zj e = true) : ∀ {N : Nat}, a < N → (zl w N h).set (zx h a) (zo w + a, e) = zl w N (va_up h a e)
  | 0, ha => absurd ha (Nat.not_lt_zero a)
  | N + 1, ha => by
    rw [zl_succ, zl_succ]
    by_cases c : a = N
    · subst c
      rw [List.set_append_right _ _ (by rw [zl_len]; exact Nat.le_refl _), zl_len, Nat.sub_self, if_pos h0]
      have e1 : va_up h a e a = e := by simp [va_up]
      rw [e1, if_pos h1, zl_cong (h := va_up h a e) (h' := h) (fun j hj => by simp [va_up, Nat.ne_of_lt hj])]
      rfl
    · have ha' : a < N := by omega
      have ih := zl_set0 (w := w) h0 h1 ha'
      have hl := (List.getElem?_eq_some_iff.mp (zl_get (w := w) h0 ha')).1
      have e1 : va_up h a e N = h N := by simp [va_up, Ne.symm c]
      rw [List.set_append_left _ _ hl, ih, e1]
theorem zl_set {w : zV} {N a : Nat} {h : zH} {e0 e : va_E} (hc : zc N h a e0) (h0 : zj e0 = true) (h1 : zj e = true) : (zl w N h).set (zx h a) (zo w + a, e) = zl w N (va_up h a e) := by
  obtain ⟨ha, rfl⟩ := hc
  exact zl_set0 h0 h1 ha
theorem zl_setA {w : zV} {N a : Nat} {h : zH} {y0 y : ClassId × vp_A} (hc : zc N h a (.inl y0)) : (zl w N h).set (zx h a) (zo w + a, .inl y) = zl w N (va_up h a (.inl y)) := zl_set hc rfl rfl
theorem zl_inc (w : zV) (N : Nat) (h : zH) : List.Pairwise (fun p q : Nat × va_E => p.1 < q.1) (zl w N h) := by
  unfold zl
  rw [List.pairwise_map]
  exact (List.pairwise_lt_range.filter _).imp fun {a b} hab => Nat.add_lt_add_left hab _
theorem zl_D (w : zV) (N : Nat) (h : zH) : va_D (fun q => zo w ≤ q) (zl w N h) := by
  refine ⟨fun i j p q hi hj e => ?_, fun k q hk => ?_⟩
  · obtain ⟨a1, a2⟩ := List.getElem?_eq_some_iff.mp hi
    obtain ⟨b1, b2⟩ := List.getElem?_eq_some_iff.mp hj
    have hp := List.pairwise_iff_getElem.mp (zl_inc w N h)
    rcases Nat.lt_trichotomy i j with c | c | c
    · have := hp i j a1 b1 c
      rw [a2, b2] at this
      omega
    · exact c
    · have := hp j i b1 a1 c
      rw [a2, b2] at this
      omega
  · obtain ⟨a, -, e⟩ := List.mem_map.mp (List.mem_of_getElem? hk)
    rw [← e]
    exact Nat.le_add_right _ _
theorem zP_iff {D : va_G} {cl : List vw_C} {w : zV} {N : Nat} {h : zH} {H : Heap} : va_P D cl (zl w N h) H ↔ ∀ a, a < N → zj (h a) = true → va_at D cl (zo w + a, h a) H := by
  refine ⟨fun hP a ha hj => hP _ _ (zl_get hj ha), fun hA k q hk => ?_⟩
  obtain ⟨a, ha, e⟩ := List.mem_map.mp (List.mem_of_getElem? hk)
  obtain ⟨a1, a2⟩ := List.mem_filter.mp ha
  rw [← e]
  exact hA a (List.mem_range.mp a1) a2
/-- the heap h, but at the places a + o the contents of L -/
def zlook (o : Nat) : List (Nat × va_E) → Option va_E
  | [] => none
  | q :: l => if q.1 = o then some q.2 else zlook o l
def zins (o : Nat) (e : va_E) : List (Nat × va_E) → List (Nat × va_E)
  | [] => [(o, e)]
  | q :: l => if q.1 = o then (o, e) :: l else q :: zins o e l
def zu (h : zH) (a : Nat) (L : List (Nat × va_E)) : zH := fun j => if a ≤ j then (match zlook (j - a) L with | some e => e | none => h j) else h j
theorem zlook_ins (o o' : Nat) (e : va_E) : ∀ L : List (Nat × va_E), zlook o' (zins o e L) = if o = o' then some e else zlook o' L
  | [] => by simp [zins, zlook]
  | q :: l => by
    have ih := zlook_ins o o' e l
    by_cases h1 : q.1 = o
    · simp only [zins, if_pos h1, zlook]
      by_cases h2 : o = o'
      · simp [h2]
      · have : ¬ q.1 = o' := by omega
        simp [h2, this]
    · simp only [zins, if_neg h1, zlook, ih]
      by_cases h2 : o = o'
      · have : ¬ q.1 = o' := by omega
        simp [h2, this]
      · simp [h2]
theorem zu_put {h : zH} {a o : Nat} {e : va_E} {L L' : List (Nat × va_E)} (hL : zins o e L = L') : va_up (zu h a L) (a + o) e = zu h a L' := by
  subst hL
  funext j
  simp only [va_up, zu, zlook_ins]
  by_cases hj : j = a + o
  · subst hj
    simp
  · rw [if_neg hj]
    by_cases h2 : a ≤ j
    · have : ¬ o = j - a := by omega
      simp [h2, this]
    · simp [h2]
theorem zu_nil (h : zH) (a : Nat) : zu h a [] = h := by
  funext j
  simp [zu, zlook]
/-- a cell of L, or one that L doesn't speak of -/
theorem zc_i {N a o : Nat} {h : zH} {L : List (Nat × va_E)} {e : va_E} (hb : a + o < N) (hl : zlook o L = some e) : zc N (zu h a L) (a + o) e := by
  refine ⟨hb, ?_⟩
  simp [zu, hl]
theorem zc_o {N a o : Nat} {h : zH} {L : List (Nat × va_E)} {e0 : va_E} (hc : zc N h (a + o) e0) (hl : zlook o L = none) : zc N (zu h a L) (a + o) e0 := by
  refine ⟨hc.1, ?_⟩
  simp [zu, hl, hc.2]
/-- a cell apart from a .. a + m -/
theorem zc_f {N a b m : Nat} {h : zH} {L : List (Nat × va_E)} {e0 : va_E} (hc : zc N h b e0) (hf : b < a ∨ a + m ≤ b) (hm : L.all (fun q => Nat.blt q.1 m) = true) : zc N (zu h a L) b e0 := by
  refine ⟨hc.1, ?_⟩
  unfold zu
  by_cases h2 : a ≤ b
  · have hb : zlook (b - a) L = none := by
      have : ∀ (L : List (Nat × va_E)), L.all (fun q => Nat.blt q.1 m) = true → zlook (b - a) L = none := by
        intro L
        induction L with
        | nil => intro _; rfl
        | cons q l ih =>
          intro hq
          simp only [List.all_cons, Bool.and_eq_true] at hq
          have h3 : q.1 < m := Nat.le_of_ble_eq_true hq.1
          rw [zlook, if_neg (by omega)]
          exact ih hq.2
      exact this L hm
    rw [if_pos h2, hb]
    exact hc.2
  · rw [if_neg h2]
    exact hc.2
/-- the start: L says what is there -/
theorem zu_0 {a : Nat} {h : zH} : zu h a [] = h := zu_nil h a
theorem zu_s {N a o : Nat} {h : zH} {L : List (Nat × va_E)} {e : va_E} (hc : zc N h (a + o) e) (hl : zu h a L = h) : zu h a ((o, e) :: L) = h := by
  funext j
  have h1 := congrFun hl j
  by_cases h2 : a ≤ j
  · by_cases h3 : o = j - a
    · have : j = a + o := by omega
      subst this
      simp [zu, zlook, hc.2]
    · simp only [zu, if_pos h2, zlook, if_neg h3] at h1 ⊢
      exact h1
  · simp [zu, h2]
def znd : List (Nat × va_E) → Bool
  | [] => true
  | q :: l => (zlook q.1 l).isNone && znd l
/-- behind a callee at a + d -/
def zsh (d : Nat) (L L2 : List (Nat × va_E)) : List (Nat × va_E) := L2.foldl (fun l q => zins (d + q.1) q.2 l) L
theorem zlook_sh (d o : Nat) : ∀ (L2 L : List (Nat × va_E)) (e : Option va_E), znd L2 = true → zlook o (zsh d L L2) = if d ≤ o then (match zlook (o - d) L2 with | some e => some e | none => zlook o L) else zlook o L
  | [], L, _, _ => by simp [zsh, zlook]
  | q :: l, L, e, hn => by
    simp only [znd, Bool.and_eq_true] at hn
    have hn' := hn
    have ih := zlook_sh d o l (zins (d + q.1) q.2 L) e hn'.2
    have e1 : zsh d L (q :: l) = zsh d (zins (d + q.1) q.2 L) l := rfl
    rw [e1, ih, zlook_ins]
    by_cases h1 : d ≤ o
    · simp only [if_pos h1, zlook]
      by_cases h2 : q.1 = o - d
      · have h3 : zlook (o - d) l = none := by
          rw [← h2]
          exact Option.isNone_iff_eq_none.mp hn'.1
        have h4 : d + q.1 = o := by omega
        rw [h3, if_pos h4, if_pos h2]
      · have h4 : ¬ d + q.1 = o := by omega
        simp [h2, h4]
    · have h4 : ¬ d + q.1 = o := by omega
      simp [h1, h4]
theorem zu_sh {h : zH} {a d : Nat} {L L2 L' : List (Nat × va_E)} (hn : znd L2 = true) (hL : zsh d L L2 = L') : zu (zu h a L) (a + d) L2 = zu h a L' := by
  subst hL
  funext j
  simp only [zu]
  rw [zlook_sh d (j - a) L2 L none hn]
  by_cases h1 : a + d ≤ j
  · have h2 : a ≤ j := by omega
    have h3 : d ≤ j - a := by omega
    have h4 : j - a - d = j - (a + d) := by omega
    simp only [if_pos h1, if_pos h2, if_pos h3, h4]
    cases zlook (j - (a + d)) L2 <;> rfl
  · by_cases h2 : a ≤ j
    · have h3 : ¬ d ≤ j - a := by omega
      simp only [if_neg h1, if_pos h2, if_neg h3]
    · simp only [if_neg h1, if_neg h2]
/-! functional programs: none where the machine itself would throw, or a loop's counter has run down -/
def zR {α β : Type} (n : Nat) (f : Nat → α) (i : Int32) (k : α → Option β) : Option β := if i < 0 ∨ n ≤ i.toNatClampNeg then none else k (f i.toNatClampNeg)
def zSi {β : Type} (n : Nat) (f : Nat → Int32) (i x : Int32) (k : (Nat → Int32) → Option β) : Option β := if i < 0 ∨ n ≤ i.toNatClampNeg then none else k (upd f i.toNatClampNeg x)
def zSl {β : Type} (n : Nat) (f : Nat → Int64) (i : Int32) (x : Int64) (k : (Nat → Int64) → Option β) : Option β := if i < 0 ∨ n ≤ i.toNatClampNeg then none else k (vp_updL f i.toNatClampNeg x)
def zL {α β : Type} (x : α) (k : α → Option β) : Option β := k x
def zG1 {β : Type} (c : Prop) [Decidable c] (t : Option β) : Option β := if c then t else none
def zB1 {α β : Type} (o : Option α) (k : α → Option β) : Option β := o.bind k
theorem zR_s {α β : Type} {n : Nat} {f : Nat → α} {i : Int32} {k : α → Option β} {r : β} (h : zR n f i k = some r) : vp_in i n ∧ k (f i.toNatClampNeg) = some r := by
  unfold zR at h
  by_cases c : i < 0 ∨ n ≤ i.toNatClampNeg
  · rw [if_pos c] at h; cases h
  · rw [if_neg c] at h; exact ⟨c, h⟩
theorem zSi_s {β : Type} {n : Nat} {f : Nat → Int32} {i x : Int32} {k : (Nat → Int32) → Option β} {r : β} (h : zSi n f i x k = some r) : vp_in i n ∧ k (upd f i.toNatClampNeg x) = some r := by
  unfold zSi at h
  by_cases c : i < 0 ∨ n ≤ i.toNatClampNeg
  · rw [if_pos c] at h; cases h
  · rw [if_neg c] at h; exact ⟨c, h⟩
theorem zSl_s {β : Type} {n : Nat} {f : Nat → Int64} {i : Int32} {x : Int64} {k : (Nat → Int64) → Option β} {r : β} (h : zSl n f i x k = some r) : vp_in i n ∧ k (vp_updL f i.toNatClampNeg x) = some r := by
  unfold zSl at h
  by_cases c : i < 0 ∨ n ≤ i.toNatClampNeg
  · rw [if_pos c] at h; cases h
  · rw [if_neg c] at h; exact ⟨c, h⟩
theorem zB_s {α β : Type} {o : Option α} {k : α → Option β} {r : β} (h : zB1 o k = some r) : ∃ q, o = some q ∧ k q = some r := by
  cases o with
  | none => cases h
  | some q => exact ⟨q, rfl, h⟩
theorem zG1_s {β : Type} {c : Prop} [Decidable c] {t : Option β} {r : β} (h : zG1 c t = some r) : c ∧ t = some r := by
  unfold zG1 at h
  by_cases q : c
  · rw [if_pos q] at h; exact ⟨q, h⟩
  · rw [if_neg q] at h; cases h
