def lg_P0 (g : Nat) : PrT := (0, g, (fun _ => 0), 0, (fun _ => 0), (fun _ => 0), (fun _ => 0), (fun _ => 0), (fun _ => 0), (fun _ => 0), (fun _ => 0), 25, 0, (zpn 0), (fun _ => 0), (fun _ => 0), (fun _ => 0), (fun _ => 0), (fun _ => 0), (fun _ => 0), 0, (fun _ => 0), (fun _ => 0), (fun _ => 0), 0, (fun _ => 0), (fun _ => 0), (fun _ => 0), (fun _ => 0), (fun _ => 0), 0, (fun _ => 0), (fun _ => 0), (fun _ => 0), (fun _ => 0), (fun _ => 0))
def lg_R0 (g : Nat) : RdT := (0, 0, 0, (-1), 0, 0, 0, (-1), 0, 0, (fun _ => 0), g, (fun _ => 0))
def lg_0s (a : Nat) : LgT := (0, 0, lg_R0 (a + 13), lg_P0 (a + 13), lg_P0 (a + 49), fun i => lg_P0 (a + (74 + 35 * i) + 10))
def pL (w : zV) (a : Nat) : List (Nat × va_E) := [(0, .inr (5, [.int (0 : Int32), .ref (zo w + (a + 1)), .ref (zo w + (a + 2)), .ref (zo w + (a + 10)), .ref (zo w + (a + 13)), .ref (zo w + (a + 19)), .ref (zo w + (a + 23)), .ref (zo w + (a + 29)), .ref (zo w + (a + 34))])), (1, .inl (w.2.2.1 1, 9, .inr (.inl (fun _ => 0)))), (2, .inr (1, [.int (0 : Int32), .ref (zo w + (a + 3)), .ref (zo w + (a + 4)), .ref (zo w + (a + 5)), .ref (zo w + (a + 6)), .ref (zo w + (a + 7)), .ref (zo w + (a + 8)), .ref (zo w + (a + 9))])), (3, .inl (w.2.2.1 0, 8, .inl (fun _ => 0))), (4, .inl (w.2.2.1 0, 8, .inl (fun _ => 0))), (5, .inl (w.2.2.1 0, 8, .inl (fun _ => 0))), (6, .inl (w.2.2.1 0, 8, .inl (fun _ => 0))), (7, .inl (w.2.2.1 0, 8, .inl (fun _ => 0))), (8, .inl (w.2.2.1 3, 8, .inl (fun _ => 0))), (9, .inl (w.2.2.1 0, 8, .inl (fun _ => 0))), (10, .inr (4, [.int (25 : Int32), .int (0 : Int32), .ref (zo w + (a + 12)), .ref (zo w + (a + 11))])), (11, .inl (w.2.2.1 0, 16, .inl (fun _ => (0 : Int32)))), (12, .inl (w.2.2.1 0, (zpn 0), .inl (fun _ => (0 : Int32)))), (13, .inr (2, [.ref (zo w + (a + 14)), .ref (zo w + (a + 15)), .ref (zo w + (a + 16)), .ref (zo w + (a + 17)), .ref (zo w + (a + 18))])), (14, .inl (w.2.2.1 0, 8, .inl (fun _ => 0))), (15, .inl (w.2.2.1 0, 48, .inl (fun _ => 0))), (16, .inl (w.2.2.1 0, 48, .inl (fun _ => 0))), (17, .inl (w.2.2.1 0, 48, .inl (fun _ => 0))), (18, .inl (w.2.2.1 0, 48, .inl (fun _ => 0))), (19, .inr (7, [.int (0 : Int32), .ref (zo w + (a + 20)), .ref (zo w + (a + 21)), .ref (zo w + (a + 22))])), (20, .inl (w.2.2.1 0, 20, .inl (fun _ => 0))), (21, .inl (w.2.2.1 0, 20, .inl (fun _ => 0))), (22, .inl (w.2.2.1 3, 20, .inl (fun _ => 0))), (23, .inr (0, [.int (0 : Int32), .ref (zo w + (a + 24)), .ref (zo w + (a + 25)), .ref (zo w + (a + 26)), .ref (zo w + (a + 27)), .ref (zo w + (a + 28))])), (24, .inl (w.2.2.1 0, 40, .inl (fun _ => 0))), (25, .inl (w.2.2.1 1, 40, .inr (.inl (fun _ => 0)))), (26, .inl (w.2.2.1 1, 40, .inr (.inl (fun _ => 0)))), (27, .inl (w.2.2.1 0, 40, .inl (fun _ => 0))), (28, .inl (w.2.2.1 0, 40, .inl (fun _ => 0))), (29, .inr (3, [.int (0 : Int32), .ref (zo w + (a + 30)), .ref (zo w + (a + 31)), .ref (zo w + (a + 32)), .ref (zo w + (a + 33))])), (30, .inl (w.2.2.1 0, 12, .inl (fun _ => 0))), (31, .inl (w.2.2.1 1, 12, .inr (.inl (fun _ => 0)))), (32, .inl (w.2.2.1 0, 12, .inl (fun _ => 0))), (33, .inl (w.2.2.1 3, 12, .inl (fun _ => 0))), (34, .inl (w.2.2.1 0, 40, .inl (fun _ => 0)))]
def rL (w : zV) (a : Nat) : List (Nat × va_E) := [(0, .inr (6, [.ref (zo w + (a + 1)), .int (0 : Int32), .ref (zo w + (a + 2)), .int (0 : Int32), .int (0 : Int32), .int (-1 : Int32), .int (0 : Int32), .int (0 : Int32), .int (0 : Int32), .int (-1 : Int32), .int (0 : Int32), .int (0 : Int32)])), (1, .inl (w.2.2.1 2, 900, .inl (fun _ => 0))), (2, .inr (5, [.int (0 : Int32), .ref (zo w + (a + 3)), .ref (zo w + (a + 4)), .ref (zo w + (a + 12)), .ref (zo w + (a + 15)), .ref (zo w + (a + 21)), .ref (zo w + (a + 25)), .ref (zo w + (a + 31)), .ref (zo w + (a + 36))])), (3, .inl (w.2.2.1 1, 9, .inr (.inl (fun _ => 0)))), (4, .inr (1, [.int (0 : Int32), .ref (zo w + (a + 5)), .ref (zo w + (a + 6)), .ref (zo w + (a + 7)), .ref (zo w + (a + 8)), .ref (zo w + (a + 9)), .ref (zo w + (a + 10)), .ref (zo w + (a + 11))])), (5, .inl (w.2.2.1 0, 8, .inl (fun _ => 0))), (6, .inl (w.2.2.1 0, 8, .inl (fun _ => 0))), (7, .inl (w.2.2.1 0, 8, .inl (fun _ => 0))), (8, .inl (w.2.2.1 0, 8, .inl (fun _ => 0))), (9, .inl (w.2.2.1 0, 8, .inl (fun _ => 0))), (10, .inl (w.2.2.1 3, 8, .inl (fun _ => 0))), (11, .inl (w.2.2.1 0, 8, .inl (fun _ => 0))), (12, .inr (4, [.int (25 : Int32), .int (0 : Int32), .ref (zo w + (a + 14)), .ref (zo w + (a + 13))])), (13, .inl (w.2.2.1 0, 16, .inl (fun _ => (0 : Int32)))), (14, .inl (w.2.2.1 0, (zpn 0), .inl (fun _ => (0 : Int32)))), (15, .inr (2, [.ref (zo w + (a + 16)), .ref (zo w + (a + 17)), .ref (zo w + (a + 18)), .ref (zo w + (a + 19)), .ref (zo w + (a + 20))])), (16, .inl (w.2.2.1 0, 8, .inl (fun _ => 0))), (17, .inl (w.2.2.1 0, 48, .inl (fun _ => 0))), (18, .inl (w.2.2.1 0, 48, .inl (fun _ => 0))), (19, .inl (w.2.2.1 0, 48, .inl (fun _ => 0))), (20, .inl (w.2.2.1 0, 48, .inl (fun _ => 0))), (21, .inr (7, [.int (0 : Int32), .ref (zo w + (a + 22)), .ref (zo w + (a + 23)), .ref (zo w + (a + 24))])), (22, .inl (w.2.2.1 0, 20, .inl (fun _ => 0))), (23, .inl (w.2.2.1 0, 20, .inl (fun _ => 0))), (24, .inl (w.2.2.1 3, 20, .inl (fun _ => 0))), (25, .inr (0, [.int (0 : Int32), .ref (zo w + (a + 26)), .ref (zo w + (a + 27)), .ref (zo w + (a + 28)), .ref (zo w + (a + 29)), .ref (zo w + (a + 30))])), (26, .inl (w.2.2.1 0, 40, .inl (fun _ => 0))), (27, .inl (w.2.2.1 1, 40, .inr (.inl (fun _ => 0)))), (28, .inl (w.2.2.1 1, 40, .inr (.inl (fun _ => 0)))), (29, .inl (w.2.2.1 0, 40, .inl (fun _ => 0))), (30, .inl (w.2.2.1 0, 40, .inl (fun _ => 0))), (31, .inr (3, [.int (0 : Int32), .ref (zo w + (a + 32)), .ref (zo w + (a + 33)), .ref (zo w + (a + 34)), .ref (zo w + (a + 35))])), (32, .inl (w.2.2.1 0, 12, .inl (fun _ => 0))), (33, .inl (w.2.2.1 1, 12, .inr (.inl (fun _ => 0)))), (34, .inl (w.2.2.1 0, 12, .inl (fun _ => 0))), (35, .inl (w.2.2.1 3, 12, .inl (fun _ => 0))), (36, .inl (w.2.2.1 0, 40, .inl (fun _ => 0)))]
/-- a Pricing as a constructor laid it, and the heap with all of them -/
def pgi (w : zV) (p : Nat) : Nat → va_E
  | 0 => pgO w p 25 0
  | 1 => stC w (fun _ => 0)
  | _ => pgC w (zpn 0) (fun _ => 0)
def icell (w : zV) (a o : Nat) : va_E := if o < 39 then pgi w (a + 13) (o - 13) else if o < 74 then pgi w (a + 49) (o - 49) else pgi w (a + (74 + 35 * ((o - 74) / 35)) + 10) ((o - 74) % 35 - 10)
def hI (w : zV) (a : Nat) (h : zH) : zH := fun j => if a ≤ j ∧ j < a + 389 ∧ lhole (j - a) then icell w a (j - a) else h j
theorem hI_at {w : zV} {a j : Nat} {h : zH} (h1 : a ≤ j) (h2 : j < a + 389) (h3 : lhole (j - a)) : hI w a h j = icell w a (j - a) := if_pos ⟨h1, h2, h3⟩
theorem pL_map (w : zV) (a : Nat) : (List.range 35).map (fun o => zlook o (pL w a)) = (List.range 35).map (fun o => some (cond (zhp o) (pcell w a (lg_P0 (a + 10)) o) (pgi w (a + 10) (o - 10)))) := rfl
theorem rL_map (w : zV) (a : Nat) (g : Nat) : (List.range 37).map (fun o => zlook o (rL w a)) = (List.range 37).map (fun o => some (cond (zhr o) (rcell w a (lg_R0 g) (lg_P0 (a + 12)) o) (pgi w (a + 12) (o - 12)))) := rfl
theorem rg_map {β : Type} {f g : Nat → β} {m : Nat} (he : (List.range m).map f = (List.range m).map g) {o : Nat} (ho : o < m) : f o = g o := by
  have h := congrArg (fun l => l[o]?) he
  simpa [ho] using h
def w8 (w : zV) (a : Nat) (h : zH) (fs : List Value) (f : Nat → Option Nat) : zH := fun j => if j = a then .inr (8, fs) else if j = a + 38 then .inl (w.2.2.1 4, 9, .inr (.inr (.inr (.inr f)))) else lgH w a (hI w a h) (lg_0s a) j
section W8
variable {w : zV} {a N d K : Nat} {h : zH} {fs fs' : List Value} {f f' : Nat → Option Nat}
theorem w8_0 (hN : a < N) : zc N (w8 w a h fs f) (a + 0) (.inr (8, fs)) := ⟨hN, by simp [w8]⟩
theorem w8_38 (hN : a + 38 < N) : zc N (w8 w a h fs f) (a + 38) (.inl (w.2.2.1 4, 9, .inr (.inr (.inr (.inr f))))) := ⟨hN, by simp [w8]⟩
theorem w8_p0 : va_up (w8 w a h fs f) (a + 0) (.inr (8, fs')) = w8 w a h fs' f := by
  funext j
  by_cases h1 : j = a <;> simp [va_up, w8, h1]
theorem w8_p38 : va_up (w8 w a h fs f) (a + 38) (.inl (w.2.2.1 4, 9, .inr (.inr (.inr (.inr f'))))) = w8 w a h fs f' := by
  funext j
  by_cases h1 : j = a
  · subst h1
    simp [va_up, w8]
  · by_cases h2 : j = a + 38 <;> simp [va_up, w8, h1, h2]
theorem w8_new {e0 : va_E} {L : List (Nat × va_E)} (hd : 0 < d) (hk : d + K ≤ 38 ∨ 38 < d) (he : ∀ o, o < K → zlook o L = some (lgH w a (hI w a h) (lg_0s a) (a + d + o))) : ∀ j, j < a + d + K → zu (va_up (w8 w a h fs f) (a + d) e0) (a + d) L j = w8 w a h fs f j := by
  intro j hj
  by_cases h1 : a + d ≤ j
  · have e := he (j - (a + d)) (by omega)
    rw [show a + d + (j - (a + d)) = j by omega] at e
    have h2 : ¬ j = a := by omega
    have h3 : ¬ j = a + 38 := by omega
    simp only [zu, if_pos h1, e, w8, if_neg h2, if_neg h3]
  · have h2 : ¬ j = a + d := by omega
    simp only [zu, if_neg h1, va_up, if_neg h2]
theorem w8_R : ∀ o, o < 37 → zlook o (rL w (a + 1)) = some (lgH w a (hI w a h) (lg_0s a) (a + 1 + o)) := by
  intro o ho
  refine (rg_map (rL_map w (a + 1) (a + 13)) ho).trans (congrArg some ?_)
  cases hz : zhr o with
  | true => exact ((lg_R (w := w) (h := hI w a h) (σ := lg_0s a) (N := a + 389) (Nat.le_refl _) o hz).2).symm
  | false =>
    have h2 : 12 ≤ o ∧ o ≤ 14 := Classical.byContradiction fun z => by
      rw [zhr_m ho z] at hz
      cases hz
    show pgi w (a + 1 + 12) (o - 12) = _
    have e : icell w a (a + 1 + o - a) = pgi w (a + 1 + 12) (o - 12) := by
      unfold icell
      rw [if_pos (by omega)]
      congr 1
      omega
    have e2 : hI w a h (a + 1 + o) = pgi w (a + 1 + 12) (o - 12) := by rw [hI_at (by omega) (by omega) (by omega), e]
    by_cases c : a + 1 + o = rj_rd_ga (lg_0s a).2.2.1 + 1
    · have c' : a + 1 + o = a + 13 + 1 := c
      have e3 : o - 12 = 1 := by omega
      rw [lg_o2 (by omega) c (by rw [e2, e3]; rfl), e3]
      rfl
    · rw [lg_o1 (by omega) c, e2]
theorem w8_F : ∀ o, o < 35 → zlook o (pL w (a + 39)) = some (lgH w a (hI w a h) (lg_0s a) (a + 39 + o)) := by
  intro o ho
  refine (rg_map (pL_map w (a + 39)) ho).trans (congrArg some ?_)
  cases hz : zhp o with
  | true => exact ((lg_F (w := w) (h := hI w a h) (σ := lg_0s a) (N := a + 389) (Nat.le_refl _) o hz).2).symm
  | false =>
    have h2 : 10 ≤ o ∧ o ≤ 12 := Classical.byContradiction fun z => by
      rw [zhp_m ho z] at hz
      cases hz
    show pgi w (a + 39 + 10) (o - 10) = _
    have c : ¬ a + 39 + o = rj_rd_ga (lg_0s a).2.2.1 + 1 := fun z => by
      have z : a + 39 + o = a + 13 + 1 := z
      omega
    rw [lg_o1 (by omega) c, hI_at (by omega) (by omega) (by omega)]
    unfold icell
    rw [if_neg (by omega), if_pos (by omega)]
    congr 1
    omega
theorem w8_S {i : Nat} (hi : i < 9) : ∀ o, o < 35 → zlook o (pL w (a + (74 + 35 * i))) = some (lgH w a (hI w a h) (lg_0s a) (a + (74 + 35 * i) + o)) := by
  intro o ho
  refine (rg_map (pL_map w (a + (74 + 35 * i))) ho).trans (congrArg some ?_)
  cases hz : zhp o with
  | true => exact ((lg_S (w := w) (h := hI w a h) (σ := lg_0s a) (N := a + 389) (Nat.le_refl _) hi o hz).2).symm
  | false =>
    have h2 : 10 ≤ o ∧ o ≤ 12 := Classical.byContradiction fun z => by
      rw [zhp_m ho z] at hz
      cases hz
    show pgi w (a + (74 + 35 * i) + 10) (o - 10) = _
    have c : ¬ a + (74 + 35 * i) + o = rj_rd_ga (lg_0s a).2.2.1 + 1 := fun z => by
      have z : a + (74 + 35 * i) + o = a + 13 + 1 := z
      omega
    have e1 : (a + (74 + 35 * i) + o - a - 74) / 35 = i := by omega
    have e2 : (a + (74 + 35 * i) + o - a - 74) % 35 = o := by omega
    have hh : lhole (a + (74 + 35 * i) + o - a) := by
      unfold lhole
      rw [e2]
      omega
    rw [lg_o1 (fun z => z.2.2 hh) c, hI_at (by omega) (by omega) hh]
    unfold icell
    rw [if_neg (by omega), if_neg (by omega), e1, e2]
end W8

theorem zin_9 (i : Nat) (h : Nat.blt i 9 = true) : vp_in (Int32.ofNat i) 9 := by
  have h1 : i < 9 := Nat.le_of_ble_eq_true h
  have h2 := Int32.toInt_ofNat_of_lt (n := i) (by omega)
  have h3 := Int32.toNatClampNeg_ofNat_of_lt (n := i) (by omega)
  rintro (q | q)
  · rw [Int32.lt_iff_toInt_lt, h2, show (0 : Int32).toInt = 0 from rfl] at q
    omega
  · rw [h3] at q
    omega
theorem w8_at {w : zV} {a N i : Nat} {h : zH} {fs : List Value} {f : Nat → Option Nat} (hi : i < 9) (hN : a + (74 + 35 * i) < N) : zc N (w8 w a h fs f) (a + (74 + 35 * i)) (pcell w (a + (74 + 35 * i)) (lg_P0 (a + (74 + 35 * i) + 10)) 0) := by
  refine ⟨hN, ?_⟩
  have h2 : ¬ a + (74 + 35 * i) = a := by omega
  have h3 : ¬ a + (74 + 35 * i) = a + 38 := by omega
  unfold w8
  rw [if_neg h2, if_neg h3]
  exact (lg_S (N := a + 389) (Nat.le_refl _) hi 0 rfl).2
set_option maxHeartbeats 4000000 in
theorem c_X8_init {w : zV} {a : Nat} {h : zH} (n_a0 : zc (a + 1) h (a + 0) (.inr (8, [.null, .null, .int 0, .int 0, .null]))) : zM w yX8_init cX8_init 2 none { frames := 4, cells := 388, slots := 18191, locals := 125 } true (a + 1) (a + 389) h [.ref (zo w + a)] none (lgH w a (hI w a h) (lg_0s a)) := by
  refine zM_of (by decide) rfl (fun X C hin => ?_)
  refine z_pick (lv' := [(0, .ref (zo w + a))]) [0] rfl ?_
  refine z_agree (h' := w8 w a h [.null, .null, .int 0, .int 0, .null] (fun _ => none)) (fun j hj => ?_) ?_
  · by_cases h1 : j = a
    · subst h1
      simp only [w8, if_true]
      exact n_a0.2
    · have h2 : ¬ j = a + 38 := by omega
      have h3 : ¬ lin a j := by omega
      have c : ¬ j = rj_rd_ga (lg_0s a).2.2.1 + 1 := fun z => by
        have z : j = a + 13 + 1 := z
        omega
      have h4 : ¬ (a ≤ j ∧ j < a + 389 ∧ lhole (j - a)) := by omega
      simp only [w8, if_neg h1, if_neg h2]
      rw [lg_o1 h3 c]
      exact (if_neg h4).symm
  refine z_aload_n (pc' := 1) C 0 dX8_init_0 rfl rfl rfl ?_
  refine z_objI (pc' := 4) C zw_28 zw_29 zw_30 rfl rfl dX8_init_1 rfl ?_
  refine z_aload_n (pc' := 5) C 0 dX8_init_4 rfl rfl rfl ?_
  refine z_new (pc' := 8) (h' := va_up (w8 w a h [.null, .null, .int 0, .int 0, .null] (fun _ => none)) (a + 1) (.inr (6, [.null, .int 0, .null, .int 0, .int 0, .int 0, .int 0, .int 0, .int 0, .int 0, .int 0, .int 0]))) C zci_6 zw_31 zw_32 zw_2 zdf_6 rfl rfl dX8_init_5 rfl ?_
  refine z_dup (pc' := 9) C dX8_init_8 rfl rfl ?_
  refine z_callIN (pc' := 12) (iN := 0) (h' := zu (va_up (w8 w a h [.null, .null, .int 0, .int 0, .null] (fun _ => none)) (a + 1) (.inr (6, [.null, .int 0, .null, .int 0, .int 0, .int 0, .int 0, .int 0, .int 0, .int 0, .int 0, .int 0]))) (a + 1) (rL w (a + 1))) (st := [.ref (zo w + (a + 1)), .ref (zo w + a)]) C (c_X6_init ⟨by omega, by simp [va_up]⟩) zy_X6_init rfl rfl zw_34 rfl rfl rfl rfl rfl dX8_init_9 rfl ?_
  refine z_agree (h' := w8 w a h [.null, .null, .int 0, .int 0, .null] (fun _ => none)) (w8_new (K := 37) (by decide) (by decide) w8_R) ?_
  refine z_putF (pc' := 15) (h' := w8 w a h [.ref (zo w + (a + 1)), .null, .int 0, .int 0, .null] (fun _ => none)) C hin zci_8 zw_317 (j := 0) rfl (w8_0 (by omega)) (fs' := [.ref (zo w + (a + 1)), .null, .int 0, .int 0, .null]) rfl rfl rfl rfl rfl w8_p0 dX8_init_12 rfl ?_
  refine z_aload_n (pc' := 16) C 0 dX8_init_15 rfl rfl rfl ?_
  refine z_bipush (pc' := 18) C dX8_init_16 zk_bipush_9 rfl ?_
  refine z_anewP (pc' := 21) (L := 9) (h' := w8 w a h [.ref (zo w + (a + 1)), .null, .int 0, .int 0, .null] (fun _ => none)) C zw_314 (by decide) (by decide) rfl w8_p38 rfl dX8_init_18 rfl ?_
  refine z_putF (pc' := 24) (h' := w8 w a h [.ref (zo w + (a + 1)), .ref (zo w + (a + 38)), .int 0, .int 0, .null] (fun _ => none)) C hin zci_8 zw_318 (j := 1) rfl (w8_0 (by omega)) (fs' := [.ref (zo w + (a + 1)), .ref (zo w + (a + 38)), .int 0, .int 0, .null]) rfl rfl rfl rfl rfl w8_p0 dX8_init_21 rfl ?_
  refine z_aload_n (pc' := 25) C 0 dX8_init_24 rfl rfl rfl ?_
  refine z_iconst (pc' := 26) C dX8_init_25 zk_iconst_0 rfl ?_
  refine z_putf (pc' := 29) (h' := w8 w a h [.ref (zo w + (a + 1)), .ref (zo w + (a + 38)), .int 0, .int 0, .null] (fun _ => none)) C zci_8 zw_319 (j := 2) rfl (w8_0 (by omega)) (fs' := [.ref (zo w + (a + 1)), .ref (zo w + (a + 38)), .int 0, .int 0, .null]) rfl rfl rfl rfl rfl w8_p0 dX8_init_26 rfl ?_
  refine z_aload_n (pc' := 30) C 0 dX8_init_29 rfl rfl rfl ?_
  refine z_iconst (pc' := 31) C dX8_init_30 zk_iconst_0 rfl ?_
  refine z_putf (pc' := 34) (h' := w8 w a h [.ref (zo w + (a + 1)), .ref (zo w + (a + 38)), .int 0, .int 0, .null] (fun _ => none)) C zci_8 zw_320 (j := 3) rfl (w8_0 (by omega)) (fs' := [.ref (zo w + (a + 1)), .ref (zo w + (a + 38)), .int 0, .int 0, .null]) rfl rfl rfl rfl rfl w8_p0 dX8_init_31 rfl ?_
  refine z_aload_n (pc' := 35) C 0 dX8_init_34 rfl rfl rfl ?_
  refine z_new (pc' := 38) (h' := va_up (w8 w a h [.ref (zo w + (a + 1)), .ref (zo w + (a + 38)), .int 0, .int 0, .null] (fun _ => none)) (a + 39) (.inr (5, [.int 0, .null, .null, .null, .null, .null, .null, .null, .null]))) C zci_5 zw_314 zw_38 zw_3 zdf_5 rfl rfl dX8_init_35 rfl ?_
  refine z_dup (pc' := 39) C dX8_init_38 rfl rfl ?_
  refine z_callIN (pc' := 42) (iN := 7) (h' := zu (va_up (w8 w a h [.ref (zo w + (a + 1)), .ref (zo w + (a + 38)), .int 0, .int 0, .null] (fun _ => none)) (a + 39) (.inr (5, [.int 0, .null, .null, .null, .null, .null, .null, .null, .null]))) (a + 39) (pL w (a + 39))) (st := [.ref (zo w + (a + 39)), .ref (zo w + a)]) C (c_X5_init ⟨by omega, by simp [va_up]⟩) zy_X5_init rfl rfl zw_40 rfl rfl rfl rfl rfl dX8_init_39 rfl ?_
  refine z_agree (h' := w8 w a h [.ref (zo w + (a + 1)), .ref (zo w + (a + 38)), .int 0, .int 0, .null] (fun _ => none)) (w8_new (K := 35) (by decide) (by decide) w8_F) ?_
  refine z_putF (pc' := 45) (h' := w8 w a h [.ref (zo w + (a + 1)), .ref (zo w + (a + 38)), .int 0, .int 0, .ref (zo w + (a + 39))] (fun _ => none)) C hin zci_8 zw_321 (j := 4) rfl (w8_0 (by omega)) (fs' := [.ref (zo w + (a + 1)), .ref (zo w + (a + 38)), .int 0, .int 0, .ref (zo w + (a + 39))]) rfl rfl rfl rfl rfl w8_p0 dX8_init_42 rfl ?_
  refine z_iconst (pc' := 46) C dX8_init_45 zk_iconst_0 rfl ?_
  refine z_istore_n (pc' := 47) C [(1, .int 0), (0, .ref (zo w + a))] dX8_init_46 rfl rfl rfl rfl ?_
  refine z_iload_n (pc' := 48) C 0 dX8_init_47 rfl rfl rfl ?_
  refine z_bipush (pc' := 50) C dX8_init_48 zk_bipush_9 rfl ?_
  refine z_icmp_ge (pc' := 53) C 72 (if_neg (by decide) : (if (9 : Int32) ≤ (0 : Int32) then (none : Option Unit) else some ()) = some ()) dX8_init_50 rfl rfl (fun q _ => absurd q (by decide)) (fun _ _ => ?_)
  refine z_aload_n (pc' := 54) C 1 dX8_init_53 rfl rfl rfl ?_
  refine z_getf (pc' := 57) C zci_8 zw_318 (j := 1) rfl (w8_0 (by omega)) rfl rfl dX8_init_54 rfl ?_
  refine z_iload_n (pc' := 58) C 0 dX8_init_57 rfl rfl rfl ?_
  refine z_new (pc' := 61) (h' := va_up (w8 w a h [.ref (zo w + (a + 1)), .ref (zo w + (a + 38)), .int 0, .int 0, .ref (zo w + (a + 39))] (fun _ => none)) (a + (74 + 35 * 0)) (.inr (5, [.int 0, .null, .null, .null, .null, .null, .null, .null, .null]))) C zci_5 zw_314 zw_38 zw_3 zdf_5 rfl rfl dX8_init_58 rfl ?_
  refine z_dup (pc' := 62) C dX8_init_61 rfl rfl ?_
  refine z_callIN (pc' := 65) (iN := 7) (h' := zu (va_up (w8 w a h [.ref (zo w + (a + 1)), .ref (zo w + (a + 38)), .int 0, .int 0, .ref (zo w + (a + 39))] (fun _ => none)) (a + (74 + 35 * 0)) (.inr (5, [.int 0, .null, .null, .null, .null, .null, .null, .null, .null]))) (a + (74 + 35 * 0)) (pL w (a + (74 + 35 * 0)))) (st := [.ref (zo w + (a + (74 + 35 * 0))), .int 0, .ref (zo w + (a + 38))]) C (c_X5_init ⟨by omega, by simp [va_up]⟩) zy_X5_init rfl rfl zw_40 rfl rfl rfl rfl rfl dX8_init_62 rfl ?_
  refine z_agree (h' := w8 w a h [.ref (zo w + (a + 1)), .ref (zo w + (a + 38)), .int 0, .int 0, .ref (zo w + (a + 39))] (fun _ => none)) (w8_new (K := 35) (by decide) (by decide) (w8_S (i := 0) (by decide))) ?_
  refine z_aastP (pc' := 66) (h' := w8 w a h [.ref (zo w + (a + 1)), .ref (zo w + (a + 38)), .int 0, .int 0, .ref (zo w + (a + 39))] (va_up (fun _ => none) 0 (some (zo w + (a + (74 + 35 * 0)))))) C (zin_9 0 (by decide)) (w8_38 (by omega)) (fs := [.int 0, .ref (zo w + (a + (74 + 35 * 0) + 1)), .ref (zo w + (a + (74 + 35 * 0) + 2)), .ref (zo w + (a + (74 + 35 * 0) + 10)), .ref (zo w + (a + (74 + 35 * 0) + 13)), .ref (zo w + (a + (74 + 35 * 0) + 19)), .ref (zo w + (a + (74 + 35 * 0) + 23)), .ref (zo w + (a + (74 + 35 * 0) + 29)), .ref (zo w + (a + (74 + 35 * 0) + 34))]) (w8_at (i := 0) (by decide) (by omega)) w8_p38 dX8_init_65 rfl ?_
  refine z_iinc (pc' := 69) C 0 [(1, .int 1), (0, .ref (zo w + a))] dX8_init_66 rfl zk_iconst_1 rfl rfl rfl ?_
  refine z_goto C 47 dX8_init_69 rfl ?_
  refine z_iload_n (pc' := 48) C 0 dX8_init_47 rfl rfl rfl ?_
  refine z_bipush (pc' := 50) C dX8_init_48 zk_bipush_9 rfl ?_
  refine z_icmp_ge (pc' := 53) C 72 (if_neg (by decide) : (if (9 : Int32) ≤ (1 : Int32) then (none : Option Unit) else some ()) = some ()) dX8_init_50 rfl rfl (fun q _ => absurd q (by decide)) (fun _ _ => ?_)
  refine z_aload_n (pc' := 54) C 1 dX8_init_53 rfl rfl rfl ?_
  refine z_getf (pc' := 57) C zci_8 zw_318 (j := 1) rfl (w8_0 (by omega)) rfl rfl dX8_init_54 rfl ?_
  refine z_iload_n (pc' := 58) C 0 dX8_init_57 rfl rfl rfl ?_
  refine z_new (pc' := 61) (h' := va_up (w8 w a h [.ref (zo w + (a + 1)), .ref (zo w + (a + 38)), .int 0, .int 0, .ref (zo w + (a + 39))] (va_up (fun _ => none) 0 (some (zo w + (a + (74 + 35 * 0)))))) (a + (74 + 35 * 1)) (.inr (5, [.int 0, .null, .null, .null, .null, .null, .null, .null, .null]))) C zci_5 zw_314 zw_38 zw_3 zdf_5 rfl rfl dX8_init_58 rfl ?_
  refine z_dup (pc' := 62) C dX8_init_61 rfl rfl ?_
  refine z_callIN (pc' := 65) (iN := 7) (h' := zu (va_up (w8 w a h [.ref (zo w + (a + 1)), .ref (zo w + (a + 38)), .int 0, .int 0, .ref (zo w + (a + 39))] (va_up (fun _ => none) 0 (some (zo w + (a + (74 + 35 * 0)))))) (a + (74 + 35 * 1)) (.inr (5, [.int 0, .null, .null, .null, .null, .null, .null, .null, .null]))) (a + (74 + 35 * 1)) (pL w (a + (74 + 35 * 1)))) (st := [.ref (zo w + (a + (74 + 35 * 1))), .int 1, .ref (zo w + (a + 38))]) C (c_X5_init ⟨by omega, by simp [va_up]⟩) zy_X5_init rfl rfl zw_40 rfl rfl rfl rfl rfl dX8_init_62 rfl ?_
  refine z_agree (h' := w8 w a h [.ref (zo w + (a + 1)), .ref (zo w + (a + 38)), .int 0, .int 0, .ref (zo w + (a + 39))] (va_up (fun _ => none) 0 (some (zo w + (a + (74 + 35 * 0)))))) (w8_new (K := 35) (by decide) (by decide) (w8_S (i := 1) (by decide))) ?_
  refine z_aastP (pc' := 66) (h' := w8 w a h [.ref (zo w + (a + 1)), .ref (zo w + (a + 38)), .int 0, .int 0, .ref (zo w + (a + 39))] (va_up (va_up (fun _ => none) 0 (some (zo w + (a + (74 + 35 * 0))))) 1 (some (zo w + (a + (74 + 35 * 1)))))) C (zin_9 1 (by decide)) (w8_38 (by omega)) (fs := [.int 0, .ref (zo w + (a + (74 + 35 * 1) + 1)), .ref (zo w + (a + (74 + 35 * 1) + 2)), .ref (zo w + (a + (74 + 35 * 1) + 10)), .ref (zo w + (a + (74 + 35 * 1) + 13)), .ref (zo w + (a + (74 + 35 * 1) + 19)), .ref (zo w + (a + (74 + 35 * 1) + 23)), .ref (zo w + (a + (74 + 35 * 1) + 29)), .ref (zo w + (a + (74 + 35 * 1) + 34))]) (w8_at (i := 1) (by decide) (by omega)) w8_p38 dX8_init_65 rfl ?_
  refine z_iinc (pc' := 69) C 0 [(1, .int 2), (0, .ref (zo w + a))] dX8_init_66 rfl zk_iconst_1 rfl rfl rfl ?_
  refine z_goto C 47 dX8_init_69 rfl ?_
  refine z_iload_n (pc' := 48) C 0 dX8_init_47 rfl rfl rfl ?_
  refine z_bipush (pc' := 50) C dX8_init_48 zk_bipush_9 rfl ?_
  refine z_icmp_ge (pc' := 53) C 72 (if_neg (by decide) : (if (9 : Int32) ≤ (2 : Int32) then (none : Option Unit) else some ()) = some ()) dX8_init_50 rfl rfl (fun q _ => absurd q (by decide)) (fun _ _ => ?_)
  refine z_aload_n (pc' := 54) C 1 dX8_init_53 rfl rfl rfl ?_
  refine z_getf (pc' := 57) C zci_8 zw_318 (j := 1) rfl (w8_0 (by omega)) rfl rfl dX8_init_54 rfl ?_
  refine z_iload_n (pc' := 58) C 0 dX8_init_57 rfl rfl rfl ?_
  refine z_new (pc' := 61) (h' := va_up (w8 w a h [.ref (zo w + (a + 1)), .ref (zo w + (a + 38)), .int 0, .int 0, .ref (zo w + (a + 39))] (va_up (va_up (fun _ => none) 0 (some (zo w + (a + (74 + 35 * 0))))) 1 (some (zo w + (a + (74 + 35 * 1)))))) (a + (74 + 35 * 2)) (.inr (5, [.int 0, .null, .null, .null, .null, .null, .null, .null, .null]))) C zci_5 zw_314 zw_38 zw_3 zdf_5 rfl rfl dX8_init_58 rfl ?_
  refine z_dup (pc' := 62) C dX8_init_61 rfl rfl ?_
  refine z_callIN (pc' := 65) (iN := 7) (h' := zu (va_up (w8 w a h [.ref (zo w + (a + 1)), .ref (zo w + (a + 38)), .int 0, .int 0, .ref (zo w + (a + 39))] (va_up (va_up (fun _ => none) 0 (some (zo w + (a + (74 + 35 * 0))))) 1 (some (zo w + (a + (74 + 35 * 1)))))) (a + (74 + 35 * 2)) (.inr (5, [.int 0, .null, .null, .null, .null, .null, .null, .null, .null]))) (a + (74 + 35 * 2)) (pL w (a + (74 + 35 * 2)))) (st := [.ref (zo w + (a + (74 + 35 * 2))), .int 2, .ref (zo w + (a + 38))]) C (c_X5_init ⟨by omega, by simp [va_up]⟩) zy_X5_init rfl rfl zw_40 rfl rfl rfl rfl rfl dX8_init_62 rfl ?_
  refine z_agree (h' := w8 w a h [.ref (zo w + (a + 1)), .ref (zo w + (a + 38)), .int 0, .int 0, .ref (zo w + (a + 39))] (va_up (va_up (fun _ => none) 0 (some (zo w + (a + (74 + 35 * 0))))) 1 (some (zo w + (a + (74 + 35 * 1)))))) (w8_new (K := 35) (by decide) (by decide) (w8_S (i := 2) (by decide))) ?_
  refine z_aastP (pc' := 66) (h' := w8 w a h [.ref (zo w + (a + 1)), .ref (zo w + (a + 38)), .int 0, .int 0, .ref (zo w + (a + 39))] (va_up (va_up (va_up (fun _ => none) 0 (some (zo w + (a + (74 + 35 * 0))))) 1 (some (zo w + (a + (74 + 35 * 1))))) 2 (some (zo w + (a + (74 + 35 * 2)))))) C (zin_9 2 (by decide)) (w8_38 (by omega)) (fs := [.int 0, .ref (zo w + (a + (74 + 35 * 2) + 1)), .ref (zo w + (a + (74 + 35 * 2) + 2)), .ref (zo w + (a + (74 + 35 * 2) + 10)), .ref (zo w + (a + (74 + 35 * 2) + 13)), .ref (zo w + (a + (74 + 35 * 2) + 19)), .ref (zo w + (a + (74 + 35 * 2) + 23)), .ref (zo w + (a + (74 + 35 * 2) + 29)), .ref (zo w + (a + (74 + 35 * 2) + 34))]) (w8_at (i := 2) (by decide) (by omega)) w8_p38 dX8_init_65 rfl ?_
  refine z_iinc (pc' := 69) C 0 [(1, .int 3), (0, .ref (zo w + a))] dX8_init_66 rfl zk_iconst_1 rfl rfl rfl ?_
  refine z_goto C 47 dX8_init_69 rfl ?_
  refine z_iload_n (pc' := 48) C 0 dX8_init_47 rfl rfl rfl ?_
  refine z_bipush (pc' := 50) C dX8_init_48 zk_bipush_9 rfl ?_
  refine z_icmp_ge (pc' := 53) C 72 (if_neg (by decide) : (if (9 : Int32) ≤ (3 : Int32) then (none : Option Unit) else some ()) = some ()) dX8_init_50 rfl rfl (fun q _ => absurd q (by decide)) (fun _ _ => ?_)
  refine z_aload_n (pc' := 54) C 1 dX8_init_53 rfl rfl rfl ?_
  refine z_getf (pc' := 57) C zci_8 zw_318 (j := 1) rfl (w8_0 (by omega)) rfl rfl dX8_init_54 rfl ?_
  refine z_iload_n (pc' := 58) C 0 dX8_init_57 rfl rfl rfl ?_
  refine z_new (pc' := 61) (h' := va_up (w8 w a h [.ref (zo w + (a + 1)), .ref (zo w + (a + 38)), .int 0, .int 0, .ref (zo w + (a + 39))] (va_up (va_up (va_up (fun _ => none) 0 (some (zo w + (a + (74 + 35 * 0))))) 1 (some (zo w + (a + (74 + 35 * 1))))) 2 (some (zo w + (a + (74 + 35 * 2)))))) (a + (74 + 35 * 3)) (.inr (5, [.int 0, .null, .null, .null, .null, .null, .null, .null, .null]))) C zci_5 zw_314 zw_38 zw_3 zdf_5 rfl rfl dX8_init_58 rfl ?_
  refine z_dup (pc' := 62) C dX8_init_61 rfl rfl ?_
  refine z_callIN (pc' := 65) (iN := 7) (h' := zu (va_up (w8 w a h [.ref (zo w + (a + 1)), .ref (zo w + (a + 38)), .int 0, .int 0, .ref (zo w + (a + 39))] (va_up (va_up (va_up (fun _ => none) 0 (some (zo w + (a + (74 + 35 * 0))))) 1 (some (zo w + (a + (74 + 35 * 1))))) 2 (some (zo w + (a + (74 + 35 * 2)))))) (a + (74 + 35 * 3)) (.inr (5, [.int 0, .null, .null, .null, .null, .null, .null, .null, .null]))) (a + (74 + 35 * 3)) (pL w (a + (74 + 35 * 3)))) (st := [.ref (zo w + (a + (74 + 35 * 3))), .int 3, .ref (zo w + (a + 38))]) C (c_X5_init ⟨by omega, by simp [va_up]⟩) zy_X5_init rfl rfl zw_40 rfl rfl rfl rfl rfl dX8_init_62 rfl ?_
  refine z_agree (h' := w8 w a h [.ref (zo w + (a + 1)), .ref (zo w + (a + 38)), .int 0, .int 0, .ref (zo w + (a + 39))] (va_up (va_up (va_up (fun _ => none) 0 (some (zo w + (a + (74 + 35 * 0))))) 1 (some (zo w + (a + (74 + 35 * 1))))) 2 (some (zo w + (a + (74 + 35 * 2)))))) (w8_new (K := 35) (by decide) (by decide) (w8_S (i := 3) (by decide))) ?_
  refine z_aastP (pc' := 66) (h' := w8 w a h [.ref (zo w + (a + 1)), .ref (zo w + (a + 38)), .int 0, .int 0, .ref (zo w + (a + 39))] (va_up (va_up (va_up (va_up (fun _ => none) 0 (some (zo w + (a + (74 + 35 * 0))))) 1 (some (zo w + (a + (74 + 35 * 1))))) 2 (some (zo w + (a + (74 + 35 * 2))))) 3 (some (zo w + (a + (74 + 35 * 3)))))) C (zin_9 3 (by decide)) (w8_38 (by omega)) (fs := [.int 0, .ref (zo w + (a + (74 + 35 * 3) + 1)), .ref (zo w + (a + (74 + 35 * 3) + 2)), .ref (zo w + (a + (74 + 35 * 3) + 10)), .ref (zo w + (a + (74 + 35 * 3) + 13)), .ref (zo w + (a + (74 + 35 * 3) + 19)), .ref (zo w + (a + (74 + 35 * 3) + 23)), .ref (zo w + (a + (74 + 35 * 3) + 29)), .ref (zo w + (a + (74 + 35 * 3) + 34))]) (w8_at (i := 3) (by decide) (by omega)) w8_p38 dX8_init_65 rfl ?_
  refine z_iinc (pc' := 69) C 0 [(1, .int 4), (0, .ref (zo w + a))] dX8_init_66 rfl zk_iconst_1 rfl rfl rfl ?_
  refine z_goto C 47 dX8_init_69 rfl ?_
  refine z_iload_n (pc' := 48) C 0 dX8_init_47 rfl rfl rfl ?_
  refine z_bipush (pc' := 50) C dX8_init_48 zk_bipush_9 rfl ?_
  refine z_icmp_ge (pc' := 53) C 72 (if_neg (by decide) : (if (9 : Int32) ≤ (4 : Int32) then (none : Option Unit) else some ()) = some ()) dX8_init_50 rfl rfl (fun q _ => absurd q (by decide)) (fun _ _ => ?_)
  refine z_aload_n (pc' := 54) C 1 dX8_init_53 rfl rfl rfl ?_
  refine z_getf (pc' := 57) C zci_8 zw_318 (j := 1) rfl (w8_0 (by omega)) rfl rfl dX8_init_54 rfl ?_
  refine z_iload_n (pc' := 58) C 0 dX8_init_57 rfl rfl rfl ?_
  refine z_new (pc' := 61) (h' := va_up (w8 w a h [.ref (zo w + (a + 1)), .ref (zo w + (a + 38)), .int 0, .int 0, .ref (zo w + (a + 39))] (va_up (va_up (va_up (va_up (fun _ => none) 0 (some (zo w + (a + (74 + 35 * 0))))) 1 (some (zo w + (a + (74 + 35 * 1))))) 2 (some (zo w + (a + (74 + 35 * 2))))) 3 (some (zo w + (a + (74 + 35 * 3)))))) (a + (74 + 35 * 4)) (.inr (5, [.int 0, .null, .null, .null, .null, .null, .null, .null, .null]))) C zci_5 zw_314 zw_38 zw_3 zdf_5 rfl rfl dX8_init_58 rfl ?_
  refine z_dup (pc' := 62) C dX8_init_61 rfl rfl ?_
  refine z_callIN (pc' := 65) (iN := 7) (h' := zu (va_up (w8 w a h [.ref (zo w + (a + 1)), .ref (zo w + (a + 38)), .int 0, .int 0, .ref (zo w + (a + 39))] (va_up (va_up (va_up (va_up (fun _ => none) 0 (some (zo w + (a + (74 + 35 * 0))))) 1 (some (zo w + (a + (74 + 35 * 1))))) 2 (some (zo w + (a + (74 + 35 * 2))))) 3 (some (zo w + (a + (74 + 35 * 3)))))) (a + (74 + 35 * 4)) (.inr (5, [.int 0, .null, .null, .null, .null, .null, .null, .null, .null]))) (a + (74 + 35 * 4)) (pL w (a + (74 + 35 * 4)))) (st := [.ref (zo w + (a + (74 + 35 * 4))), .int 4, .ref (zo w + (a + 38))]) C (c_X5_init ⟨by omega, by simp [va_up]⟩) zy_X5_init rfl rfl zw_40 rfl rfl rfl rfl rfl dX8_init_62 rfl ?_
  refine z_agree (h' := w8 w a h [.ref (zo w + (a + 1)), .ref (zo w + (a + 38)), .int 0, .int 0, .ref (zo w + (a + 39))] (va_up (va_up (va_up (va_up (fun _ => none) 0 (some (zo w + (a + (74 + 35 * 0))))) 1 (some (zo w + (a + (74 + 35 * 1))))) 2 (some (zo w + (a + (74 + 35 * 2))))) 3 (some (zo w + (a + (74 + 35 * 3)))))) (w8_new (K := 35) (by decide) (by decide) (w8_S (i := 4) (by decide))) ?_
  refine z_aastP (pc' := 66) (h' := w8 w a h [.ref (zo w + (a + 1)), .ref (zo w + (a + 38)), .int 0, .int 0, .ref (zo w + (a + 39))] (va_up (va_up (va_up (va_up (va_up (fun _ => none) 0 (some (zo w + (a + (74 + 35 * 0))))) 1 (some (zo w + (a + (74 + 35 * 1))))) 2 (some (zo w + (a + (74 + 35 * 2))))) 3 (some (zo w + (a + (74 + 35 * 3))))) 4 (some (zo w + (a + (74 + 35 * 4)))))) C (zin_9 4 (by decide)) (w8_38 (by omega)) (fs := [.int 0, .ref (zo w + (a + (74 + 35 * 4) + 1)), .ref (zo w + (a + (74 + 35 * 4) + 2)), .ref (zo w + (a + (74 + 35 * 4) + 10)), .ref (zo w + (a + (74 + 35 * 4) + 13)), .ref (zo w + (a + (74 + 35 * 4) + 19)), .ref (zo w + (a + (74 + 35 * 4) + 23)), .ref (zo w + (a + (74 + 35 * 4) + 29)), .ref (zo w + (a + (74 + 35 * 4) + 34))]) (w8_at (i := 4) (by decide) (by omega)) w8_p38 dX8_init_65 rfl ?_
  refine z_iinc (pc' := 69) C 0 [(1, .int 5), (0, .ref (zo w + a))] dX8_init_66 rfl zk_iconst_1 rfl rfl rfl ?_
  refine z_goto C 47 dX8_init_69 rfl ?_
  refine z_iload_n (pc' := 48) C 0 dX8_init_47 rfl rfl rfl ?_
  refine z_bipush (pc' := 50) C dX8_init_48 zk_bipush_9 rfl ?_
  refine z_icmp_ge (pc' := 53) C 72 (if_neg (by decide) : (if (9 : Int32) ≤ (5 : Int32) then (none : Option Unit) else some ()) = some ()) dX8_init_50 rfl rfl (fun q _ => absurd q (by decide)) (fun _ _ => ?_)
  refine z_aload_n (pc' := 54) C 1 dX8_init_53 rfl rfl rfl ?_
  refine z_getf (pc' := 57) C zci_8 zw_318 (j := 1) rfl (w8_0 (by omega)) rfl rfl dX8_init_54 rfl ?_
  refine z_iload_n (pc' := 58) C 0 dX8_init_57 rfl rfl rfl ?_
  refine z_new (pc' := 61) (h' := va_up (w8 w a h [.ref (zo w + (a + 1)), .ref (zo w + (a + 38)), .int 0, .int 0, .ref (zo w + (a + 39))] (va_up (va_up (va_up (va_up (va_up (fun _ => none) 0 (some (zo w + (a + (74 + 35 * 0))))) 1 (some (zo w + (a + (74 + 35 * 1))))) 2 (some (zo w + (a + (74 + 35 * 2))))) 3 (some (zo w + (a + (74 + 35 * 3))))) 4 (some (zo w + (a + (74 + 35 * 4)))))) (a + (74 + 35 * 5)) (.inr (5, [.int 0, .null, .null, .null, .null, .null, .null, .null, .null]))) C zci_5 zw_314 zw_38 zw_3 zdf_5 rfl rfl dX8_init_58 rfl ?_
  refine z_dup (pc' := 62) C dX8_init_61 rfl rfl ?_
  refine z_callIN (pc' := 65) (iN := 7) (h' := zu (va_up (w8 w a h [.ref (zo w + (a + 1)), .ref (zo w + (a + 38)), .int 0, .int 0, .ref (zo w + (a + 39))] (va_up (va_up (va_up (va_up (va_up (fun _ => none) 0 (some (zo w + (a + (74 + 35 * 0))))) 1 (some (zo w + (a + (74 + 35 * 1))))) 2 (some (zo w + (a + (74 + 35 * 2))))) 3 (some (zo w + (a + (74 + 35 * 3))))) 4 (some (zo w + (a + (74 + 35 * 4)))))) (a + (74 + 35 * 5)) (.inr (5, [.int 0, .null, .null, .null, .null, .null, .null, .null, .null]))) (a + (74 + 35 * 5)) (pL w (a + (74 + 35 * 5)))) (st := [.ref (zo w + (a + (74 + 35 * 5))), .int 5, .ref (zo w + (a + 38))]) C (c_X5_init ⟨by omega, by simp [va_up]⟩) zy_X5_init rfl rfl zw_40 rfl rfl rfl rfl rfl dX8_init_62 rfl ?_
  refine z_agree (h' := w8 w a h [.ref (zo w + (a + 1)), .ref (zo w + (a + 38)), .int 0, .int 0, .ref (zo w + (a + 39))] (va_up (va_up (va_up (va_up (va_up (fun _ => none) 0 (some (zo w + (a + (74 + 35 * 0))))) 1 (some (zo w + (a + (74 + 35 * 1))))) 2 (some (zo w + (a + (74 + 35 * 2))))) 3 (some (zo w + (a + (74 + 35 * 3))))) 4 (some (zo w + (a + (74 + 35 * 4)))))) (w8_new (K := 35) (by decide) (by decide) (w8_S (i := 5) (by decide))) ?_
  refine z_aastP (pc' := 66) (h' := w8 w a h [.ref (zo w + (a + 1)), .ref (zo w + (a + 38)), .int 0, .int 0, .ref (zo w + (a + 39))] (va_up (va_up (va_up (va_up (va_up (va_up (fun _ => none) 0 (some (zo w + (a + (74 + 35 * 0))))) 1 (some (zo w + (a + (74 + 35 * 1))))) 2 (some (zo w + (a + (74 + 35 * 2))))) 3 (some (zo w + (a + (74 + 35 * 3))))) 4 (some (zo w + (a + (74 + 35 * 4))))) 5 (some (zo w + (a + (74 + 35 * 5)))))) C (zin_9 5 (by decide)) (w8_38 (by omega)) (fs := [.int 0, .ref (zo w + (a + (74 + 35 * 5) + 1)), .ref (zo w + (a + (74 + 35 * 5) + 2)), .ref (zo w + (a + (74 + 35 * 5) + 10)), .ref (zo w + (a + (74 + 35 * 5) + 13)), .ref (zo w + (a + (74 + 35 * 5) + 19)), .ref (zo w + (a + (74 + 35 * 5) + 23)), .ref (zo w + (a + (74 + 35 * 5) + 29)), .ref (zo w + (a + (74 + 35 * 5) + 34))]) (w8_at (i := 5) (by decide) (by omega)) w8_p38 dX8_init_65 rfl ?_
  refine z_iinc (pc' := 69) C 0 [(1, .int 6), (0, .ref (zo w + a))] dX8_init_66 rfl zk_iconst_1 rfl rfl rfl ?_
  refine z_goto C 47 dX8_init_69 rfl ?_
  refine z_iload_n (pc' := 48) C 0 dX8_init_47 rfl rfl rfl ?_
  refine z_bipush (pc' := 50) C dX8_init_48 zk_bipush_9 rfl ?_
  refine z_icmp_ge (pc' := 53) C 72 (if_neg (by decide) : (if (9 : Int32) ≤ (6 : Int32) then (none : Option Unit) else some ()) = some ()) dX8_init_50 rfl rfl (fun q _ => absurd q (by decide)) (fun _ _ => ?_)
  refine z_aload_n (pc' := 54) C 1 dX8_init_53 rfl rfl rfl ?_
  refine z_getf (pc' := 57) C zci_8 zw_318 (j := 1) rfl (w8_0 (by omega)) rfl rfl dX8_init_54 rfl ?_
  refine z_iload_n (pc' := 58) C 0 dX8_init_57 rfl rfl rfl ?_
  refine z_new (pc' := 61) (h' := va_up (w8 w a h [.ref (zo w + (a + 1)), .ref (zo w + (a + 38)), .int 0, .int 0, .ref (zo w + (a + 39))] (va_up (va_up (va_up (va_up (va_up (va_up (fun _ => none) 0 (some (zo w + (a + (74 + 35 * 0))))) 1 (some (zo w + (a + (74 + 35 * 1))))) 2 (some (zo w + (a + (74 + 35 * 2))))) 3 (some (zo w + (a + (74 + 35 * 3))))) 4 (some (zo w + (a + (74 + 35 * 4))))) 5 (some (zo w + (a + (74 + 35 * 5)))))) (a + (74 + 35 * 6)) (.inr (5, [.int 0, .null, .null, .null, .null, .null, .null, .null, .null]))) C zci_5 zw_314 zw_38 zw_3 zdf_5 rfl rfl dX8_init_58 rfl ?_
  refine z_dup (pc' := 62) C dX8_init_61 rfl rfl ?_
  refine z_callIN (pc' := 65) (iN := 7) (h' := zu (va_up (w8 w a h [.ref (zo w + (a + 1)), .ref (zo w + (a + 38)), .int 0, .int 0, .ref (zo w + (a + 39))] (va_up (va_up (va_up (va_up (va_up (va_up (fun _ => none) 0 (some (zo w + (a + (74 + 35 * 0))))) 1 (some (zo w + (a + (74 + 35 * 1))))) 2 (some (zo w + (a + (74 + 35 * 2))))) 3 (some (zo w + (a + (74 + 35 * 3))))) 4 (some (zo w + (a + (74 + 35 * 4))))) 5 (some (zo w + (a + (74 + 35 * 5)))))) (a + (74 + 35 * 6)) (.inr (5, [.int 0, .null, .null, .null, .null, .null, .null, .null, .null]))) (a + (74 + 35 * 6)) (pL w (a + (74 + 35 * 6)))) (st := [.ref (zo w + (a + (74 + 35 * 6))), .int 6, .ref (zo w + (a + 38))]) C (c_X5_init ⟨by omega, by simp [va_up]⟩) zy_X5_init rfl rfl zw_40 rfl rfl rfl rfl rfl dX8_init_62 rfl ?_
  refine z_agree (h' := w8 w a h [.ref (zo w + (a + 1)), .ref (zo w + (a + 38)), .int 0, .int 0, .ref (zo w + (a + 39))] (va_up (va_up (va_up (va_up (va_up (va_up (fun _ => none) 0 (some (zo w + (a + (74 + 35 * 0))))) 1 (some (zo w + (a + (74 + 35 * 1))))) 2 (some (zo w + (a + (74 + 35 * 2))))) 3 (some (zo w + (a + (74 + 35 * 3))))) 4 (some (zo w + (a + (74 + 35 * 4))))) 5 (some (zo w + (a + (74 + 35 * 5)))))) (w8_new (K := 35) (by decide) (by decide) (w8_S (i := 6) (by decide))) ?_
  refine z_aastP (pc' := 66) (h' := w8 w a h [.ref (zo w + (a + 1)), .ref (zo w + (a + 38)), .int 0, .int 0, .ref (zo w + (a + 39))] (va_up (va_up (va_up (va_up (va_up (va_up (va_up (fun _ => none) 0 (some (zo w + (a + (74 + 35 * 0))))) 1 (some (zo w + (a + (74 + 35 * 1))))) 2 (some (zo w + (a + (74 + 35 * 2))))) 3 (some (zo w + (a + (74 + 35 * 3))))) 4 (some (zo w + (a + (74 + 35 * 4))))) 5 (some (zo w + (a + (74 + 35 * 5))))) 6 (some (zo w + (a + (74 + 35 * 6)))))) C (zin_9 6 (by decide)) (w8_38 (by omega)) (fs := [.int 0, .ref (zo w + (a + (74 + 35 * 6) + 1)), .ref (zo w + (a + (74 + 35 * 6) + 2)), .ref (zo w + (a + (74 + 35 * 6) + 10)), .ref (zo w + (a + (74 + 35 * 6) + 13)), .ref (zo w + (a + (74 + 35 * 6) + 19)), .ref (zo w + (a + (74 + 35 * 6) + 23)), .ref (zo w + (a + (74 + 35 * 6) + 29)), .ref (zo w + (a + (74 + 35 * 6) + 34))]) (w8_at (i := 6) (by decide) (by omega)) w8_p38 dX8_init_65 rfl ?_
  refine z_iinc (pc' := 69) C 0 [(1, .int 7), (0, .ref (zo w + a))] dX8_init_66 rfl zk_iconst_1 rfl rfl rfl ?_
  refine z_goto C 47 dX8_init_69 rfl ?_
  refine z_iload_n (pc' := 48) C 0 dX8_init_47 rfl rfl rfl ?_
  refine z_bipush (pc' := 50) C dX8_init_48 zk_bipush_9 rfl ?_
  refine z_icmp_ge (pc' := 53) C 72 (if_neg (by decide) : (if (9 : Int32) ≤ (7 : Int32) then (none : Option Unit) else some ()) = some ()) dX8_init_50 rfl rfl (fun q _ => absurd q (by decide)) (fun _ _ => ?_)
  refine z_aload_n (pc' := 54) C 1 dX8_init_53 rfl rfl rfl ?_
  refine z_getf (pc' := 57) C zci_8 zw_318 (j := 1) rfl (w8_0 (by omega)) rfl rfl dX8_init_54 rfl ?_
  refine z_iload_n (pc' := 58) C 0 dX8_init_57 rfl rfl rfl ?_
  refine z_new (pc' := 61) (h' := va_up (w8 w a h [.ref (zo w + (a + 1)), .ref (zo w + (a + 38)), .int 0, .int 0, .ref (zo w + (a + 39))] (va_up (va_up (va_up (va_up (va_up (va_up (va_up (fun _ => none) 0 (some (zo w + (a + (74 + 35 * 0))))) 1 (some (zo w + (a + (74 + 35 * 1))))) 2 (some (zo w + (a + (74 + 35 * 2))))) 3 (some (zo w + (a + (74 + 35 * 3))))) 4 (some (zo w + (a + (74 + 35 * 4))))) 5 (some (zo w + (a + (74 + 35 * 5))))) 6 (some (zo w + (a + (74 + 35 * 6)))))) (a + (74 + 35 * 7)) (.inr (5, [.int 0, .null, .null, .null, .null, .null, .null, .null, .null]))) C zci_5 zw_314 zw_38 zw_3 zdf_5 rfl rfl dX8_init_58 rfl ?_
  refine z_dup (pc' := 62) C dX8_init_61 rfl rfl ?_
  refine z_callIN (pc' := 65) (iN := 7) (h' := zu (va_up (w8 w a h [.ref (zo w + (a + 1)), .ref (zo w + (a + 38)), .int 0, .int 0, .ref (zo w + (a + 39))] (va_up (va_up (va_up (va_up (va_up (va_up (va_up (fun _ => none) 0 (some (zo w + (a + (74 + 35 * 0))))) 1 (some (zo w + (a + (74 + 35 * 1))))) 2 (some (zo w + (a + (74 + 35 * 2))))) 3 (some (zo w + (a + (74 + 35 * 3))))) 4 (some (zo w + (a + (74 + 35 * 4))))) 5 (some (zo w + (a + (74 + 35 * 5))))) 6 (some (zo w + (a + (74 + 35 * 6)))))) (a + (74 + 35 * 7)) (.inr (5, [.int 0, .null, .null, .null, .null, .null, .null, .null, .null]))) (a + (74 + 35 * 7)) (pL w (a + (74 + 35 * 7)))) (st := [.ref (zo w + (a + (74 + 35 * 7))), .int 7, .ref (zo w + (a + 38))]) C (c_X5_init ⟨by omega, by simp [va_up]⟩) zy_X5_init rfl rfl zw_40 rfl rfl rfl rfl rfl dX8_init_62 rfl ?_
  refine z_agree (h' := w8 w a h [.ref (zo w + (a + 1)), .ref (zo w + (a + 38)), .int 0, .int 0, .ref (zo w + (a + 39))] (va_up (va_up (va_up (va_up (va_up (va_up (va_up (fun _ => none) 0 (some (zo w + (a + (74 + 35 * 0))))) 1 (some (zo w + (a + (74 + 35 * 1))))) 2 (some (zo w + (a + (74 + 35 * 2))))) 3 (some (zo w + (a + (74 + 35 * 3))))) 4 (some (zo w + (a + (74 + 35 * 4))))) 5 (some (zo w + (a + (74 + 35 * 5))))) 6 (some (zo w + (a + (74 + 35 * 6)))))) (w8_new (K := 35) (by decide) (by decide) (w8_S (i := 7) (by decide))) ?_
  refine z_aastP (pc' := 66) (h' := w8 w a h [.ref (zo w + (a + 1)), .ref (zo w + (a + 38)), .int 0, .int 0, .ref (zo w + (a + 39))] (va_up (va_up (va_up (va_up (va_up (va_up (va_up (va_up (fun _ => none) 0 (some (zo w + (a + (74 + 35 * 0))))) 1 (some (zo w + (a + (74 + 35 * 1))))) 2 (some (zo w + (a + (74 + 35 * 2))))) 3 (some (zo w + (a + (74 + 35 * 3))))) 4 (some (zo w + (a + (74 + 35 * 4))))) 5 (some (zo w + (a + (74 + 35 * 5))))) 6 (some (zo w + (a + (74 + 35 * 6))))) 7 (some (zo w + (a + (74 + 35 * 7)))))) C (zin_9 7 (by decide)) (w8_38 (by omega)) (fs := [.int 0, .ref (zo w + (a + (74 + 35 * 7) + 1)), .ref (zo w + (a + (74 + 35 * 7) + 2)), .ref (zo w + (a + (74 + 35 * 7) + 10)), .ref (zo w + (a + (74 + 35 * 7) + 13)), .ref (zo w + (a + (74 + 35 * 7) + 19)), .ref (zo w + (a + (74 + 35 * 7) + 23)), .ref (zo w + (a + (74 + 35 * 7) + 29)), .ref (zo w + (a + (74 + 35 * 7) + 34))]) (w8_at (i := 7) (by decide) (by omega)) w8_p38 dX8_init_65 rfl ?_
  refine z_iinc (pc' := 69) C 0 [(1, .int 8), (0, .ref (zo w + a))] dX8_init_66 rfl zk_iconst_1 rfl rfl rfl ?_
  refine z_goto C 47 dX8_init_69 rfl ?_
  refine z_iload_n (pc' := 48) C 0 dX8_init_47 rfl rfl rfl ?_
  refine z_bipush (pc' := 50) C dX8_init_48 zk_bipush_9 rfl ?_
  refine z_icmp_ge (pc' := 53) C 72 (if_neg (by decide) : (if (9 : Int32) ≤ (8 : Int32) then (none : Option Unit) else some ()) = some ()) dX8_init_50 rfl rfl (fun q _ => absurd q (by decide)) (fun _ _ => ?_)
  refine z_aload_n (pc' := 54) C 1 dX8_init_53 rfl rfl rfl ?_
  refine z_getf (pc' := 57) C zci_8 zw_318 (j := 1) rfl (w8_0 (by omega)) rfl rfl dX8_init_54 rfl ?_
  refine z_iload_n (pc' := 58) C 0 dX8_init_57 rfl rfl rfl ?_
  refine z_new (pc' := 61) (h' := va_up (w8 w a h [.ref (zo w + (a + 1)), .ref (zo w + (a + 38)), .int 0, .int 0, .ref (zo w + (a + 39))] (va_up (va_up (va_up (va_up (va_up (va_up (va_up (va_up (fun _ => none) 0 (some (zo w + (a + (74 + 35 * 0))))) 1 (some (zo w + (a + (74 + 35 * 1))))) 2 (some (zo w + (a + (74 + 35 * 2))))) 3 (some (zo w + (a + (74 + 35 * 3))))) 4 (some (zo w + (a + (74 + 35 * 4))))) 5 (some (zo w + (a + (74 + 35 * 5))))) 6 (some (zo w + (a + (74 + 35 * 6))))) 7 (some (zo w + (a + (74 + 35 * 7)))))) (a + (74 + 35 * 8)) (.inr (5, [.int 0, .null, .null, .null, .null, .null, .null, .null, .null]))) C zci_5 zw_314 zw_38 zw_3 zdf_5 rfl rfl dX8_init_58 rfl ?_
  refine z_dup (pc' := 62) C dX8_init_61 rfl rfl ?_
  refine z_callIN (pc' := 65) (iN := 7) (h' := zu (va_up (w8 w a h [.ref (zo w + (a + 1)), .ref (zo w + (a + 38)), .int 0, .int 0, .ref (zo w + (a + 39))] (va_up (va_up (va_up (va_up (va_up (va_up (va_up (va_up (fun _ => none) 0 (some (zo w + (a + (74 + 35 * 0))))) 1 (some (zo w + (a + (74 + 35 * 1))))) 2 (some (zo w + (a + (74 + 35 * 2))))) 3 (some (zo w + (a + (74 + 35 * 3))))) 4 (some (zo w + (a + (74 + 35 * 4))))) 5 (some (zo w + (a + (74 + 35 * 5))))) 6 (some (zo w + (a + (74 + 35 * 6))))) 7 (some (zo w + (a + (74 + 35 * 7)))))) (a + (74 + 35 * 8)) (.inr (5, [.int 0, .null, .null, .null, .null, .null, .null, .null, .null]))) (a + (74 + 35 * 8)) (pL w (a + (74 + 35 * 8)))) (st := [.ref (zo w + (a + (74 + 35 * 8))), .int 8, .ref (zo w + (a + 38))]) C (c_X5_init ⟨by omega, by simp [va_up]⟩) zy_X5_init rfl rfl zw_40 rfl rfl rfl rfl rfl dX8_init_62 rfl ?_
  refine z_agree (h' := w8 w a h [.ref (zo w + (a + 1)), .ref (zo w + (a + 38)), .int 0, .int 0, .ref (zo w + (a + 39))] (va_up (va_up (va_up (va_up (va_up (va_up (va_up (va_up (fun _ => none) 0 (some (zo w + (a + (74 + 35 * 0))))) 1 (some (zo w + (a + (74 + 35 * 1))))) 2 (some (zo w + (a + (74 + 35 * 2))))) 3 (some (zo w + (a + (74 + 35 * 3))))) 4 (some (zo w + (a + (74 + 35 * 4))))) 5 (some (zo w + (a + (74 + 35 * 5))))) 6 (some (zo w + (a + (74 + 35 * 6))))) 7 (some (zo w + (a + (74 + 35 * 7)))))) (w8_new (K := 35) (by decide) (by decide) (w8_S (i := 8) (by decide))) ?_
  refine z_aastP (pc' := 66) (h' := w8 w a h [.ref (zo w + (a + 1)), .ref (zo w + (a + 38)), .int 0, .int 0, .ref (zo w + (a + 39))] (va_up (va_up (va_up (va_up (va_up (va_up (va_up (va_up (va_up (fun _ => none) 0 (some (zo w + (a + (74 + 35 * 0))))) 1 (some (zo w + (a + (74 + 35 * 1))))) 2 (some (zo w + (a + (74 + 35 * 2))))) 3 (some (zo w + (a + (74 + 35 * 3))))) 4 (some (zo w + (a + (74 + 35 * 4))))) 5 (some (zo w + (a + (74 + 35 * 5))))) 6 (some (zo w + (a + (74 + 35 * 6))))) 7 (some (zo w + (a + (74 + 35 * 7))))) 8 (some (zo w + (a + (74 + 35 * 8)))))) C (zin_9 8 (by decide)) (w8_38 (by omega)) (fs := [.int 0, .ref (zo w + (a + (74 + 35 * 8) + 1)), .ref (zo w + (a + (74 + 35 * 8) + 2)), .ref (zo w + (a + (74 + 35 * 8) + 10)), .ref (zo w + (a + (74 + 35 * 8) + 13)), .ref (zo w + (a + (74 + 35 * 8) + 19)), .ref (zo w + (a + (74 + 35 * 8) + 23)), .ref (zo w + (a + (74 + 35 * 8) + 29)), .ref (zo w + (a + (74 + 35 * 8) + 34))]) (w8_at (i := 8) (by decide) (by omega)) w8_p38 dX8_init_65 rfl ?_
  refine z_iinc (pc' := 69) C 0 [(1, .int 9), (0, .ref (zo w + a))] dX8_init_66 rfl zk_iconst_1 rfl rfl rfl ?_
  refine z_goto C 47 dX8_init_69 rfl ?_
  refine z_iload_n (pc' := 48) C 0 dX8_init_47 rfl rfl rfl ?_
  refine z_bipush (pc' := 50) C dX8_init_48 zk_bipush_9 rfl ?_
  refine z_icmp_ge (pc' := 53) C 72 (if_pos (by decide) : (if (9 : Int32) ≤ (9 : Int32) then some () else (none : Option Unit)) = some ()) dX8_init_50 rfl rfl (fun _ _ => ?_) (fun q _ => absurd (by decide) q)
  refine z_refs (b := a + 38) (h' := lgH w a (hI w a h) (lg_0s a)) (f := (va_up (va_up (va_up (va_up (va_up (va_up (va_up (va_up (va_up (fun _ => none) 0 (some (zo w + (a + (74 + 35 * 0))))) 1 (some (zo w + (a + (74 + 35 * 1))))) 2 (some (zo w + (a + (74 + 35 * 2))))) 3 (some (zo w + (a + (74 + 35 * 3))))) 4 (some (zo w + (a + (74 + 35 * 4))))) 5 (some (zo w + (a + (74 + 35 * 5))))) 6 (some (zo w + (a + (74 + 35 * 6))))) 7 (some (zo w + (a + (74 + 35 * 7))))) 8 (some (zo w + (a + (74 + 35 * 8)))))) (f' := fun i => some (zo w + (a + (74 + 35 * i)))) (fun j hj => ?_) (w8_38 (N := a + 389) (by omega)).2 (lg_38 (w := w) (h := hI w a h) (σ := lg_0s a) (N := a + 389) (Nat.le_refl _)).2 (fun i hi => ?_) ?_
  · unfold w8
    rw [if_neg hj]
    by_cases h1 : j = a
    · rw [if_pos h1, h1]
      exact (lg_0 (w := w) (h := hI w a h) (σ := lg_0s a) (N := a + 389) (Nat.le_refl _)).2.symm
    · rw [if_neg h1]
  · match i, hi with
    | 0, _ => rfl
    | 1, _ => rfl
    | 2, _ => rfl
    | 3, _ => rfl
    | 4, _ => rfl
    | 5, _ => rfl
    | 6, _ => rfl
    | 7, _ => rfl
    | 8, _ => rfl
    | n + 9, h => exact absurd h (by omega)
  exact z_vret C rfl rfl dX8_init_72
