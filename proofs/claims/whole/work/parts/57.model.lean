/-! the reference: its state, and the law's world -/
abbrev MdT : Type := Int32 × (Nat → Int64) × (Nat → Int64) × (Nat → Int64) × Int32 × Int32 × (Nat → Int32) × Int32 × Int32 × Int32 × Int32 × Int32 × Int32 × Int32 × Int32 × Int32 × (Nat → Int64)
abbrev md_thrown (ρ : MdT) : Int32 := ρ.1
abbrev md_rows (ρ : MdT) : (Nat → Int64) := ρ.2.1
abbrev md_read (ρ : MdT) : (Nat → Int64) := ρ.2.2.1
abbrev md_aside (ρ : MdT) : (Nat → Int64) := ρ.2.2.2.1
abbrev md_now (ρ : MdT) : Int32 := ρ.2.2.2.2.1
abbrev md_undoable (ρ : MdT) : Int32 := ρ.2.2.2.2.2.1
abbrev md_text (ρ : MdT) : (Nat → Int32) := ρ.2.2.2.2.2.2.1
abbrev md_bytes (ρ : MdT) : Int32 := ρ.2.2.2.2.2.2.2.1
abbrev md_errorAt (ρ : MdT) : Int32 := ρ.2.2.2.2.2.2.2.2.1
abbrev md_size (ρ : MdT) : Int32 := ρ.2.2.2.2.2.2.2.2.2.1
abbrev md_next (ρ : MdT) : Int32 := ρ.2.2.2.2.2.2.2.2.2.2.1
abbrev md_error (ρ : MdT) : Int32 := ρ.2.2.2.2.2.2.2.2.2.2.2.1
abbrev md_place (ρ : MdT) : Int32 := ρ.2.2.2.2.2.2.2.2.2.2.2.2.1
abbrev md_began (ρ : MdT) : Int32 := ρ.2.2.2.2.2.2.2.2.2.2.2.2.2.1
abbrev md_nested (ρ : MdT) : Int32 := ρ.2.2.2.2.2.2.2.2.2.2.2.2.2.2.1
abbrev md_once (ρ : MdT) : Int32 := ρ.2.2.2.2.2.2.2.2.2.2.2.2.2.2.2.1
abbrev md_pile (ρ : MdT) : (Nat → Int64) := ρ.2.2.2.2.2.2.2.2.2.2.2.2.2.2.2.2
def mL (w : zV) (ρ : MdT) (o : Nat → Int64) : List (Nat × va_E) := [(0, .inr (9, [.int (md_thrown ρ), .ref (zo w + (389 + 1)), .ref (zo w + (389 + 2)), .ref (zo w + (389 + 3)), .int (md_now ρ), .int (md_undoable ρ), .ref (zo w + (389 + 4)), .int (md_bytes ρ), .int (md_errorAt ρ), .int (md_size ρ), .int (md_next ρ), .int (md_error ρ), .int (md_place ρ), .int (md_began ρ), .int (md_nested ρ), .int (md_once ρ), .ref (zo w + (389 + 5))])), (1, .inl (w.2.2.1 1, 22500, .inr (.inl (md_rows ρ)))), (2, .inl (w.2.2.1 1, 2500, .inr (.inl (md_read ρ)))), (3, .inl (w.2.2.1 1, 2500, .inr (.inl (md_aside ρ)))), (4, .inl (w.2.2.1 0, 900, .inl (md_text ρ))), (5, .inl (w.2.2.1 1, 128, .inr (.inl (md_pile ρ)))), (6, .inl (w.2.2.1 1, 1, .inr (.inl o)))]
def gW (w : zV) (h0 : zH) (σ : LgT) (ρ : MdT) (o : Nat → Int64) : zH := lgH w 0 (zu h0 389 (mL w ρ o)) σ
theorem zM_eq {w : zV} {y : MethodName} {cc : ByteArray} {nL : Nat} {ret : Option FieldType} {rm : Room} {x : Bool} {N N' : Nat} {h : zH} {av : List Value} {v : Option Value} {h' h'' : zH} (e : h' = h'') (k : zM w y cc nL ret rm x N N' h av v h') : zM w y cc nL ret rm x N N' h av v h'' := e ▸ k
theorem mL_ns {w : zV} {ρ : MdT} {u : Nat → Int64} {k : Nat} {e : va_E} (hl : zlook k (mL w ρ u) = some e) : isStk e = false := by
  match k, hl with
  | 0, hl => exact (Option.some.inj (show some _ = some e from hl)) ▸ rfl
  | 1, hl => exact (Option.some.inj (show some _ = some e from hl)) ▸ rfl
  | 2, hl => exact (Option.some.inj (show some _ = some e from hl)) ▸ rfl
  | 3, hl => exact (Option.some.inj (show some _ = some e from hl)) ▸ rfl
  | 4, hl => exact (Option.some.inj (show some _ = some e from hl)) ▸ rfl
  | 5, hl => exact (Option.some.inj (show some _ = some e from hl)) ▸ rfl
  | 6, hl => exact (Option.some.inj (show some _ = some e from hl)) ▸ rfl
  | n + 7, hl => simp [mL, zlook] at hl
theorem gW_c {w : zV} {h0 : zH} {σ : LgT} {ρ : MdT} {u : Nat → Int64} {N k : Nat} {e : va_E} (hN : 389 + k < N) (hl : zlook k (mL w ρ u) = some e) : zc N (gW w h0 σ ρ u) (389 + k) e := lg_c (mL_ns hl) (by omega) (zc_w hN hl)
theorem gW_u {w : zV} {h0 : zH} {σ : LgT} {ρ ρ' : MdT} {u u' : Nat → Int64} {L : List (Nat × va_E)} (hn : znd L = true) (hL : zsh 0 (mL w ρ u) L = mL w ρ' u') : zu (gW w h0 σ ρ u) 389 L = gW w h0 σ ρ' u' := by
  have e := zu_sh (h := h0) (a := 389) (d := 0) hn hL
  rw [Nat.add_zero] at e
  have hk : ∀ k x, zlook k L = some x → isStk x = false := fun k x hx => by
    have := zlook_sh 0 k L (mL w ρ u) none hn
    rw [if_pos (Nat.zero_le _), Nat.sub_zero, hx] at this
    have h2 : zlook k (mL w ρ' u') = some x := by
      rw [← hL]
      exact this
    exact mL_ns h2
  unfold gW
  funext j
  have ej := congrFun e j
  by_cases h1 : lin 0 j
  · have h2 : ¬ 389 ≤ j := by omega
    have e1 : ∀ h : zH, zu h 389 L j = h j := fun h => if_neg h2
    rw [e1, lg_in h1, lg_in h1]
  · by_cases h2 : 389 ≤ j
    · cases hz : zlook (j - 389) L with
      | some x =>
        have e1 : ∀ h : zH, zu h 389 L j = x := fun h => by
          unfold zu
          rw [if_pos h2, hz]
        rw [e1] at ej ⊢
        rw [lg_o3 h1 (by rw [← ej]; exact hk _ _ hz)]
        exact ej
      | none =>
        have e1 : ∀ h : zH, zu h 389 L j = h j := fun h => by
          unfold zu
          rw [if_pos h2, hz]
        rw [e1] at ej ⊢
        rw [lg_out h1, lg_out h1, ej]
    · have e1 : ∀ h : zH, zu h 389 L j = h j := fun h => if_neg h2
      rw [e1] at ej ⊢
      rw [lg_out h1, lg_out h1, ej]
theorem gW_o {w : zV} {h0 : zH} {σ : LgT} {ρ : MdT} {u u' : Nat → Int64} : lgH w 0 (va_up (zu h0 389 (mL w ρ u)) 395 (.inl (w.2.2.1 1, 1, .inr (.inl u')))) σ = gW w h0 σ ρ u' := by
  have e : va_up (zu h0 389 (mL w ρ u)) (389 + 6) (.inl (w.2.2.1 1, 1, .inr (.inl u'))) = zu h0 389 (mL w ρ u') := zu_put rfl
  unfold gW
  rw [← e]
theorem gW_ld {w : zV} {h0 : zH} {σ s : LgT} {ρ : MdT} {u u' : Nat → Int64} {N g : Nat} {p1 : Int32} {q : LdT} (hN : 396 ≤ N) (hg : N ≤ g) : lgH w 0 (va_up (ld_H w N (zu h0 389 (mL w ρ u)) σ p1 q g) 395 (.inl (w.2.2.1 1, 1, .inr (.inl u')))) s = gW w (ld_H w N h0 σ p1 q g) s ρ u' := by
  rw [← gW_o (u := u)]
  have e : ld_H w N (zu h0 389 (mL w ρ u)) σ p1 q g = zu (ld_H w N h0 σ p1 q g) 389 (mL w ρ u) := by
    unfold ld_H
    rw [hJ_zu (m := 7) rfl (by omega), zu_swap (a := 389) (g := g) (m := 7) (n := 3) rfl rfl (Or.inl (by omega)), zu_swap (a := 389) (g := g) (m := 7) (n := 3) rfl rfl (Or.inl (by omega))]
  rw [e]
def g_X9_thrown (ρ : MdT)  : Option (Int32 × MdT) := (f_X9_thrown (md_thrown ρ)).map fun r => (r, ((md_thrown ρ), (md_rows ρ), (md_read ρ), (md_aside ρ), (md_now ρ), (md_undoable ρ), (md_text ρ), (md_bytes ρ), (md_errorAt ρ), (md_size ρ), (md_next ρ), (md_error ρ), (md_place ρ), (md_began ρ), (md_nested ρ), (md_once ρ), (md_pile ρ)))
theorem d_X9_thrown {w : zV} {h0 : zH} {N : Nat} {σ : LgT} {ρ ρ' : MdT} {u : Nat → Int64} (hN : 396 ≤ N)  {v : Int32} (hg : g_X9_thrown ρ  = some (v, ρ')) : zM w yX9_thrown cX9_thrown 1 (some .int) (zr 0 0) false N N (gW w h0 σ ρ u) [.ref (zo w + 389)] (some (.int v)) (gW w h0 σ ρ' u) := by
  unfold g_X9_thrown at hg
  cases hf : f_X9_thrown (md_thrown ρ) with
  | none => rw [hf] at hg; cases hg
  | some r =>
    rw [hf] at hg
    cases hg
    exact c_X9_thrown (a := 389) (gW_c (k := 0) (by omega) rfl) hf
def g_X9_account (ρ : MdT) (p1 : Int32) : Option (Int64 × MdT) := (f_X9_account (md_thrown ρ) (md_now ρ) (md_rows ρ) p1).map fun r => (r.1, (r.2, (md_rows ρ), (md_read ρ), (md_aside ρ), (md_now ρ), (md_undoable ρ), (md_text ρ), (md_bytes ρ), (md_errorAt ρ), (md_size ρ), (md_next ρ), (md_error ρ), (md_place ρ), (md_began ρ), (md_nested ρ), (md_once ρ), (md_pile ρ)))
theorem d_X9_account {w : zV} {h0 : zH} {N : Nat} {σ : LgT} {ρ ρ' : MdT} {u : Nat → Int64} (hN : 396 ≤ N) {p1 : Int32} {v : Int64} (hg : g_X9_account ρ p1 = some (v, ρ')) : zM w yX9_account cX9_account 2 (some .long) (zr 1 33) false N N (gW w h0 σ ρ u) [.ref (zo w + 389), .int p1] (some (.long v)) (gW w h0 σ ρ' u) := by
  unfold g_X9_account at hg
  cases hf : f_X9_account (md_thrown ρ) (md_now ρ) (md_rows ρ) p1 with
  | none => rw [hf] at hg; cases hg
  | some r =>
    rw [hf] at hg
    cases hg
    exact zM_eq (gW_u rfl rfl) (c_X9_account (a := 389) (gW_c (k := 0) (by omega) rfl) (gW_c (k := 1) (by omega) rfl) hf)
def g_X9_amount (ρ : MdT) (p1 : Int32) : Option (Int64 × MdT) := (f_X9_amount (md_thrown ρ) (md_now ρ) (md_rows ρ) p1).map fun r => (r.1, (r.2, (md_rows ρ), (md_read ρ), (md_aside ρ), (md_now ρ), (md_undoable ρ), (md_text ρ), (md_bytes ρ), (md_errorAt ρ), (md_size ρ), (md_next ρ), (md_error ρ), (md_place ρ), (md_began ρ), (md_nested ρ), (md_once ρ), (md_pile ρ)))
theorem d_X9_amount {w : zV} {h0 : zH} {N : Nat} {σ : LgT} {ρ ρ' : MdT} {u : Nat → Int64} (hN : 396 ≤ N) {p1 : Int32} {v : Int64} (hg : g_X9_amount ρ p1 = some (v, ρ')) : zM w yX9_amount cX9_amount 2 (some .long) (zr 2 62) false N N (gW w h0 σ ρ u) [.ref (zo w + 389), .int p1] (some (.long v)) (gW w h0 σ ρ' u) := by
  unfold g_X9_amount at hg
  cases hf : f_X9_amount (md_thrown ρ) (md_now ρ) (md_rows ρ) p1 with
  | none => rw [hf] at hg; cases hg
  | some r =>
    rw [hf] at hg
    cases hg
    exact zM_eq (gW_u rfl rfl) (c_X9_amount (a := 389) (gW_c (k := 0) (by omega) rfl) (gW_c (k := 1) (by omega) rfl) hf)
def g_X9_append (ρ : MdT) (p1 : Int32) (p2 : Int32) (p3 : Int32) (p4 : Int32) (p5 : Int32) : Option (Int32 × MdT) := (f_X9_append (md_thrown ρ) (md_bytes ρ) (md_text ρ) p1 p2 p3 p4 p5).map fun r => (r.1, (r.2.1, (md_rows ρ), (md_read ρ), (md_aside ρ), (md_now ρ), (md_undoable ρ), r.2.2.2, r.2.2.1, (md_errorAt ρ), (md_size ρ), (md_next ρ), (md_error ρ), (md_place ρ), (md_began ρ), (md_nested ρ), (md_once ρ), (md_pile ρ)))
theorem d_X9_append {w : zV} {h0 : zH} {N : Nat} {σ : LgT} {ρ ρ' : MdT} {u : Nat → Int64} (hN : 396 ≤ N) {p1 : Int32} {p2 : Int32} {p3 : Int32} {p4 : Int32} {p5 : Int32} {v : Int32} (hg : g_X9_append ρ p1 p2 p3 p4 p5 = some (v, ρ')) : zM w yX9_append cX9_append 8 (some .int) (zr 0 0) false N N (gW w h0 σ ρ u) [.ref (zo w + 389), .int p1, .int p2, .int p3, .int p4, .int p5] (some (.int v)) (gW w h0 σ ρ' u) := by
  unfold g_X9_append at hg
  cases hf : f_X9_append (md_thrown ρ) (md_bytes ρ) (md_text ρ) p1 p2 p3 p4 p5 with
  | none => rw [hf] at hg; cases hg
  | some r =>
    rw [hf] at hg
    cases hg
    exact zM_eq (gW_u rfl rfl) (c_X9_append (a := 389) (gW_c (k := 0) (by omega) rfl) (gW_c (k := 4) (by omega) rfl) hf)
def g_X9_approve (ρ : MdT) (p1 : Int32) : Option (Int32 × MdT) := (f_X9_approve (md_thrown ρ) (md_now ρ) (md_undoable ρ) (md_rows ρ) p1).map fun r => (r.1, (r.2.1, r.2.2.2.2, (md_read ρ), (md_aside ρ), r.2.2.1, r.2.2.2.1, (md_text ρ), (md_bytes ρ), (md_errorAt ρ), (md_size ρ), (md_next ρ), (md_error ρ), (md_place ρ), (md_began ρ), (md_nested ρ), (md_once ρ), (md_pile ρ)))
theorem d_X9_approve {w : zV} {h0 : zH} {N : Nat} {σ : LgT} {ρ ρ' : MdT} {u : Nat → Int64} (hN : 396 ≤ N) {p1 : Int32} {v : Int32} (hg : g_X9_approve ρ p1 = some (v, ρ')) : zM w yX9_approve cX9_approve 3 (some .int) (zr 4 123) false N N (gW w h0 σ ρ u) [.ref (zo w + 389), .int p1] (some (.int v)) (gW w h0 σ ρ' u) := by
  unfold g_X9_approve at hg
  cases hf : f_X9_approve (md_thrown ρ) (md_now ρ) (md_undoable ρ) (md_rows ρ) p1 with
  | none => rw [hf] at hg; cases hg
  | some r =>
    rw [hf] at hg
    cases hg
    exact zM_eq (gW_u rfl rfl) (c_X9_approve (a := 389) (gW_c (k := 0) (by omega) rfl) (gW_c (k := 1) (by omega) rfl) hf)
def g_X9_certificateContract (ρ : MdT) (p1 : Int32) : Option (Int32 × MdT) := (f_X9_certificateContract (md_thrown ρ) (md_now ρ) (md_rows ρ) p1).map fun r => (r.1, (r.2, (md_rows ρ), (md_read ρ), (md_aside ρ), (md_now ρ), (md_undoable ρ), (md_text ρ), (md_bytes ρ), (md_errorAt ρ), (md_size ρ), (md_next ρ), (md_error ρ), (md_place ρ), (md_began ρ), (md_nested ρ), (md_once ρ), (md_pile ρ)))
theorem d_X9_certificateContract {w : zV} {h0 : zH} {N : Nat} {σ : LgT} {ρ ρ' : MdT} {u : Nat → Int64} (hN : 396 ≤ N) {p1 : Int32} {v : Int32} (hg : g_X9_certificateContract ρ p1 = some (v, ρ')) : zM w yX9_certificateContract cX9_certificateContract 2 (some .int) (zr 2 62) false N N (gW w h0 σ ρ u) [.ref (zo w + 389), .int p1] (some (.int v)) (gW w h0 σ ρ' u) := by
  unfold g_X9_certificateContract at hg
  cases hf : f_X9_certificateContract (md_thrown ρ) (md_now ρ) (md_rows ρ) p1 with
  | none => rw [hf] at hg; cases hg
  | some r =>
    rw [hf] at hg
    cases hg
    exact zM_eq (gW_u rfl rfl) (c_X9_certificateContract (a := 389) (gW_c (k := 0) (by omega) rfl) (gW_c (k := 1) (by omega) rfl) hf)
def g_X9_certificateCount (ρ : MdT)  : Option (Int32 × MdT) := (f_X9_certificateCount (md_thrown ρ) (md_now ρ) (md_rows ρ)).map fun r => (r.1, (r.2, (md_rows ρ), (md_read ρ), (md_aside ρ), (md_now ρ), (md_undoable ρ), (md_text ρ), (md_bytes ρ), (md_errorAt ρ), (md_size ρ), (md_next ρ), (md_error ρ), (md_place ρ), (md_began ρ), (md_nested ρ), (md_once ρ), (md_pile ρ)))
theorem d_X9_certificateCount {w : zV} {h0 : zH} {N : Nat} {σ : LgT} {ρ ρ' : MdT} {u : Nat → Int64} (hN : 396 ≤ N)  {v : Int32} (hg : g_X9_certificateCount ρ  = some (v, ρ')) : zM w yX9_certificateCount cX9_certificateCount 1 (some .int) (zr 2 58) false N N (gW w h0 σ ρ u) [.ref (zo w + 389)] (some (.int v)) (gW w h0 σ ρ' u) := by
  unfold g_X9_certificateCount at hg
  cases hf : f_X9_certificateCount (md_thrown ρ) (md_now ρ) (md_rows ρ) with
  | none => rw [hf] at hg; cases hg
  | some r =>
    rw [hf] at hg
    cases hg
    exact zM_eq (gW_u rfl rfl) (c_X9_certificateCount (a := 389) (gW_c (k := 0) (by omega) rfl) (gW_c (k := 1) (by omega) rfl) hf)
def g_X9_certified (ρ : MdT) (p1 : Int32) : Option (Int64 × MdT) := (f_X9_certified (md_thrown ρ) (md_now ρ) (md_rows ρ) p1).map fun r => (r.1, (r.2, (md_rows ρ), (md_read ρ), (md_aside ρ), (md_now ρ), (md_undoable ρ), (md_text ρ), (md_bytes ρ), (md_errorAt ρ), (md_size ρ), (md_next ρ), (md_error ρ), (md_place ρ), (md_began ρ), (md_nested ρ), (md_once ρ), (md_pile ρ)))
theorem d_X9_certified {w : zV} {h0 : zH} {N : Nat} {σ : LgT} {ρ ρ' : MdT} {u : Nat → Int64} (hN : 396 ≤ N) {p1 : Int32} {v : Int64} (hg : g_X9_certified ρ p1 = some (v, ρ')) : zM w yX9_certified cX9_certified 2 (some .long) (zr 2 62) false N N (gW w h0 σ ρ u) [.ref (zo w + 389), .int p1] (some (.long v)) (gW w h0 σ ρ' u) := by
  unfold g_X9_certified at hg
  cases hf : f_X9_certified (md_thrown ρ) (md_now ρ) (md_rows ρ) p1 with
  | none => rw [hf] at hg; cases hg
  | some r =>
    rw [hf] at hg
    cases hg
    exact zM_eq (gW_u rfl rfl) (c_X9_certified (a := 389) (gW_c (k := 0) (by omega) rfl) (gW_c (k := 1) (by omega) rfl) hf)
def g_X9_certify (ρ : MdT) (p1 : Int32) : Option (Int32 × MdT) := (f_X9_certify (md_thrown ρ) (md_now ρ) (md_undoable ρ) (md_rows ρ) (md_pile ρ) p1).map fun r => (r.1, (r.2.1, r.2.2.2.2.1, (md_read ρ), (md_aside ρ), r.2.2.1, r.2.2.2.1, (md_text ρ), (md_bytes ρ), (md_errorAt ρ), (md_size ρ), (md_next ρ), (md_error ρ), (md_place ρ), (md_began ρ), (md_nested ρ), (md_once ρ), r.2.2.2.2.2))
theorem d_X9_certify {w : zV} {h0 : zH} {N : Nat} {σ : LgT} {ρ ρ' : MdT} {u : Nat → Int64} (hN : 396 ≤ N) {p1 : Int32} {v : Int32} (hg : g_X9_certify ρ p1 = some (v, ρ')) : zM w yX9_certify cX9_certify 5 (some .int) (zr 8 260) false N N (gW w h0 σ ρ u) [.ref (zo w + 389), .int p1] (some (.int v)) (gW w h0 σ ρ' u) := by
  unfold g_X9_certify at hg
  cases hf : f_X9_certify (md_thrown ρ) (md_now ρ) (md_undoable ρ) (md_rows ρ) (md_pile ρ) p1 with
  | none => rw [hf] at hg; cases hg
  | some r =>
    rw [hf] at hg
    cases hg
    exact zM_eq (gW_u rfl rfl) (c_X9_certify (a := 389) (gW_c (k := 0) (by omega) rfl) (gW_c (k := 1) (by omega) rfl) (gW_c (k := 5) (by omega) rfl) hf)
def g_X9_checksum (ρ : MdT)  : Option (Int64 × MdT) := (f_X9_checksum (md_thrown ρ) (md_now ρ) (md_rows ρ) (md_pile ρ)).map fun r => (r.1, (r.2.1, (md_rows ρ), (md_read ρ), (md_aside ρ), (md_now ρ), (md_undoable ρ), (md_text ρ), (md_bytes ρ), (md_errorAt ρ), (md_size ρ), (md_next ρ), (md_error ρ), (md_place ρ), (md_began ρ), (md_nested ρ), (md_once ρ), r.2.2))
theorem d_X9_checksum {w : zV} {h0 : zH} {N : Nat} {σ : LgT} {ρ ρ' : MdT} {u : Nat → Int64} (hN : 396 ≤ N)  {v : Int64} (hg : g_X9_checksum ρ  = some (v, ρ')) : zM w yX9_checksum cX9_checksum 4 (some .long) (zr 7 229) false N N (gW w h0 σ ρ u) [.ref (zo w + 389)] (some (.long v)) (gW w h0 σ ρ' u) := by
  unfold g_X9_checksum at hg
  cases hf : f_X9_checksum (md_thrown ρ) (md_now ρ) (md_rows ρ) (md_pile ρ) with
  | none => rw [hf] at hg; cases hg
  | some r =>
    rw [hf] at hg
    cases hg
    exact zM_eq (gW_u rfl rfl) (c_X9_checksum (a := 389) (gW_c (k := 0) (by omega) rfl) (gW_c (k := 1) (by omega) rfl) (gW_c (k := 5) (by omega) rfl) hf)
def g_X9_claim (ρ : MdT) (p1 : Int32) : Option (Int64 × MdT) := (f_X9_claim (md_thrown ρ) (md_now ρ) (md_rows ρ) p1).map fun r => (r.1, (r.2, (md_rows ρ), (md_read ρ), (md_aside ρ), (md_now ρ), (md_undoable ρ), (md_text ρ), (md_bytes ρ), (md_errorAt ρ), (md_size ρ), (md_next ρ), (md_error ρ), (md_place ρ), (md_began ρ), (md_nested ρ), (md_once ρ), (md_pile ρ)))
theorem d_X9_claim {w : zV} {h0 : zH} {N : Nat} {σ : LgT} {ρ ρ' : MdT} {u : Nat → Int64} (hN : 396 ≤ N) {p1 : Int32} {v : Int64} (hg : g_X9_claim ρ p1 = some (v, ρ')) : zM w yX9_claim cX9_claim 2 (some .long) (zr 5 150) false N N (gW w h0 σ ρ u) [.ref (zo w + 389), .int p1] (some (.long v)) (gW w h0 σ ρ' u) := by
  unfold g_X9_claim at hg
  cases hf : f_X9_claim (md_thrown ρ) (md_now ρ) (md_rows ρ) p1 with
  | none => rw [hf] at hg; cases hg
  | some r =>
    rw [hf] at hg
    cases hg
    exact zM_eq (gW_u rfl rfl) (c_X9_claim (a := 389) (gW_c (k := 0) (by omega) rfl) (gW_c (k := 1) (by omega) rfl) hf)
def g_X9_contractCount (ρ : MdT)  : Option (Int32 × MdT) := (f_X9_contractCount (md_thrown ρ) (md_now ρ) (md_rows ρ)).map fun r => (r.1, (r.2, (md_rows ρ), (md_read ρ), (md_aside ρ), (md_now ρ), (md_undoable ρ), (md_text ρ), (md_bytes ρ), (md_errorAt ρ), (md_size ρ), (md_next ρ), (md_error ρ), (md_place ρ), (md_began ρ), (md_nested ρ), (md_once ρ), (md_pile ρ)))
theorem d_X9_contractCount {w : zV} {h0 : zH} {N : Nat} {σ : LgT} {ρ ρ' : MdT} {u : Nat → Int64} (hN : 396 ≤ N)  {v : Int32} (hg : g_X9_contractCount ρ  = some (v, ρ')) : zM w yX9_contractCount cX9_contractCount 1 (some .int) (zr 2 58) false N N (gW w h0 σ ρ u) [.ref (zo w + 389)] (some (.int v)) (gW w h0 σ ρ' u) := by
  unfold g_X9_contractCount at hg
  cases hf : f_X9_contractCount (md_thrown ρ) (md_now ρ) (md_rows ρ) with
  | none => rw [hf] at hg; cases hg
  | some r =>
    rw [hf] at hg
    cases hg
    exact zM_eq (gW_u rfl rfl) (c_X9_contractCount (a := 389) (gW_c (k := 0) (by omega) rfl) (gW_c (k := 1) (by omega) rfl) hf)
def g_X9_day (ρ : MdT)  : Option (Int32 × MdT) := (f_X9_day (md_thrown ρ) (md_now ρ) (md_rows ρ)).map fun r => (r.1, (r.2, (md_rows ρ), (md_read ρ), (md_aside ρ), (md_now ρ), (md_undoable ρ), (md_text ρ), (md_bytes ρ), (md_errorAt ρ), (md_size ρ), (md_next ρ), (md_error ρ), (md_place ρ), (md_began ρ), (md_nested ρ), (md_once ρ), (md_pile ρ)))
theorem d_X9_day {w : zV} {h0 : zH} {N : Nat} {σ : LgT} {ρ ρ' : MdT} {u : Nat → Int64} (hN : 396 ≤ N)  {v : Int32} (hg : g_X9_day ρ  = some (v, ρ')) : zM w yX9_day cX9_day 1 (some .int) (zr 2 58) false N N (gW w h0 σ ρ u) [.ref (zo w + 389)] (some (.int v)) (gW w h0 σ ρ' u) := by
  unfold g_X9_day at hg
  cases hf : f_X9_day (md_thrown ρ) (md_now ρ) (md_rows ρ) with
  | none => rw [hf] at hg; cases hg
  | some r =>
    rw [hf] at hg
    cases hg
    exact zM_eq (gW_u rfl rfl) (c_X9_day (a := 389) (gW_c (k := 0) (by omega) rfl) (gW_c (k := 1) (by omega) rfl) hf)
def g_X9_deposit (ρ : MdT) (p1 : Int32) : Option (Int64 × MdT) := (f_X9_deposit (md_thrown ρ) (md_now ρ) (md_undoable ρ) (md_rows ρ) p1).map fun r => (r.1, (r.2.1, r.2.2.2.2, (md_read ρ), (md_aside ρ), r.2.2.1, r.2.2.2.1, (md_text ρ), (md_bytes ρ), (md_errorAt ρ), (md_size ρ), (md_next ρ), (md_error ρ), (md_place ρ), (md_began ρ), (md_nested ρ), (md_once ρ), (md_pile ρ)))
theorem d_X9_deposit {w : zV} {h0 : zH} {N : Nat} {σ : LgT} {ρ ρ' : MdT} {u : Nat → Int64} (hN : 396 ≤ N) {p1 : Int32} {v : Int64} (hg : g_X9_deposit ρ p1 = some (v, ρ')) : zM w yX9_deposit cX9_deposit 2 (some .long) (zr 2 59) false N N (gW w h0 σ ρ u) [.ref (zo w + 389), .int p1] (some (.long v)) (gW w h0 σ ρ' u) := by
  unfold g_X9_deposit at hg
  cases hf : f_X9_deposit (md_thrown ρ) (md_now ρ) (md_undoable ρ) (md_rows ρ) p1 with
  | none => rw [hf] at hg; cases hg
  | some r =>
    rw [hf] at hg
    cases hg
    exact zM_eq (gW_u rfl rfl) (c_X9_deposit (a := 389) (gW_c (k := 0) (by omega) rfl) (gW_c (k := 1) (by omega) rfl) hf)
def g_X9_dueBetween (ρ : MdT) (p1 : Int32) (p2 : Int32) : Option (Int64 × MdT) := (f_X9_dueBetween (md_thrown ρ) (md_now ρ) (md_rows ρ) p1 p2).map fun r => (r.1, (r.2, (md_rows ρ), (md_read ρ), (md_aside ρ), (md_now ρ), (md_undoable ρ), (md_text ρ), (md_bytes ρ), (md_errorAt ρ), (md_size ρ), (md_next ρ), (md_error ρ), (md_place ρ), (md_began ρ), (md_nested ρ), (md_once ρ), (md_pile ρ)))
theorem d_X9_dueBetween {w : zV} {h0 : zH} {N : Nat} {σ : LgT} {ρ ρ' : MdT} {u : Nat → Int64} (hN : 396 ≤ N) {p1 : Int32} {p2 : Int32} {v : Int64} (hg : g_X9_dueBetween ρ p1 p2 = some (v, ρ')) : zM w yX9_dueBetween cX9_dueBetween 6 (some .long) (zr 2 58) false N N (gW w h0 σ ρ u) [.ref (zo w + 389), .int p1, .int p2] (some (.long v)) (gW w h0 σ ρ' u) := by
  unfold g_X9_dueBetween at hg
  cases hf : f_X9_dueBetween (md_thrown ρ) (md_now ρ) (md_rows ρ) p1 p2 with
  | none => rw [hf] at hg; cases hg
  | some r =>
    rw [hf] at hg
    cases hg
    exact zM_eq (gW_u rfl rfl) (c_X9_dueBetween (a := 389) (gW_c (k := 0) (by omega) rfl) (gW_c (k := 1) (by omega) rfl) hf)
def g_X9_dueDay (ρ : MdT) (p1 : Int32) : Option (Int32 × MdT) := (f_X9_dueDay (md_thrown ρ) (md_now ρ) (md_rows ρ) p1).map fun r => (r.1, (r.2, (md_rows ρ), (md_read ρ), (md_aside ρ), (md_now ρ), (md_undoable ρ), (md_text ρ), (md_bytes ρ), (md_errorAt ρ), (md_size ρ), (md_next ρ), (md_error ρ), (md_place ρ), (md_began ρ), (md_nested ρ), (md_once ρ), (md_pile ρ)))
theorem d_X9_dueDay {w : zV} {h0 : zH} {N : Nat} {σ : LgT} {ρ ρ' : MdT} {u : Nat → Int64} (hN : 396 ≤ N) {p1 : Int32} {v : Int32} (hg : g_X9_dueDay ρ p1 = some (v, ρ')) : zM w yX9_dueDay cX9_dueDay 2 (some .int) (zr 2 62) false N N (gW w h0 σ ρ u) [.ref (zo w + 389), .int p1] (some (.int v)) (gW w h0 σ ρ' u) := by
  unfold g_X9_dueDay at hg
  cases hf : f_X9_dueDay (md_thrown ρ) (md_now ρ) (md_rows ρ) p1 with
  | none => rw [hf] at hg; cases hg
  | some r =>
    rw [hf] at hg
    cases hg
    exact zM_eq (gW_u rfl rfl) (c_X9_dueDay (a := 389) (gW_c (k := 0) (by omega) rfl) (gW_c (k := 1) (by omega) rfl) hf)
def g_X9_errorOffset (ρ : MdT)  : Option (Int32 × MdT) := (f_X9_errorOffset (md_thrown ρ) (md_errorAt ρ)).map fun r => (r.1, (r.2, (md_rows ρ), (md_read ρ), (md_aside ρ), (md_now ρ), (md_undoable ρ), (md_text ρ), (md_bytes ρ), (md_errorAt ρ), (md_size ρ), (md_next ρ), (md_error ρ), (md_place ρ), (md_began ρ), (md_nested ρ), (md_once ρ), (md_pile ρ)))
theorem d_X9_errorOffset {w : zV} {h0 : zH} {N : Nat} {σ : LgT} {ρ ρ' : MdT} {u : Nat → Int64} (hN : 396 ≤ N)  {v : Int32} (hg : g_X9_errorOffset ρ  = some (v, ρ')) : zM w yX9_errorOffset cX9_errorOffset 1 (some .int) (zr 0 0) false N N (gW w h0 σ ρ u) [.ref (zo w + 389)] (some (.int v)) (gW w h0 σ ρ' u) := by
  unfold g_X9_errorOffset at hg
  cases hf : f_X9_errorOffset (md_thrown ρ) (md_errorAt ρ) with
  | none => rw [hf] at hg; cases hg
  | some r =>
    rw [hf] at hg
    cases hg
    exact zM_eq (gW_u rfl rfl) (c_X9_errorOffset (a := 389) (gW_c (k := 0) (by omega) rfl) hf)
def g_X9_fileLien (ρ : MdT) (p1 : Int32) : Option (Int32 × MdT) := (f_X9_fileLien (md_thrown ρ) (md_now ρ) (md_undoable ρ) (md_rows ρ) p1).map fun r => (r.1, (r.2.1, r.2.2.2.2, (md_read ρ), (md_aside ρ), r.2.2.1, r.2.2.2.1, (md_text ρ), (md_bytes ρ), (md_errorAt ρ), (md_size ρ), (md_next ρ), (md_error ρ), (md_place ρ), (md_began ρ), (md_nested ρ), (md_once ρ), (md_pile ρ)))
theorem d_X9_fileLien {w : zV} {h0 : zH} {N : Nat} {σ : LgT} {ρ ρ' : MdT} {u : Nat → Int64} (hN : 396 ≤ N) {p1 : Int32} {v : Int32} (hg : g_X9_fileLien ρ p1 = some (v, ρ')) : zM w yX9_fileLien cX9_fileLien 5 (some .int) (zr 6 180) false N N (gW w h0 σ ρ u) [.ref (zo w + 389), .int p1] (some (.int v)) (gW w h0 σ ρ' u) := by
  unfold g_X9_fileLien at hg
  cases hf : f_X9_fileLien (md_thrown ρ) (md_now ρ) (md_undoable ρ) (md_rows ρ) p1 with
  | none => rw [hf] at hg; cases hg
  | some r =>
    rw [hf] at hg
    cases hg
    exact zM_eq (gW_u rfl rfl) (c_X9_fileLien (a := 389) (gW_c (k := 0) (by omega) rfl) (gW_c (k := 1) (by omega) rfl) hf)
def g_X9_firstSum (ρ : MdT) (p1 : Int32) : Option (Int64 × MdT) := (f_X9_firstSum (md_thrown ρ) (md_now ρ) (md_rows ρ) p1).map fun r => (r.1, (r.2, (md_rows ρ), (md_read ρ), (md_aside ρ), (md_now ρ), (md_undoable ρ), (md_text ρ), (md_bytes ρ), (md_errorAt ρ), (md_size ρ), (md_next ρ), (md_error ρ), (md_place ρ), (md_began ρ), (md_nested ρ), (md_once ρ), (md_pile ρ)))
theorem d_X9_firstSum {w : zV} {h0 : zH} {N : Nat} {σ : LgT} {ρ ρ' : MdT} {u : Nat → Int64} (hN : 396 ≤ N) {p1 : Int32} {v : Int64} (hg : g_X9_firstSum ρ p1 = some (v, ρ')) : zM w yX9_firstSum cX9_firstSum 2 (some .long) (zr 3 91) false N N (gW w h0 σ ρ u) [.ref (zo w + 389), .int p1] (some (.long v)) (gW w h0 σ ρ' u) := by
  unfold g_X9_firstSum at hg
  cases hf : f_X9_firstSum (md_thrown ρ) (md_now ρ) (md_rows ρ) p1 with
  | none => rw [hf] at hg; cases hg
  | some r =>
    rw [hf] at hg
    cases hg
    exact zM_eq (gW_u rfl rfl) (c_X9_firstSum (a := 389) (gW_c (k := 0) (by omega) rfl) (gW_c (k := 1) (by omega) rfl) hf)
def g_X9_grossValue (ρ : MdT) (p1 : Int32) : Option (Int64 × MdT) := (f_X9_grossValue (md_thrown ρ) (md_now ρ) (md_rows ρ) (md_pile ρ) p1).map fun r => (r.1, (r.2.1, (md_rows ρ), (md_read ρ), (md_aside ρ), (md_now ρ), (md_undoable ρ), (md_text ρ), (md_bytes ρ), (md_errorAt ρ), (md_size ρ), (md_next ρ), (md_error ρ), (md_place ρ), (md_began ρ), (md_nested ρ), (md_once ρ), r.2.2))
theorem d_X9_grossValue {w : zV} {h0 : zH} {N : Nat} {σ : LgT} {ρ ρ' : MdT} {u : Nat → Int64} (hN : 396 ≤ N) {p1 : Int32} {v : Int64} (hg : g_X9_grossValue ρ p1 = some (v, ρ')) : zM w yX9_grossValue cX9_grossValue 2 (some .long) (zr 7 229) false N N (gW w h0 σ ρ u) [.ref (zo w + 389), .int p1] (some (.long v)) (gW w h0 σ ρ' u) := by
  unfold g_X9_grossValue at hg
  cases hf : f_X9_grossValue (md_thrown ρ) (md_now ρ) (md_rows ρ) (md_pile ρ) p1 with
  | none => rw [hf] at hg; cases hg
  | some r =>
    rw [hf] at hg
    cases hg
    exact zM_eq (gW_u rfl rfl) (c_X9_grossValue (a := 389) (gW_c (k := 0) (by omega) rfl) (gW_c (k := 1) (by omega) rfl) (gW_c (k := 5) (by omega) rfl) hf)
def g_X9_isApproved (ρ : MdT) (p1 : Int32) : Option (Int32 × MdT) := (f_X9_isApproved (md_thrown ρ) (md_now ρ) (md_rows ρ) p1).map fun r => (r.1, (r.2, (md_rows ρ), (md_read ρ), (md_aside ρ), (md_now ρ), (md_undoable ρ), (md_text ρ), (md_bytes ρ), (md_errorAt ρ), (md_size ρ), (md_next ρ), (md_error ρ), (md_place ρ), (md_began ρ), (md_nested ρ), (md_once ρ), (md_pile ρ)))
theorem d_X9_isApproved {w : zV} {h0 : zH} {N : Nat} {σ : LgT} {ρ ρ' : MdT} {u : Nat → Int64} (hN : 396 ≤ N) {p1 : Int32} {v : Int32} (hg : g_X9_isApproved ρ p1 = some (v, ρ')) : zM w yX9_isApproved cX9_isApproved 2 (some .boolean) (zr 2 62) false N N (gW w h0 σ ρ u) [.ref (zo w + 389), .int p1] (some (.int v)) (gW w h0 σ ρ' u) := by
  unfold g_X9_isApproved at hg
  cases hf : f_X9_isApproved (md_thrown ρ) (md_now ρ) (md_rows ρ) p1 with
  | none => rw [hf] at hg; cases hg
  | some r =>
    rw [hf] at hg
    cases hg
    exact zM_eq (gW_u rfl rfl) (c_X9_isApproved (a := 389) (gW_c (k := 0) (by omega) rfl) (gW_c (k := 1) (by omega) rfl) hf)
def g_X9_isBlocked (ρ : MdT) (p1 : Int32) : Option (Int32 × MdT) := (f_X9_isBlocked (md_thrown ρ) (md_now ρ) (md_rows ρ) p1).map fun r => (r.1, (r.2, (md_rows ρ), (md_read ρ), (md_aside ρ), (md_now ρ), (md_undoable ρ), (md_text ρ), (md_bytes ρ), (md_errorAt ρ), (md_size ρ), (md_next ρ), (md_error ρ), (md_place ρ), (md_began ρ), (md_nested ρ), (md_once ρ), (md_pile ρ)))
theorem d_X9_isBlocked {w : zV} {h0 : zH} {N : Nat} {σ : LgT} {ρ ρ' : MdT} {u : Nat → Int64} (hN : 396 ≤ N) {p1 : Int32} {v : Int32} (hg : g_X9_isBlocked ρ p1 = some (v, ρ')) : zM w yX9_isBlocked cX9_isBlocked 2 (some .boolean) (zr 3 89) false N N (gW w h0 σ ρ u) [.ref (zo w + 389), .int p1] (some (.int v)) (gW w h0 σ ρ' u) := by
  unfold g_X9_isBlocked at hg
  cases hf : f_X9_isBlocked (md_thrown ρ) (md_now ρ) (md_rows ρ) p1 with
  | none => rw [hf] at hg; cases hg
  | some r =>
    rw [hf] at hg
    cases hg
    exact zM_eq (gW_u rfl rfl) (c_X9_isBlocked (a := 389) (gW_c (k := 0) (by omega) rfl) (gW_c (k := 1) (by omega) rfl) hf)
def g_X9_itemCount (ρ : MdT) (p1 : Int32) : Option (Int32 × MdT) := (f_X9_itemCount (md_thrown ρ) (md_now ρ) (md_rows ρ) p1).map fun r => (r.1, (r.2, (md_rows ρ), (md_read ρ), (md_aside ρ), (md_now ρ), (md_undoable ρ), (md_text ρ), (md_bytes ρ), (md_errorAt ρ), (md_size ρ), (md_next ρ), (md_error ρ), (md_place ρ), (md_began ρ), (md_nested ρ), (md_once ρ), (md_pile ρ)))
theorem d_X9_itemCount {w : zV} {h0 : zH} {N : Nat} {σ : LgT} {ρ ρ' : MdT} {u : Nat → Int64} (hN : 396 ≤ N) {p1 : Int32} {v : Int32} (hg : g_X9_itemCount ρ p1 = some (v, ρ')) : zM w yX9_itemCount cX9_itemCount 2 (some .int) (zr 2 62) false N N (gW w h0 σ ρ u) [.ref (zo w + 389), .int p1] (some (.int v)) (gW w h0 σ ρ' u) := by
  unfold g_X9_itemCount at hg
  cases hf : f_X9_itemCount (md_thrown ρ) (md_now ρ) (md_rows ρ) p1 with
  | none => rw [hf] at hg; cases hg
  | some r =>
    rw [hf] at hg
    cases hg
    exact zM_eq (gW_u rfl rfl) (c_X9_itemCount (a := 389) (gW_c (k := 0) (by omega) rfl) (gW_c (k := 1) (by omega) rfl) hf)
def g_X9_itemValue (ρ : MdT) (p1 : Int32) (p2 : Int32) : Option (Int64 × MdT) := (f_X9_itemValue (md_thrown ρ) (md_now ρ) (md_rows ρ) (md_pile ρ) p1 p2).map fun r => (r.1, (r.2.1, (md_rows ρ), (md_read ρ), (md_aside ρ), (md_now ρ), (md_undoable ρ), (md_text ρ), (md_bytes ρ), (md_errorAt ρ), (md_size ρ), (md_next ρ), (md_error ρ), (md_place ρ), (md_began ρ), (md_nested ρ), (md_once ρ), r.2.2))
theorem d_X9_itemValue {w : zV} {h0 : zH} {N : Nat} {σ : LgT} {ρ ρ' : MdT} {u : Nat → Int64} (hN : 396 ≤ N) {p1 : Int32} {p2 : Int32} {v : Int64} (hg : g_X9_itemValue ρ p1 p2 = some (v, ρ')) : zM w yX9_itemValue cX9_itemValue 3 (some .long) (zr 6 197) false N N (gW w h0 σ ρ u) [.ref (zo w + 389), .int p1, .int p2] (some (.long v)) (gW w h0 σ ρ' u) := by
  unfold g_X9_itemValue at hg
  cases hf : f_X9_itemValue (md_thrown ρ) (md_now ρ) (md_rows ρ) (md_pile ρ) p1 p2 with
  | none => rw [hf] at hg; cases hg
  | some r =>
    rw [hf] at hg
    cases hg
    exact zM_eq (gW_u rfl rfl) (c_X9_itemValue (a := 389) (gW_c (k := 0) (by omega) rfl) (gW_c (k := 1) (by omega) rfl) (gW_c (k := 5) (by omega) rfl) hf)
def g_X9_lienCount (ρ : MdT)  : Option (Int32 × MdT) := (f_X9_lienCount (md_thrown ρ) (md_now ρ) (md_rows ρ)).map fun r => (r.1, (r.2, (md_rows ρ), (md_read ρ), (md_aside ρ), (md_now ρ), (md_undoable ρ), (md_text ρ), (md_bytes ρ), (md_errorAt ρ), (md_size ρ), (md_next ρ), (md_error ρ), (md_place ρ), (md_began ρ), (md_nested ρ), (md_once ρ), (md_pile ρ)))
theorem d_X9_lienCount {w : zV} {h0 : zH} {N : Nat} {σ : LgT} {ρ ρ' : MdT} {u : Nat → Int64} (hN : 396 ≤ N)  {v : Int32} (hg : g_X9_lienCount ρ  = some (v, ρ')) : zM w yX9_lienCount cX9_lienCount 1 (some .int) (zr 2 58) false N N (gW w h0 σ ρ u) [.ref (zo w + 389)] (some (.int v)) (gW w h0 σ ρ' u) := by
  unfold g_X9_lienCount at hg
  cases hf : f_X9_lienCount (md_thrown ρ) (md_now ρ) (md_rows ρ) with
  | none => rw [hf] at hg; cases hg
  | some r =>
    rw [hf] at hg
    cases hg
    exact zM_eq (gW_u rfl rfl) (c_X9_lienCount (a := 389) (gW_c (k := 0) (by omega) rfl) (gW_c (k := 1) (by omega) rfl) hf)
def g_X9_load (ρ : MdT) (p1 : Int32) : Option (Int32 × MdT) := (f_X9_load (md_thrown ρ) (md_now ρ) (md_undoable ρ) (md_bytes ρ) (md_errorAt ρ) (md_size ρ) (md_next ρ) (md_error ρ) (md_place ρ) (md_began ρ) (md_nested ρ) (md_once ρ) (md_rows ρ) (md_read ρ) (md_text ρ) p1).map fun r => (r.1, (r.2.1, r.2.2.2.2.2.2.2.2.2.2.2.2.2.1, r.2.2.2.2.2.2.2.2.2.2.2.2.2.2, (md_aside ρ), r.2.2.1, r.2.2.2.1, (md_text ρ), r.2.2.2.2.1, r.2.2.2.2.2.1, r.2.2.2.2.2.2.1, r.2.2.2.2.2.2.2.1, r.2.2.2.2.2.2.2.2.1, r.2.2.2.2.2.2.2.2.2.1, r.2.2.2.2.2.2.2.2.2.2.1, r.2.2.2.2.2.2.2.2.2.2.2.1, r.2.2.2.2.2.2.2.2.2.2.2.2.1, (md_pile ρ)))
theorem d_X9_load {w : zV} {h0 : zH} {N : Nat} {σ : LgT} {ρ ρ' : MdT} {u : Nat → Int64} (hN : 396 ≤ N) {p1 : Int32} {v : Int32} (hg : g_X9_load ρ p1 = some (v, ρ')) : zM w yX9_load cX9_load 3 (some .int) (zr 35 1787) false N N (gW w h0 σ ρ u) [.ref (zo w + 389), .int p1] (some (.int v)) (gW w h0 σ ρ' u) := by
  unfold g_X9_load at hg
  cases hf : f_X9_load (md_thrown ρ) (md_now ρ) (md_undoable ρ) (md_bytes ρ) (md_errorAt ρ) (md_size ρ) (md_next ρ) (md_error ρ) (md_place ρ) (md_began ρ) (md_nested ρ) (md_once ρ) (md_rows ρ) (md_read ρ) (md_text ρ) p1 with
  | none => rw [hf] at hg; cases hg
  | some r =>
    rw [hf] at hg
    cases hg
    exact zM_eq (gW_u rfl rfl) (c_X9_load (a := 389) (gW_c (k := 0) (by omega) rfl) (gW_c (k := 1) (by omega) rfl) (gW_c (k := 2) (by omega) rfl) (gW_c (k := 4) (by omega) rfl) hf)
def g_X9_margin (ρ : MdT) (p1 : Int32) : Option (Int64 × MdT) := (f_X9_margin (md_thrown ρ) (md_now ρ) (md_rows ρ) (md_pile ρ) p1).map fun r => (r.1, (r.2.1, (md_rows ρ), (md_read ρ), (md_aside ρ), (md_now ρ), (md_undoable ρ), (md_text ρ), (md_bytes ρ), (md_errorAt ρ), (md_size ρ), (md_next ρ), (md_error ρ), (md_place ρ), (md_began ρ), (md_nested ρ), (md_once ρ), r.2.2))
theorem d_X9_margin {w : zV} {h0 : zH} {N : Nat} {σ : LgT} {ρ ρ' : MdT} {u : Nat → Int64} (hN : 396 ≤ N) {p1 : Int32} {v : Int64} (hg : g_X9_margin ρ p1 = some (v, ρ')) : zM w yX9_margin cX9_margin 5 (some .long) (zr 6 199) false N N (gW w h0 σ ρ u) [.ref (zo w + 389), .int p1] (some (.long v)) (gW w h0 σ ρ' u) := by
  unfold g_X9_margin at hg
  cases hf : f_X9_margin (md_thrown ρ) (md_now ρ) (md_rows ρ) (md_pile ρ) p1 with
  | none => rw [hf] at hg; cases hg
  | some r =>
    rw [hf] at hg
    cases hg
    exact zM_eq (gW_u rfl rfl) (c_X9_margin (a := 389) (gW_c (k := 0) (by omega) rfl) (gW_c (k := 1) (by omega) rfl) (gW_c (k := 5) (by omega) rfl) hf)
def g_X9_measure (ρ : MdT) (p1 : Int32) (p2 : Int32) (p3 : Int32) : Option (Int32 × MdT) := (f_X9_measure (md_thrown ρ) (md_now ρ) (md_undoable ρ) (md_rows ρ) p1 p2 p3).map fun r => (r.1, (r.2.1, r.2.2.2.2, (md_read ρ), (md_aside ρ), r.2.2.1, r.2.2.2.1, (md_text ρ), (md_bytes ρ), (md_errorAt ρ), (md_size ρ), (md_next ρ), (md_error ρ), (md_place ρ), (md_began ρ), (md_nested ρ), (md_once ρ), (md_pile ρ)))
theorem d_X9_measure {w : zV} {h0 : zH} {N : Nat} {σ : LgT} {ρ ρ' : MdT} {u : Nat → Int64} (hN : 396 ≤ N) {p1 : Int32} {p2 : Int32} {p3 : Int32} {v : Int32} (hg : g_X9_measure ρ p1 p2 p3 = some (v, ρ')) : zM w yX9_measure cX9_measure 5 (some .int) (zr 3 92) false N N (gW w h0 σ ρ u) [.ref (zo w + 389), .int p1, .int p2, .int p3] (some (.int v)) (gW w h0 σ ρ' u) := by
  unfold g_X9_measure at hg
  cases hf : f_X9_measure (md_thrown ρ) (md_now ρ) (md_undoable ρ) (md_rows ρ) p1 p2 p3 with
  | none => rw [hf] at hg; cases hg
  | some r =>
    rw [hf] at hg
    cases hg
    exact zM_eq (gW_u rfl rfl) (c_X9_measure (a := 389) (gW_c (k := 0) (by omega) rfl) (gW_c (k := 1) (by omega) rfl) hf)
def g_X9_nextStage (ρ : MdT) (p1 : Int32) : Option (Int32 × MdT) := (f_X9_nextStage (md_thrown ρ) (md_now ρ) (md_undoable ρ) (md_rows ρ) p1).map fun r => (r.1, (r.2.1, r.2.2.2.2, (md_read ρ), (md_aside ρ), r.2.2.1, r.2.2.2.1, (md_text ρ), (md_bytes ρ), (md_errorAt ρ), (md_size ρ), (md_next ρ), (md_error ρ), (md_place ρ), (md_began ρ), (md_nested ρ), (md_once ρ), (md_pile ρ)))
theorem d_X9_nextStage {w : zV} {h0 : zH} {N : Nat} {σ : LgT} {ρ ρ' : MdT} {u : Nat → Int64} (hN : 396 ≤ N) {p1 : Int32} {v : Int32} (hg : g_X9_nextStage ρ p1 = some (v, ρ')) : zM w yX9_nextStage cX9_nextStage 4 (some .int) (zr 3 89) false N N (gW w h0 σ ρ u) [.ref (zo w + 389), .int p1] (some (.int v)) (gW w h0 σ ρ' u) := by
  unfold g_X9_nextStage at hg
  cases hf : f_X9_nextStage (md_thrown ρ) (md_now ρ) (md_undoable ρ) (md_rows ρ) p1 with
  | none => rw [hf] at hg; cases hg
  | some r =>
    rw [hf] at hg
    cases hg
    exact zM_eq (gW_u rfl rfl) (c_X9_nextStage (a := 389) (gW_c (k := 0) (by omega) rfl) (gW_c (k := 1) (by omega) rfl) hf)
def g_X9_openAmount (ρ : MdT) (p1 : Int32) : Option (Int64 × MdT) := (f_X9_openAmount (md_thrown ρ) (md_now ρ) (md_rows ρ) p1).map fun r => (r.1, (r.2, (md_rows ρ), (md_read ρ), (md_aside ρ), (md_now ρ), (md_undoable ρ), (md_text ρ), (md_bytes ρ), (md_errorAt ρ), (md_size ρ), (md_next ρ), (md_error ρ), (md_place ρ), (md_began ρ), (md_nested ρ), (md_once ρ), (md_pile ρ)))
theorem d_X9_openAmount {w : zV} {h0 : zH} {N : Nat} {σ : LgT} {ρ ρ' : MdT} {u : Nat → Int64} (hN : 396 ≤ N) {p1 : Int32} {v : Int64} (hg : g_X9_openAmount ρ p1 = some (v, ρ')) : zM w yX9_openAmount cX9_openAmount 2 (some .long) (zr 2 62) false N N (gW w h0 σ ρ u) [.ref (zo w + 389), .int p1] (some (.long v)) (gW w h0 σ ρ' u) := by
  unfold g_X9_openAmount at hg
  cases hf : f_X9_openAmount (md_thrown ρ) (md_now ρ) (md_rows ρ) p1 with
  | none => rw [hf] at hg; cases hg
  | some r =>
    rw [hf] at hg
    cases hg
    exact zM_eq (gW_u rfl rfl) (c_X9_openAmount (a := 389) (gW_c (k := 0) (by omega) rfl) (gW_c (k := 1) (by omega) rfl) hf)
def g_X9_overdue (ρ : MdT) (p1 : Int32) : Option (Int64 × MdT) := (f_X9_overdue (md_thrown ρ) (md_now ρ) (md_rows ρ) p1).map fun r => (r.1, (r.2, (md_rows ρ), (md_read ρ), (md_aside ρ), (md_now ρ), (md_undoable ρ), (md_text ρ), (md_bytes ρ), (md_errorAt ρ), (md_size ρ), (md_next ρ), (md_error ρ), (md_place ρ), (md_began ρ), (md_nested ρ), (md_once ρ), (md_pile ρ)))
theorem d_X9_overdue {w : zV} {h0 : zH} {N : Nat} {σ : LgT} {ρ ρ' : MdT} {u : Nat → Int64} (hN : 396 ≤ N) {p1 : Int32} {v : Int64} (hg : g_X9_overdue ρ p1 = some (v, ρ')) : zM w yX9_overdue cX9_overdue 2 (some .long) (zr 3 92) false N N (gW w h0 σ ρ u) [.ref (zo w + 389), .int p1] (some (.long v)) (gW w h0 σ ρ' u) := by
  unfold g_X9_overdue at hg
  cases hf : f_X9_overdue (md_thrown ρ) (md_now ρ) (md_rows ρ) p1 with
  | none => rw [hf] at hg; cases hg
  | some r =>
    rw [hf] at hg
    cases hg
    exact zM_eq (gW_u rfl rfl) (c_X9_overdue (a := 389) (gW_c (k := 0) (by omega) rfl) (gW_c (k := 1) (by omega) rfl) hf)
def g_X9_parent (ρ : MdT) (p1 : Int32) : Option (Int32 × MdT) := (f_X9_parent (md_thrown ρ) (md_now ρ) (md_rows ρ) p1).map fun r => (r.1, (r.2, (md_rows ρ), (md_read ρ), (md_aside ρ), (md_now ρ), (md_undoable ρ), (md_text ρ), (md_bytes ρ), (md_errorAt ρ), (md_size ρ), (md_next ρ), (md_error ρ), (md_place ρ), (md_began ρ), (md_nested ρ), (md_once ρ), (md_pile ρ)))
theorem d_X9_parent {w : zV} {h0 : zH} {N : Nat} {σ : LgT} {ρ ρ' : MdT} {u : Nat → Int64} (hN : 396 ≤ N) {p1 : Int32} {v : Int32} (hg : g_X9_parent ρ p1 = some (v, ρ')) : zM w yX9_parent cX9_parent 2 (some .int) (zr 2 62) false N N (gW w h0 σ ρ u) [.ref (zo w + 389), .int p1] (some (.int v)) (gW w h0 σ ρ' u) := by
  unfold g_X9_parent at hg
  cases hf : f_X9_parent (md_thrown ρ) (md_now ρ) (md_rows ρ) p1 with
  | none => rw [hf] at hg; cases hg
  | some r =>
    rw [hf] at hg
    cases hg
    exact zM_eq (gW_u rfl rfl) (c_X9_parent (a := 389) (gW_c (k := 0) (by omega) rfl) (gW_c (k := 1) (by omega) rfl) hf)
def g_X9_pass (ρ : MdT) (p1 : Int32) : Option (Int32 × MdT) := (f_X9_pass (md_thrown ρ) (md_now ρ) (md_undoable ρ) (md_rows ρ) p1).map fun r => (r.1, (r.2.1, r.2.2.2.2, (md_read ρ), (md_aside ρ), r.2.2.1, r.2.2.2.1, (md_text ρ), (md_bytes ρ), (md_errorAt ρ), (md_size ρ), (md_next ρ), (md_error ρ), (md_place ρ), (md_began ρ), (md_nested ρ), (md_once ρ), (md_pile ρ)))
theorem d_X9_pass {w : zV} {h0 : zH} {N : Nat} {σ : LgT} {ρ ρ' : MdT} {u : Nat → Int64} (hN : 396 ≤ N) {p1 : Int32} {v : Int32} (hg : g_X9_pass ρ p1 = some (v, ρ')) : zM w yX9_pass cX9_pass 2 (some .int) (zr 2 59) false N N (gW w h0 σ ρ u) [.ref (zo w + 389), .int p1] (some (.int v)) (gW w h0 σ ρ' u) := by
  unfold g_X9_pass at hg
  cases hf : f_X9_pass (md_thrown ρ) (md_now ρ) (md_undoable ρ) (md_rows ρ) p1 with
  | none => rw [hf] at hg; cases hg
  | some r =>
    rw [hf] at hg
    cases hg
    exact zM_eq (gW_u rfl rfl) (c_X9_pass (a := 389) (gW_c (k := 0) (by omega) rfl) (gW_c (k := 1) (by omega) rfl) hf)
def g_X9_pay (ρ : MdT) (p1 : Int32) (p2 : Int32) : Option (Int64 × MdT) := (f_X9_pay (md_thrown ρ) (md_now ρ) (md_undoable ρ) (md_rows ρ) p1 p2).map fun r => (r.1, (r.2.1, r.2.2.2.2, (md_read ρ), (md_aside ρ), r.2.2.1, r.2.2.2.1, (md_text ρ), (md_bytes ρ), (md_errorAt ρ), (md_size ρ), (md_next ρ), (md_error ρ), (md_place ρ), (md_began ρ), (md_nested ρ), (md_once ρ), (md_pile ρ)))
theorem d_X9_pay {w : zV} {h0 : zH} {N : Nat} {σ : LgT} {ρ ρ' : MdT} {u : Nat → Int64} (hN : 396 ≤ N) {p1 : Int32} {p2 : Int32} {v : Int64} (hg : g_X9_pay ρ p1 p2 = some (v, ρ')) : zM w yX9_pay cX9_pay 3 (some .long) (zr 4 120) false N N (gW w h0 σ ρ u) [.ref (zo w + 389), .int p1, .int p2] (some (.long v)) (gW w h0 σ ρ' u) := by
  unfold g_X9_pay at hg
  cases hf : f_X9_pay (md_thrown ρ) (md_now ρ) (md_undoable ρ) (md_rows ρ) p1 p2 with
  | none => rw [hf] at hg; cases hg
  | some r =>
    rw [hf] at hg
    cases hg
    exact zM_eq (gW_u rfl rfl) (c_X9_pay (a := 389) (gW_c (k := 0) (by omega) rfl) (gW_c (k := 1) (by omega) rfl) hf)
def g_X9_presentSum (ρ : MdT) (p1 : Int32) : Option (Int64 × MdT) := (f_X9_presentSum (md_thrown ρ) (md_now ρ) (md_rows ρ) (md_pile ρ) p1).map fun r => (r.1, (r.2.1, (md_rows ρ), (md_read ρ), (md_aside ρ), (md_now ρ), (md_undoable ρ), (md_text ρ), (md_bytes ρ), (md_errorAt ρ), (md_size ρ), (md_next ρ), (md_error ρ), (md_place ρ), (md_began ρ), (md_nested ρ), (md_once ρ), r.2.2))
theorem d_X9_presentSum {w : zV} {h0 : zH} {N : Nat} {σ : LgT} {ρ ρ' : MdT} {u : Nat → Int64} (hN : 396 ≤ N) {p1 : Int32} {v : Int64} (hg : g_X9_presentSum ρ p1 = some (v, ρ')) : zM w yX9_presentSum cX9_presentSum 2 (some .long) (zr 6 199) false N N (gW w h0 σ ρ u) [.ref (zo w + 389), .int p1] (some (.long v)) (gW w h0 σ ρ' u) := by
  unfold g_X9_presentSum at hg
  cases hf : f_X9_presentSum (md_thrown ρ) (md_now ρ) (md_rows ρ) (md_pile ρ) p1 with
  | none => rw [hf] at hg; cases hg
  | some r =>
    rw [hf] at hg
    cases hg
    exact zM_eq (gW_u rfl rfl) (c_X9_presentSum (a := 389) (gW_c (k := 0) (by omega) rfl) (gW_c (k := 1) (by omega) rfl) (gW_c (k := 5) (by omega) rfl) hf)
def g_X9_priority (ρ : MdT) (p1 : Int32) : Option (Int32 × MdT) := (f_X9_priority (md_thrown ρ) (md_now ρ) (md_rows ρ) p1).map fun r => (r.1, (r.2, (md_rows ρ), (md_read ρ), (md_aside ρ), (md_now ρ), (md_undoable ρ), (md_text ρ), (md_bytes ρ), (md_errorAt ρ), (md_size ρ), (md_next ρ), (md_error ρ), (md_place ρ), (md_began ρ), (md_nested ρ), (md_once ρ), (md_pile ρ)))
theorem d_X9_priority {w : zV} {h0 : zH} {N : Nat} {σ : LgT} {ρ ρ' : MdT} {u : Nat → Int64} (hN : 396 ≤ N) {p1 : Int32} {v : Int32} (hg : g_X9_priority ρ p1 = some (v, ρ')) : zM w yX9_priority cX9_priority 4 (some .int) (zr 5 148) false N N (gW w h0 σ ρ u) [.ref (zo w + 389), .int p1] (some (.int v)) (gW w h0 σ ρ' u) := by
  unfold g_X9_priority at hg
  cases hf : f_X9_priority (md_thrown ρ) (md_now ρ) (md_rows ρ) p1 with
  | none => rw [hf] at hg; cases hg
  | some r =>
    rw [hf] at hg
    cases hg
    exact zM_eq (gW_u rfl rfl) (c_X9_priority (a := 389) (gW_c (k := 0) (by omega) rfl) (gW_c (k := 1) (by omega) rfl) hf)
def g_X9_propose (ρ : MdT) (p1 : Int32) (p2 : Int32) (p3 : Int32) : Option (Int32 × MdT) := (f_X9_propose (md_thrown ρ) (md_now ρ) (md_undoable ρ) (md_rows ρ) p1 p2 p3).map fun r => (r.1, (r.2.1, r.2.2.2.2, (md_read ρ), (md_aside ρ), r.2.2.1, r.2.2.2.1, (md_text ρ), (md_bytes ρ), (md_errorAt ρ), (md_size ρ), (md_next ρ), (md_error ρ), (md_place ρ), (md_began ρ), (md_nested ρ), (md_once ρ), (md_pile ρ)))
theorem d_X9_propose {w : zV} {h0 : zH} {N : Nat} {σ : LgT} {ρ ρ' : MdT} {u : Nat → Int64} (hN : 396 ≤ N) {p1 : Int32} {p2 : Int32} {p3 : Int32} {v : Int32} (hg : g_X9_propose ρ p1 p2 p3 = some (v, ρ')) : zM w yX9_propose cX9_propose 5 (some .int) (zr 3 92) false N N (gW w h0 σ ρ u) [.ref (zo w + 389), .int p1, .int p2, .int p3] (some (.int v)) (gW w h0 σ ρ' u) := by
  unfold g_X9_propose at hg
  cases hf : f_X9_propose (md_thrown ρ) (md_now ρ) (md_undoable ρ) (md_rows ρ) p1 p2 p3 with
  | none => rw [hf] at hg; cases hg
  | some r =>
    rw [hf] at hg
    cases hg
    exact zM_eq (gW_u rfl rfl) (c_X9_propose (a := 389) (gW_c (k := 0) (by omega) rfl) (gW_c (k := 1) (by omega) rfl) hf)
def g_X9_quantity (ρ : MdT) (p1 : Int32) (p2 : Int32) : Option (Int32 × MdT) := (f_X9_quantity (md_thrown ρ) (md_now ρ) (md_rows ρ) p1 p2).map fun r => (r.1, (r.2, (md_rows ρ), (md_read ρ), (md_aside ρ), (md_now ρ), (md_undoable ρ), (md_text ρ), (md_bytes ρ), (md_errorAt ρ), (md_size ρ), (md_next ρ), (md_error ρ), (md_place ρ), (md_began ρ), (md_nested ρ), (md_once ρ), (md_pile ρ)))
theorem d_X9_quantity {w : zV} {h0 : zH} {N : Nat} {σ : LgT} {ρ ρ' : MdT} {u : Nat → Int64} (hN : 396 ≤ N) {p1 : Int32} {p2 : Int32} {v : Int32} (hg : g_X9_quantity ρ p1 p2 = some (v, ρ')) : zM w yX9_quantity cX9_quantity 3 (some .int) (zr 3 93) false N N (gW w h0 σ ρ u) [.ref (zo w + 389), .int p1, .int p2] (some (.int v)) (gW w h0 σ ρ' u) := by
  unfold g_X9_quantity at hg
  cases hf : f_X9_quantity (md_thrown ρ) (md_now ρ) (md_rows ρ) p1 p2 with
  | none => rw [hf] at hg; cases hg
  | some r =>
    rw [hf] at hg
    cases hg
    exact zM_eq (gW_u rfl rfl) (c_X9_quantity (a := 389) (gW_c (k := 0) (by omega) rfl) (gW_c (k := 1) (by omega) rfl) hf)
def g_X9_retention (ρ : MdT) (p1 : Int32) : Option (Int64 × MdT) := (f_X9_retention (md_thrown ρ) (md_now ρ) (md_rows ρ) (md_pile ρ) p1).map fun r => (r.1, (r.2.1, (md_rows ρ), (md_read ρ), (md_aside ρ), (md_now ρ), (md_undoable ρ), (md_text ρ), (md_bytes ρ), (md_errorAt ρ), (md_size ρ), (md_next ρ), (md_error ρ), (md_place ρ), (md_began ρ), (md_nested ρ), (md_once ρ), r.2.2))
theorem d_X9_retention {w : zV} {h0 : zH} {N : Nat} {σ : LgT} {ρ ρ' : MdT} {u : Nat → Int64} (hN : 396 ≤ N) {p1 : Int32} {v : Int64} (hg : g_X9_retention ρ p1 = some (v, ρ')) : zM w yX9_retention cX9_retention 2 (some .long) (zr 8 260) false N N (gW w h0 σ ρ u) [.ref (zo w + 389), .int p1] (some (.long v)) (gW w h0 σ ρ' u) := by
  unfold g_X9_retention at hg
  cases hf : f_X9_retention (md_thrown ρ) (md_now ρ) (md_rows ρ) (md_pile ρ) p1 with
  | none => rw [hf] at hg; cases hg
  | some r =>
    rw [hf] at hg
    cases hg
    exact zM_eq (gW_u rfl rfl) (c_X9_retention (a := 389) (gW_c (k := 0) (by omega) rfl) (gW_c (k := 1) (by omega) rfl) (gW_c (k := 5) (by omega) rfl) hf)
def g_X9_settle (ρ : MdT) (p1 : Int32) : Option (Int64 × MdT) := (f_X9_settle (md_thrown ρ) (md_now ρ) (md_undoable ρ) (md_rows ρ) p1).map fun r => (r.1, (r.2.1, r.2.2.2.2, (md_read ρ), (md_aside ρ), r.2.2.1, r.2.2.2.1, (md_text ρ), (md_bytes ρ), (md_errorAt ρ), (md_size ρ), (md_next ρ), (md_error ρ), (md_place ρ), (md_began ρ), (md_nested ρ), (md_once ρ), (md_pile ρ)))
theorem d_X9_settle {w : zV} {h0 : zH} {N : Nat} {σ : LgT} {ρ ρ' : MdT} {u : Nat → Int64} (hN : 396 ≤ N) {p1 : Int32} {v : Int64} (hg : g_X9_settle ρ p1 = some (v, ρ')) : zM w yX9_settle cX9_settle 5 (some .long) (zr 5 155) false N N (gW w h0 σ ρ u) [.ref (zo w + 389), .int p1] (some (.long v)) (gW w h0 σ ρ' u) := by
  unfold g_X9_settle at hg
  cases hf : f_X9_settle (md_thrown ρ) (md_now ρ) (md_undoable ρ) (md_rows ρ) p1 with
  | none => rw [hf] at hg; cases hg
  | some r =>
    rw [hf] at hg
    cases hg
    exact zM_eq (gW_u rfl rfl) (c_X9_settle (a := 389) (gW_c (k := 0) (by omega) rfl) (gW_c (k := 1) (by omega) rfl) hf)
def g_X9_settleDays (ρ : MdT) (p1 : Int32) (p2 : Int32) : Option (Int32 × MdT) := (f_X9_settleDays (md_thrown ρ) (md_now ρ) (md_rows ρ) (md_aside ρ) p1 p2).map fun r => (r.1, (r.2.1, r.2.2.1, (md_read ρ), r.2.2.2, (md_now ρ), (md_undoable ρ), (md_text ρ), (md_bytes ρ), (md_errorAt ρ), (md_size ρ), (md_next ρ), (md_error ρ), (md_place ρ), (md_began ρ), (md_nested ρ), (md_once ρ), (md_pile ρ)))
theorem d_X9_settleDays {w : zV} {h0 : zH} {N : Nat} {σ : LgT} {ρ ρ' : MdT} {u : Nat → Int64} (hN : 396 ≤ N) {p1 : Int32} {p2 : Int32} {v : Int32} (hg : g_X9_settleDays ρ p1 p2 = some (v, ρ')) : zM w yX9_settleDays cX9_settleDays 6 (some .int) (zr 5 155) false N N (gW w h0 σ ρ u) [.ref (zo w + 389), .int p1, .int p2] (some (.int v)) (gW w h0 σ ρ' u) := by
  unfold g_X9_settleDays at hg
  cases hf : f_X9_settleDays (md_thrown ρ) (md_now ρ) (md_rows ρ) (md_aside ρ) p1 p2 with
  | none => rw [hf] at hg; cases hg
  | some r =>
    rw [hf] at hg
    cases hg
    exact zM_eq (gW_u rfl rfl) (c_X9_settleDays (a := 389) (gW_c (k := 0) (by omega) rfl) (gW_c (k := 1) (by omega) rfl) (gW_c (k := 3) (by omega) rfl) hf)
def g_X9_share (ρ : MdT) (p1 : Int32) (p2 : Int32) : Option (Int64 × MdT) := (f_X9_share (md_thrown ρ) (md_now ρ) (md_rows ρ) p1 p2).map fun r => (r.1, (r.2, (md_rows ρ), (md_read ρ), (md_aside ρ), (md_now ρ), (md_undoable ρ), (md_text ρ), (md_bytes ρ), (md_errorAt ρ), (md_size ρ), (md_next ρ), (md_error ρ), (md_place ρ), (md_began ρ), (md_nested ρ), (md_once ρ), (md_pile ρ)))
theorem d_X9_share {w : zV} {h0 : zH} {N : Nat} {σ : LgT} {ρ ρ' : MdT} {u : Nat → Int64} (hN : 396 ≤ N) {p1 : Int32} {p2 : Int32} {v : Int64} (hg : g_X9_share ρ p1 p2 = some (v, ρ')) : zM w yX9_share cX9_share 11 (some .long) (zr 6 187) false N N (gW w h0 σ ρ u) [.ref (zo w + 389), .int p1, .int p2] (some (.long v)) (gW w h0 σ ρ' u) := by
  unfold g_X9_share at hg
  cases hf : f_X9_share (md_thrown ρ) (md_now ρ) (md_rows ρ) p1 p2 with
  | none => rw [hf] at hg; cases hg
  | some r =>
    rw [hf] at hg
    cases hg
    exact zM_eq (gW_u rfl rfl) (c_X9_share (a := 389) (gW_c (k := 0) (by omega) rfl) (gW_c (k := 1) (by omega) rfl) hf)
def g_X9_specialRate (ρ : MdT) (p1 : Int32) (p2 : Int32) : Option (Int32 × MdT) := (f_X9_specialRate (md_thrown ρ) (md_now ρ) (md_rows ρ) (md_pile ρ) p1 p2).map fun r => (r.1, (r.2.1, (md_rows ρ), (md_read ρ), (md_aside ρ), (md_now ρ), (md_undoable ρ), (md_text ρ), (md_bytes ρ), (md_errorAt ρ), (md_size ρ), (md_next ρ), (md_error ρ), (md_place ρ), (md_began ρ), (md_nested ρ), (md_once ρ), r.2.2))
theorem d_X9_specialRate {w : zV} {h0 : zH} {N : Nat} {σ : LgT} {ρ ρ' : MdT} {u : Nat → Int64} (hN : 396 ≤ N) {p1 : Int32} {p2 : Int32} {v : Int32} (hg : g_X9_specialRate ρ p1 p2 = some (v, ρ')) : zM w yX9_specialRate cX9_specialRate 3 (some .int) (zr 4 133) false N N (gW w h0 σ ρ u) [.ref (zo w + 389), .int p1, .int p2] (some (.int v)) (gW w h0 σ ρ' u) := by
  unfold g_X9_specialRate at hg
  cases hf : f_X9_specialRate (md_thrown ρ) (md_now ρ) (md_rows ρ) (md_pile ρ) p1 p2 with
  | none => rw [hf] at hg; cases hg
  | some r =>
    rw [hf] at hg
    cases hg
    exact zM_eq (gW_u rfl rfl) (c_X9_specialRate (a := 389) (gW_c (k := 0) (by omega) rfl) (gW_c (k := 1) (by omega) rfl) (gW_c (k := 5) (by omega) rfl) hf)
def g_X9_stage (ρ : MdT) (p1 : Int32) : Option (Int32 × MdT) := (f_X9_stage (md_thrown ρ) (md_now ρ) (md_rows ρ) p1).map fun r => (r.1, (r.2, (md_rows ρ), (md_read ρ), (md_aside ρ), (md_now ρ), (md_undoable ρ), (md_text ρ), (md_bytes ρ), (md_errorAt ρ), (md_size ρ), (md_next ρ), (md_error ρ), (md_place ρ), (md_began ρ), (md_nested ρ), (md_once ρ), (md_pile ρ)))
theorem d_X9_stage {w : zV} {h0 : zH} {N : Nat} {σ : LgT} {ρ ρ' : MdT} {u : Nat → Int64} (hN : 396 ≤ N) {p1 : Int32} {v : Int32} (hg : g_X9_stage ρ p1 = some (v, ρ')) : zM w yX9_stage cX9_stage 2 (some .int) (zr 2 62) false N N (gW w h0 σ ρ u) [.ref (zo w + 389), .int p1] (some (.int v)) (gW w h0 σ ρ' u) := by
  unfold g_X9_stage at hg
  cases hf : f_X9_stage (md_thrown ρ) (md_now ρ) (md_rows ρ) p1 with
  | none => rw [hf] at hg; cases hg
  | some r =>
    rw [hf] at hg
    cases hg
    exact zM_eq (gW_u rfl rfl) (c_X9_stage (a := 389) (gW_c (k := 0) (by omega) rfl) (gW_c (k := 1) (by omega) rfl) hf)
def g_X9_undo (ρ : MdT)  : Option (Int32 × MdT) := (f_X9_undo (md_thrown ρ) (md_now ρ) (md_undoable ρ)).map fun r => (r.1, (r.2.1, (md_rows ρ), (md_read ρ), (md_aside ρ), r.2.2.1, r.2.2.2, (md_text ρ), (md_bytes ρ), (md_errorAt ρ), (md_size ρ), (md_next ρ), (md_error ρ), (md_place ρ), (md_began ρ), (md_nested ρ), (md_once ρ), (md_pile ρ)))
theorem d_X9_undo {w : zV} {h0 : zH} {N : Nat} {σ : LgT} {ρ ρ' : MdT} {u : Nat → Int64} (hN : 396 ≤ N)  {v : Int32} (hg : g_X9_undo ρ  = some (v, ρ')) : zM w yX9_undo cX9_undo 1 (some .int) (zr 0 0) false N N (gW w h0 σ ρ u) [.ref (zo w + 389)] (some (.int v)) (gW w h0 σ ρ' u) := by
  unfold g_X9_undo at hg
  cases hf : f_X9_undo (md_thrown ρ) (md_now ρ) (md_undoable ρ) with
  | none => rw [hf] at hg; cases hg
  | some r =>
    rw [hf] at hg
    cases hg
    exact zM_eq (gW_u rfl rfl) (c_X9_undo (a := 389) (gW_c (k := 0) (by omega) rfl) hf)
def g_X9_unpaid (ρ : MdT) (p1 : Int32) : Option (Int64 × MdT) := (f_X9_unpaid (md_thrown ρ) (md_now ρ) (md_rows ρ) p1).map fun r => (r.1, (r.2, (md_rows ρ), (md_read ρ), (md_aside ρ), (md_now ρ), (md_undoable ρ), (md_text ρ), (md_bytes ρ), (md_errorAt ρ), (md_size ρ), (md_next ρ), (md_error ρ), (md_place ρ), (md_began ρ), (md_nested ρ), (md_once ρ), (md_pile ρ)))
theorem d_X9_unpaid {w : zV} {h0 : zH} {N : Nat} {σ : LgT} {ρ ρ' : MdT} {u : Nat → Int64} (hN : 396 ≤ N) {p1 : Int32} {v : Int64} (hg : g_X9_unpaid ρ p1 = some (v, ρ')) : zM w yX9_unpaid cX9_unpaid 2 (some .long) (zr 4 121) false N N (gW w h0 σ ρ u) [.ref (zo w + 389), .int p1] (some (.long v)) (gW w h0 σ ρ' u) := by
  unfold g_X9_unpaid at hg
  cases hf : f_X9_unpaid (md_thrown ρ) (md_now ρ) (md_rows ρ) p1 with
  | none => rw [hf] at hg; cases hg
  | some r =>
    rw [hf] at hg
    cases hg
    exact zM_eq (gW_u rfl rfl) (c_X9_unpaid (a := 389) (gW_c (k := 0) (by omega) rfl) (gW_c (k := 1) (by omega) rfl) hf)
def g_X9_variationCount (ρ : MdT)  : Option (Int32 × MdT) := (f_X9_variationCount (md_thrown ρ) (md_now ρ) (md_rows ρ)).map fun r => (r.1, (r.2, (md_rows ρ), (md_read ρ), (md_aside ρ), (md_now ρ), (md_undoable ρ), (md_text ρ), (md_bytes ρ), (md_errorAt ρ), (md_size ρ), (md_next ρ), (md_error ρ), (md_place ρ), (md_began ρ), (md_nested ρ), (md_once ρ), (md_pile ρ)))
theorem d_X9_variationCount {w : zV} {h0 : zH} {N : Nat} {σ : LgT} {ρ ρ' : MdT} {u : Nat → Int64} (hN : 396 ≤ N)  {v : Int32} (hg : g_X9_variationCount ρ  = some (v, ρ')) : zM w yX9_variationCount cX9_variationCount 1 (some .int) (zr 2 58) false N N (gW w h0 σ ρ u) [.ref (zo w + 389)] (some (.int v)) (gW w h0 σ ρ' u) := by
  unfold g_X9_variationCount at hg
  cases hf : f_X9_variationCount (md_thrown ρ) (md_now ρ) (md_rows ρ) with
  | none => rw [hf] at hg; cases hg
  | some r =>
    rw [hf] at hg
    cases hg
    exact zM_eq (gW_u rfl rfl) (c_X9_variationCount (a := 389) (gW_c (k := 0) (by omega) rfl) (gW_c (k := 1) (by omega) rfl) hf)
def g_X9_variationWorth (ρ : MdT) (p1 : Int32) : Option (Int64 × MdT) := (f_X9_variationWorth (md_thrown ρ) (md_now ρ) (md_rows ρ) (md_pile ρ) p1).map fun r => (r.1, (r.2.1, (md_rows ρ), (md_read ρ), (md_aside ρ), (md_now ρ), (md_undoable ρ), (md_text ρ), (md_bytes ρ), (md_errorAt ρ), (md_size ρ), (md_next ρ), (md_error ρ), (md_place ρ), (md_began ρ), (md_nested ρ), (md_once ρ), r.2.2))
theorem d_X9_variationWorth {w : zV} {h0 : zH} {N : Nat} {σ : LgT} {ρ ρ' : MdT} {u : Nat → Int64} (hN : 396 ≤ N) {p1 : Int32} {v : Int64} (hg : g_X9_variationWorth ρ p1 = some (v, ρ')) : zM w yX9_variationWorth cX9_variationWorth 3 (some .long) (zr 5 167) false N N (gW w h0 σ ρ u) [.ref (zo w + 389), .int p1] (some (.long v)) (gW w h0 σ ρ' u) := by
  unfold g_X9_variationWorth at hg
  cases hf : f_X9_variationWorth (md_thrown ρ) (md_now ρ) (md_rows ρ) (md_pile ρ) p1 with
  | none => rw [hf] at hg; cases hg
  | some r =>
    rw [hf] at hg
    cases hg
    exact zM_eq (gW_u rfl rfl) (c_X9_variationWorth (a := 389) (gW_c (k := 0) (by omega) rfl) (gW_c (k := 1) (by omega) rfl) (gW_c (k := 5) (by omega) rfl) hf)
def g_X9_withdrawLien (ρ : MdT) (p1 : Int32) : Option (Int64 × MdT) := (f_X9_withdrawLien (md_thrown ρ) (md_now ρ) (md_undoable ρ) (md_rows ρ) p1).map fun r => (r.1, (r.2.1, r.2.2.2.2, (md_read ρ), (md_aside ρ), r.2.2.1, r.2.2.2.1, (md_text ρ), (md_bytes ρ), (md_errorAt ρ), (md_size ρ), (md_next ρ), (md_error ρ), (md_place ρ), (md_began ρ), (md_nested ρ), (md_once ρ), (md_pile ρ)))
theorem d_X9_withdrawLien {w : zV} {h0 : zH} {N : Nat} {σ : LgT} {ρ ρ' : MdT} {u : Nat → Int64} (hN : 396 ≤ N) {p1 : Int32} {v : Int64} (hg : g_X9_withdrawLien ρ p1 = some (v, ρ')) : zM w yX9_withdrawLien cX9_withdrawLien 4 (some .long) (zr 5 150) false N N (gW w h0 σ ρ u) [.ref (zo w + 389), .int p1] (some (.long v)) (gW w h0 σ ρ' u) := by
  unfold g_X9_withdrawLien at hg
  cases hf : f_X9_withdrawLien (md_thrown ρ) (md_now ρ) (md_undoable ρ) (md_rows ρ) p1 with
  | none => rw [hf] at hg; cases hg
  | some r =>
    rw [hf] at hg
    cases hg
    exact zM_eq (gW_u rfl rfl) (c_X9_withdrawLien (a := 389) (gW_c (k := 0) (by omega) rfl) (gW_c (k := 1) (by omega) rfl) hf)
