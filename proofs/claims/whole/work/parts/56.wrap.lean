theorem lg_c {w : zV} {N a c0 : Nat} {h : zH} {σ : LgT} {e : va_E} (hs : isStk e = false) (hc : a + 389 ≤ c0) (n : zc N h c0 e) : zc N (lgH w a h σ) c0 e := by
  refine ⟨n.1, ?_⟩
  rw [lg_o3 (by omega) (by rw [n.2]; exact hs)]
  exact n.2
theorem lg_up {w : zV} {a c0 : Nat} {h : zH} {σ : LgT} {e : va_E} (hs : isStk e = false) (hc : a + 389 ≤ c0) : va_up (lgH w a h σ) c0 e = lgH w a (va_up h c0 e) σ := by
  funext j
  by_cases h1 : j = c0
  · subst h1
    have e1 : ∀ f : zH, va_up f j e j = e := fun f => by simp [va_up]
    rw [e1, lg_o3 (by omega) (by rw [e1]; exact hs), e1]
  · have e1 : ∀ f : zH, va_up f c0 e j = f j := fun f => by simp [va_up, h1]
    rw [e1]
    by_cases h2 : lin a j
    · rw [lg_in h2, lg_in h2]
    · rw [lg_out h2, lg_out h2, e1]

abbrev hh_load : List (Nat × Nat × Nat × Nat) := [(0, 9, 12, 13)]
theorem c_L_load {w : zV} {N a c0 : Nat} {h : zH} (hN : a + 389 ≤ N) (hc : a + 389 ≤ c0) {σ : LgT} {p1 : Int32} {o : Nat → Int64} (n_o : zc N h c0 (.inl (w.2.2.1 1, 1, .inr (.inl o)))) {tb : Nat} {te : va_E} (hTa : a + 389 ≤ tb) (hTb : N ≤ tb + 1) (hTc : zc N (lgH w a h σ) tb te) (hTj : zj te = true) (hga : rj_rd_ga σ.2.2.1 + 1 < N) {v : Int32} {s : Nat → LgT} {q_17 : LdT} (h0 : f_X8_checkRange p1 (0 : Int32) (rj_rd_filled σ.2.2.1) = some (.inr ())) (hq : ld_q σ p1 = some q_17) (hf : ∀ g, ld_20 σ p1 q_17 g = some (v, s g)) : zMwP w yL_load cL_load 4 hh_load (zrx 36 1820 4 926) N (lgH w a h σ) [.ref (zo w + a), .int p1, .ref (zo w + c0)] (some (.int 0)) (fun N' h' => ∃ g, N ≤ g ∧ N' = g + 3 ∧ h' = lgH w a (va_up (ld_H w N h σ p1 q_17 g) c0 (.inl (w.2.2.1 1, 1, .inr (.inl (vp_updL o 0 v.toInt64))))) (s g)) := by
  refine zMwP_of (by decide) rfl (fun X C htab => ?_)
  refine z_aload_n (pc' := 1) C 2 dL_load_0 rfl rfl rfl ?_
  refine z_iconst (pc' := 2) C dL_load_1 zk_iconst_0 rfl ?_
  refine z_aload_n (pc' := 3) C 0 dL_load_2 rfl rfl rfl ?_
  refine z_iload_n (pc' := 4) C 1 dL_load_3 rfl rfl rfl ?_
  refine z_callVP (pc' := 7) (st := [.int 0, .ref (zo w + c0)]) C (c_X8_load hN hTa hTb hTc hTj hga h0 hq hf) zy_X8_load zw_446 zw_447 zw_448 (ci := 8) rfl (lg_0 hN) rfl rfl rfl rfl rfl dL_load_4 rfl (fun N1 h1 hP1 => ?_)
  obtain ⟨g, hg, rfl, rfl⟩ := hP1
  have hcl := n_o.1
  have n_o1 : zc (g + 3) (ld_H w N h σ p1 q_17 g) c0 (.inl (w.2.2.1 1, 1, .inr (.inl o))) := zc_f (m := 3) (zc_f (m := 3) (zc_J n_o (by omega)) (by omega) rfl) (by omega) rfl
  refine z_i2l (pc' := 8) C dL_load_7 rfl ?_
  refine z_last (pc' := 9) C (K := fun g => some g) (r := vp_updL o 0 v.toInt64) rfl (lg_c rfl hc n_o1) (fun g => lg_up rfl hc) dL_load_8 rfl (fun g' hg' => ?_)
  cases hg'
  refine z_goto C 15 dL_load_9 rfl ?_
  refine z_iconst (pc' := 16) C dL_load_15 zk_iconst_0 rfl ?_
  exact z_toP ⟨g, hg, rfl, rfl⟩ (z_iret C rfl rfl dL_load_16)
theorem c_L_load_1 {w : zV} {N a c0 : Nat} {h : zH} (hN : a + 389 ≤ N) (hc : a + 389 ≤ c0) {σ : LgT} {p1 : Int32} {o : Nat → Int64} (n_o : zc N h c0 (.inl (w.2.2.1 1, 1, .inr (.inl o)))) (h0 : f_X8_checkRange p1 (0 : Int32) (rj_rd_filled σ.2.2.1) = some (.inl "java/lang/IllegalArgumentException")) : zMw w yL_load cL_load 4 hh_load (zrx 36 1820 4 926) N (lgH w a h σ) [.ref (zo w + a), .int p1, .ref (zo w + c0)] (some (.int 1)) (lgH w a h σ) := by
  refine zMw_of (by decide) rfl (fun X C htab => ?_)
  refine z_aload_n (pc' := 1) C 2 dL_load_0 rfl rfl rfl ?_
  refine z_iconst (pc' := 2) C dL_load_1 zk_iconst_0 rfl ?_
  refine z_aload_n (pc' := 3) C 0 dL_load_2 rfl rfl rfl ?_
  refine z_iload_n (pc' := 4) C 1 dL_load_3 rfl rfl rfl ?_
  refine z_cVl (pc' := 12) (st := [.int 0, .ref (zo w + c0)]) C htab (c_X8_load_x hN h0) [] [] ⟨0, 9, 12, 13⟩ rfl (fun z hz => absurd hz List.not_mem_nil) (by decide) (by decide) zw_445 (jE := 1) rfl zy_X8_load zw_446 zw_447 zw_448 (ci := 8) rfl (lg_0 hN) rfl rfl rfl rfl rfl dL_load_4 rfl (fun q => ?_)
  refine z_astore_n (pc' := 13) C _ dL_load_12 rfl rfl rfl rfl ?_
  refine z_iconst (pc' := 14) C dL_load_13 zk_iconst_1 rfl ?_
  exact z_iret C rfl rfl dL_load_14
abbrev hh_parent : List (Nat × Nat × Nat × Nat) := [(0, 9, 12, 18)]
theorem c_L_parent {w : zV} {N a c0 : Nat} {h : zH} (hN : a + 389 ≤ N) (hc : a + 389 ≤ c0) {σ : LgT} {p1 : Int32} {o : Nat → Int64} (n_o : zc N h c0 (.inl (w.2.2.1 1, 1, .inr (.inl o)))) {v : Int32} (hf : f_X8_parent σ p1 = some (.inr v)) : zMw w yL_parent cL_parent 4 hh_parent (zrx 9 177 1 6) N (lgH w a h σ) [.ref (zo w + a), .int p1, .ref (zo w + c0)] (some (.int 0)) (lgH w a (va_up h c0 (.inl (w.2.2.1 1, 1, .inr (.inl (vp_updL o 0 v.toInt64))))) σ) := by
  refine zMw_of (by decide) rfl (fun X C htab => ?_)
  refine z_aload_n (pc' := 1) C 2 dL_parent_0 rfl rfl rfl ?_
  refine z_iconst (pc' := 2) C dL_parent_1 zk_iconst_0 rfl ?_
  refine z_aload_n (pc' := 3) C 0 dL_parent_2 rfl rfl rfl ?_
  refine z_iload_n (pc' := 4) C 1 dL_parent_3 rfl rfl rfl ?_
  refine z_cVr (pc' := 7) (st := [.int 0, .ref (zo w + c0)]) C (c_X8_parent hN hf) zy_X8_parent zw_703 zw_704 zw_705 (ci := 8) rfl (lg_0 hN) rfl rfl rfl rfl rfl dL_parent_4 rfl ?_
  refine z_i2l (pc' := 8) C dL_parent_7 rfl ?_
  refine z_last (pc' := 9) C (K := fun g => some g) (r := vp_updL o 0 v.toInt64) rfl (lg_c rfl hc n_o) (fun g => lg_up rfl hc) dL_parent_8 rfl (fun g hg => ?_)
  cases hg
  refine z_goto C 15 dL_parent_9 rfl ?_
  refine z_iconst (pc' := 16) C dL_parent_15 zk_iconst_0 rfl ?_
  exact z_iret C rfl rfl dL_parent_16
theorem c_L_parent_1 {w : zV} {N a c0 : Nat} {h : zH} (hN : a + 389 ≤ N) (hc : a + 389 ≤ c0) {σ : LgT} {p1 : Int32} {o : Nat → Int64} (n_o : zc N h c0 (.inl (w.2.2.1 1, 1, .inr (.inl o)))) (hf : f_X8_parent σ p1 = some (.inl "java/lang/IndexOutOfBoundsException")) : zMw w yL_parent cL_parent 4 hh_parent (zrx 9 177 1 6) N (lgH w a h σ) [.ref (zo w + a), .int p1, .ref (zo w + c0)] (some (.int 1)) (lgH w a h σ) := by
  refine zMw_of (by decide) rfl (fun X C htab => ?_)
  refine z_aload_n (pc' := 1) C 2 dL_parent_0 rfl rfl rfl ?_
  refine z_iconst (pc' := 2) C dL_parent_1 zk_iconst_0 rfl ?_
  refine z_aload_n (pc' := 3) C 0 dL_parent_2 rfl rfl rfl ?_
  refine z_iload_n (pc' := 4) C 1 dL_parent_3 rfl rfl rfl ?_
  refine z_cVl (pc' := 12) (st := [.int 0, .ref (zo w + c0)]) C htab (c_X8_parent hN hf) [] [] ⟨0, 9, 12, 18⟩ rfl (fun z hz => absurd hz List.not_mem_nil) (by decide) (by decide) zw_702 (jE := 0) rfl zy_X8_parent zw_703 zw_704 zw_705 (ci := 8) rfl (lg_0 hN) rfl rfl rfl rfl rfl dL_parent_4 rfl (fun q => ?_)
  refine z_astore_n (pc' := 13) C _ dL_parent_12 rfl rfl rfl rfl ?_
  refine z_iconst (pc' := 14) C dL_parent_13 zk_iconst_1 rfl ?_
  exact z_iret C rfl rfl dL_parent_14
abbrev hh_itemCount : List (Nat × Nat × Nat × Nat) := [(0, 9, 12, 18)]
theorem c_L_itemCount {w : zV} {N a c0 : Nat} {h : zH} (hN : a + 389 ≤ N) (hc : a + 389 ≤ c0) {σ : LgT} {p1 : Int32} {o : Nat → Int64} (n_o : zc N h c0 (.inl (w.2.2.1 1, 1, .inr (.inl o)))) {v : Int32} (hf : f_X8_itemCount σ p1 = some (.inr v)) : zMw w yL_itemCount cL_itemCount 4 hh_itemCount (zrx 9 177 1 6) N (lgH w a h σ) [.ref (zo w + a), .int p1, .ref (zo w + c0)] (some (.int 0)) (lgH w a (va_up h c0 (.inl (w.2.2.1 1, 1, .inr (.inl (vp_updL o 0 v.toInt64))))) σ) := by
  refine zMw_of (by decide) rfl (fun X C htab => ?_)
  refine z_aload_n (pc' := 1) C 2 dL_itemCount_0 rfl rfl rfl ?_
  refine z_iconst (pc' := 2) C dL_itemCount_1 zk_iconst_0 rfl ?_
  refine z_aload_n (pc' := 3) C 0 dL_itemCount_2 rfl rfl rfl ?_
  refine z_iload_n (pc' := 4) C 1 dL_itemCount_3 rfl rfl rfl ?_
  refine z_cVr (pc' := 7) (st := [.int 0, .ref (zo w + c0)]) C (c_X8_itemCount hN hf) zy_X8_itemCount zw_733 zw_734 zw_735 (ci := 8) rfl (lg_0 hN) rfl rfl rfl rfl rfl dL_itemCount_4 rfl ?_
  refine z_i2l (pc' := 8) C dL_itemCount_7 rfl ?_
  refine z_last (pc' := 9) C (K := fun g => some g) (r := vp_updL o 0 v.toInt64) rfl (lg_c rfl hc n_o) (fun g => lg_up rfl hc) dL_itemCount_8 rfl (fun g hg => ?_)
  cases hg
  refine z_goto C 15 dL_itemCount_9 rfl ?_
  refine z_iconst (pc' := 16) C dL_itemCount_15 zk_iconst_0 rfl ?_
  exact z_iret C rfl rfl dL_itemCount_16
theorem c_L_itemCount_1 {w : zV} {N a c0 : Nat} {h : zH} (hN : a + 389 ≤ N) (hc : a + 389 ≤ c0) {σ : LgT} {p1 : Int32} {o : Nat → Int64} (n_o : zc N h c0 (.inl (w.2.2.1 1, 1, .inr (.inl o)))) (hf : f_X8_itemCount σ p1 = some (.inl "java/lang/IndexOutOfBoundsException")) : zMw w yL_itemCount cL_itemCount 4 hh_itemCount (zrx 9 177 1 6) N (lgH w a h σ) [.ref (zo w + a), .int p1, .ref (zo w + c0)] (some (.int 1)) (lgH w a h σ) := by
  refine zMw_of (by decide) rfl (fun X C htab => ?_)
  refine z_aload_n (pc' := 1) C 2 dL_itemCount_0 rfl rfl rfl ?_
  refine z_iconst (pc' := 2) C dL_itemCount_1 zk_iconst_0 rfl ?_
  refine z_aload_n (pc' := 3) C 0 dL_itemCount_2 rfl rfl rfl ?_
  refine z_iload_n (pc' := 4) C 1 dL_itemCount_3 rfl rfl rfl ?_
  refine z_cVl (pc' := 12) (st := [.int 0, .ref (zo w + c0)]) C htab (c_X8_itemCount hN hf) [] [] ⟨0, 9, 12, 18⟩ rfl (fun z hz => absurd hz List.not_mem_nil) (by decide) (by decide) zw_702 (jE := 0) rfl zy_X8_itemCount zw_733 zw_734 zw_735 (ci := 8) rfl (lg_0 hN) rfl rfl rfl rfl rfl dL_itemCount_4 rfl (fun q => ?_)
  refine z_astore_n (pc' := 13) C _ dL_itemCount_12 rfl rfl rfl rfl ?_
  refine z_iconst (pc' := 14) C dL_itemCount_13 zk_iconst_1 rfl ?_
  exact z_iret C rfl rfl dL_itemCount_14
abbrev hh_quantity : List (Nat × Nat × Nat × Nat) := [(0, 10, 13, 18)]
theorem c_L_quantity {w : zV} {N a c0 : Nat} {h : zH} (hN : a + 389 ≤ N) (hc : a + 389 ≤ c0) {σ : LgT} {p1 : Int32} {p2 : Int32} {o : Nat → Int64} (n_o : zc N h c0 (.inl (w.2.2.1 1, 1, .inr (.inl o)))) {v : Int32} (hf : f_X8_quantity σ p1 p2 = some (.inr v)) : zMw w yL_quantity cL_quantity 5 hh_quantity (zrx 10 208 2 12) N (lgH w a h σ) [.ref (zo w + a), .int p1, .int p2, .ref (zo w + c0)] (some (.int 0)) (lgH w a (va_up h c0 (.inl (w.2.2.1 1, 1, .inr (.inl (vp_updL o 0 v.toInt64))))) σ) := by
  refine zMw_of (by decide) rfl (fun X C htab => ?_)
  refine z_aload_n (pc' := 1) C 3 dL_quantity_0 rfl rfl rfl ?_
  refine z_iconst (pc' := 2) C dL_quantity_1 zk_iconst_0 rfl ?_
  refine z_aload_n (pc' := 3) C 0 dL_quantity_2 rfl rfl rfl ?_
  refine z_iload_n (pc' := 4) C 1 dL_quantity_3 rfl rfl rfl ?_
  refine z_iload_n (pc' := 5) C 2 dL_quantity_4 rfl rfl rfl ?_
  refine z_cVr (pc' := 8) (st := [.int 0, .ref (zo w + c0)]) C (c_X8_quantity hN hf) zy_X8_quantity zw_740 zw_741 zw_742 (ci := 8) rfl (lg_0 hN) rfl rfl rfl rfl rfl dL_quantity_5 rfl ?_
  refine z_i2l (pc' := 9) C dL_quantity_8 rfl ?_
  refine z_last (pc' := 10) C (K := fun g => some g) (r := vp_updL o 0 v.toInt64) rfl (lg_c rfl hc n_o) (fun g => lg_up rfl hc) dL_quantity_9 rfl (fun g hg => ?_)
  cases hg
  refine z_goto C 17 dL_quantity_10 rfl ?_
  refine z_iconst (pc' := 18) C dL_quantity_17 zk_iconst_0 rfl ?_
  exact z_iret C rfl rfl dL_quantity_18
theorem c_L_quantity_1 {w : zV} {N a c0 : Nat} {h : zH} (hN : a + 389 ≤ N) (hc : a + 389 ≤ c0) {σ : LgT} {p1 : Int32} {p2 : Int32} {o : Nat → Int64} (n_o : zc N h c0 (.inl (w.2.2.1 1, 1, .inr (.inl o)))) (hf : f_X8_quantity σ p1 p2 = some (.inl "java/lang/IndexOutOfBoundsException")) : zMw w yL_quantity cL_quantity 5 hh_quantity (zrx 10 208 2 12) N (lgH w a h σ) [.ref (zo w + a), .int p1, .int p2, .ref (zo w + c0)] (some (.int 1)) (lgH w a h σ) := by
  refine zMw_of (by decide) rfl (fun X C htab => ?_)
  refine z_aload_n (pc' := 1) C 3 dL_quantity_0 rfl rfl rfl ?_
  refine z_iconst (pc' := 2) C dL_quantity_1 zk_iconst_0 rfl ?_
  refine z_aload_n (pc' := 3) C 0 dL_quantity_2 rfl rfl rfl ?_
  refine z_iload_n (pc' := 4) C 1 dL_quantity_3 rfl rfl rfl ?_
  refine z_iload_n (pc' := 5) C 2 dL_quantity_4 rfl rfl rfl ?_
  refine z_cVl (pc' := 13) (st := [.int 0, .ref (zo w + c0)]) C htab (c_X8_quantity hN hf) [] [] ⟨0, 10, 13, 18⟩ rfl (fun z hz => absurd hz List.not_mem_nil) (by decide) (by decide) zw_702 (jE := 0) rfl zy_X8_quantity zw_740 zw_741 zw_742 (ci := 8) rfl (lg_0 hN) rfl rfl rfl rfl rfl dL_quantity_5 rfl (fun q => ?_)
  refine z_astore (pc' := 15) C _ dL_quantity_13 rfl rfl rfl ?_
  refine z_iconst (pc' := 16) C dL_quantity_15 zk_iconst_1 rfl ?_
  exact z_iret C rfl rfl dL_quantity_16
abbrev hh_specialRate : List (Nat × Nat × Nat × Nat) := [(0, 10, 13, 18)]
theorem c_L_specialRate {w : zV} {N a c0 : Nat} {h : zH} (hN : a + 389 ≤ N) (hc : a + 389 ≤ c0) {σ σ' : LgT} {p1 : Int32} {p2 : Int32} {o : Nat → Int64} (n_o : zc N h c0 (.inl (w.2.2.1 1, 1, .inr (.inl o)))) (hG : PgW w N a h σ) {v : Int32} (hf : f_X8_specialRate σ p1 p2 = some (.inr (v, σ'))) : zMw w yL_specialRate cL_specialRate 5 hh_specialRate (zrx 10 209 2 12) N (lgH w a h σ) [.ref (zo w + a), .int p1, .int p2, .ref (zo w + c0)] (some (.int 0)) (lgH w a (va_up h c0 (.inl (w.2.2.1 1, 1, .inr (.inl (vp_updL o 0 v.toInt64))))) σ') := by
  refine zMw_of (by decide) rfl (fun X C htab => ?_)
  refine z_aload_n (pc' := 1) C 3 dL_specialRate_0 rfl rfl rfl ?_
  refine z_iconst (pc' := 2) C dL_specialRate_1 zk_iconst_0 rfl ?_
  refine z_aload_n (pc' := 3) C 0 dL_specialRate_2 rfl rfl rfl ?_
  refine z_iload_n (pc' := 4) C 1 dL_specialRate_3 rfl rfl rfl ?_
  refine z_iload_n (pc' := 5) C 2 dL_specialRate_4 rfl rfl rfl ?_
  refine z_cVr (pc' := 8) (st := [.int 0, .ref (zo w + c0)]) C (c_X8_specialRate hN hG hf) zy_X8_specialRate zw_752 zw_753 zw_754 (ci := 8) rfl (lg_0 hN) rfl rfl rfl rfl rfl dL_specialRate_5 rfl ?_
  refine z_i2l (pc' := 9) C dL_specialRate_8 rfl ?_
  refine z_last (pc' := 10) C (K := fun g => some g) (r := vp_updL o 0 v.toInt64) rfl (lg_c rfl hc n_o) (fun g => lg_up rfl hc) dL_specialRate_9 rfl (fun g hg => ?_)
  cases hg
  refine z_goto C 17 dL_specialRate_10 rfl ?_
  refine z_iconst (pc' := 18) C dL_specialRate_17 zk_iconst_0 rfl ?_
  exact z_iret C rfl rfl dL_specialRate_18
theorem c_L_specialRate_1 {w : zV} {N a c0 : Nat} {h : zH} (hN : a + 389 ≤ N) (hc : a + 389 ≤ c0) {σ σ' : LgT} {p1 : Int32} {p2 : Int32} {o : Nat → Int64} (n_o : zc N h c0 (.inl (w.2.2.1 1, 1, .inr (.inl o)))) (hG : PgW w N a h σ) (hf : f_X8_specialRate σ p1 p2 = some (.inl ("java/lang/IndexOutOfBoundsException", σ'))) : zMw w yL_specialRate cL_specialRate 5 hh_specialRate (zrx 10 209 2 12) N (lgH w a h σ) [.ref (zo w + a), .int p1, .int p2, .ref (zo w + c0)] (some (.int 1)) (lgH w a h σ') := by
  refine zMw_of (by decide) rfl (fun X C htab => ?_)
  refine z_aload_n (pc' := 1) C 3 dL_specialRate_0 rfl rfl rfl ?_
  refine z_iconst (pc' := 2) C dL_specialRate_1 zk_iconst_0 rfl ?_
  refine z_aload_n (pc' := 3) C 0 dL_specialRate_2 rfl rfl rfl ?_
  refine z_iload_n (pc' := 4) C 1 dL_specialRate_3 rfl rfl rfl ?_
  refine z_iload_n (pc' := 5) C 2 dL_specialRate_4 rfl rfl rfl ?_
  refine z_cVl (pc' := 13) (st := [.int 0, .ref (zo w + c0)]) C htab (c_X8_specialRate hN hG hf) [] [] ⟨0, 10, 13, 18⟩ rfl (fun z hz => absurd hz List.not_mem_nil) (by decide) (by decide) zw_702 (jE := 0) rfl zy_X8_specialRate zw_752 zw_753 zw_754 (ci := 8) rfl (lg_0 hN) rfl rfl rfl rfl rfl dL_specialRate_5 rfl (fun q => ?_)
  refine z_astore (pc' := 15) C _ dL_specialRate_13 rfl rfl rfl ?_
  refine z_iconst (pc' := 16) C dL_specialRate_15 zk_iconst_1 rfl ?_
  exact z_iret C rfl rfl dL_specialRate_16
abbrev hh_itemValue : List (Nat × Nat × Nat × Nat) := [(0, 9, 12, 18)]
theorem c_L_itemValue {w : zV} {N a c0 : Nat} {h : zH} (hN : a + 389 ≤ N) (hc : a + 389 ≤ c0) {σ σ' : LgT} {p1 : Int32} {p2 : Int32} {o : Nat → Int64} (n_o : zc N h c0 (.inl (w.2.2.1 1, 1, .inr (.inl o)))) (hG : PgW w N a h σ) {v : Int64} (hf : f_X8_itemValue σ p1 p2 = some (.inr (v, σ'))) : zMw w yL_itemValue cL_itemValue 5 hh_itemValue (zrx 10 209 2 12) N (lgH w a h σ) [.ref (zo w + a), .int p1, .int p2, .ref (zo w + c0)] (some (.int 0)) (lgH w a (va_up h c0 (.inl (w.2.2.1 1, 1, .inr (.inl (vp_updL o 0 v))))) σ') := by
  refine zMw_of (by decide) rfl (fun X C htab => ?_)
  refine z_aload_n (pc' := 1) C 3 dL_itemValue_0 rfl rfl rfl ?_
  refine z_iconst (pc' := 2) C dL_itemValue_1 zk_iconst_0 rfl ?_
  refine z_aload_n (pc' := 3) C 0 dL_itemValue_2 rfl rfl rfl ?_
  refine z_iload_n (pc' := 4) C 1 dL_itemValue_3 rfl rfl rfl ?_
  refine z_iload_n (pc' := 5) C 2 dL_itemValue_4 rfl rfl rfl ?_
  refine z_cVr (pc' := 8) (st := [.int 0, .ref (zo w + c0)]) C (c_X8_itemValue hN hG hf) zy_X8_itemValue zw_768 zw_769 zw_770 (ci := 8) rfl (lg_0 hN) rfl rfl rfl rfl rfl dL_itemValue_5 rfl ?_
  refine z_last (pc' := 9) C (K := fun g => some g) (r := vp_updL o 0 v) rfl (lg_c rfl hc n_o) (fun g => lg_up rfl hc) dL_itemValue_8 rfl (fun g hg => ?_)
  cases hg
  refine z_goto C 16 dL_itemValue_9 rfl ?_
  refine z_iconst (pc' := 17) C dL_itemValue_16 zk_iconst_0 rfl ?_
  exact z_iret C rfl rfl dL_itemValue_17
theorem c_L_itemValue_1 {w : zV} {N a c0 : Nat} {h : zH} (hN : a + 389 ≤ N) (hc : a + 389 ≤ c0) {σ σ' : LgT} {p1 : Int32} {p2 : Int32} {o : Nat → Int64} (n_o : zc N h c0 (.inl (w.2.2.1 1, 1, .inr (.inl o)))) (hG : PgW w N a h σ) (hf : f_X8_itemValue σ p1 p2 = some (.inl ("java/lang/IndexOutOfBoundsException", σ'))) : zMw w yL_itemValue cL_itemValue 5 hh_itemValue (zrx 10 209 2 12) N (lgH w a h σ) [.ref (zo w + a), .int p1, .int p2, .ref (zo w + c0)] (some (.int 1)) (lgH w a h σ') := by
  refine zMw_of (by decide) rfl (fun X C htab => ?_)
  refine z_aload_n (pc' := 1) C 3 dL_itemValue_0 rfl rfl rfl ?_
  refine z_iconst (pc' := 2) C dL_itemValue_1 zk_iconst_0 rfl ?_
  refine z_aload_n (pc' := 3) C 0 dL_itemValue_2 rfl rfl rfl ?_
  refine z_iload_n (pc' := 4) C 1 dL_itemValue_3 rfl rfl rfl ?_
  refine z_iload_n (pc' := 5) C 2 dL_itemValue_4 rfl rfl rfl ?_
  refine z_cVl (pc' := 12) (st := [.int 0, .ref (zo w + c0)]) C htab (c_X8_itemValue hN hG hf) [] [] ⟨0, 9, 12, 18⟩ rfl (fun z hz => absurd hz List.not_mem_nil) (by decide) (by decide) zw_702 (jE := 0) rfl zy_X8_itemValue zw_768 zw_769 zw_770 (ci := 8) rfl (lg_0 hN) rfl rfl rfl rfl rfl dL_itemValue_5 rfl (fun q => ?_)
  refine z_astore (pc' := 14) C _ dL_itemValue_12 rfl rfl rfl ?_
  refine z_iconst (pc' := 15) C dL_itemValue_14 zk_iconst_1 rfl ?_
  exact z_iret C rfl rfl dL_itemValue_15
abbrev hh_firstSum : List (Nat × Nat × Nat × Nat) := [(0, 8, 11, 18)]
theorem c_L_firstSum {w : zV} {N a c0 : Nat} {h : zH} (hN : a + 389 ≤ N) (hc : a + 389 ≤ c0) {σ : LgT} {p1 : Int32} {o : Nat → Int64} (n_o : zc N h c0 (.inl (w.2.2.1 1, 1, .inr (.inl o)))) {v : Int64} (hf : f_X8_firstSum σ p1 = some (.inr v)) : zMw w yL_firstSum cL_firstSum 4 hh_firstSum (zrx 9 177 1 6) N (lgH w a h σ) [.ref (zo w + a), .int p1, .ref (zo w + c0)] (some (.int 0)) (lgH w a (va_up h c0 (.inl (w.2.2.1 1, 1, .inr (.inl (vp_updL o 0 v))))) σ) := by
  refine zMw_of (by decide) rfl (fun X C htab => ?_)
  refine z_aload_n (pc' := 1) C 2 dL_firstSum_0 rfl rfl rfl ?_
  refine z_iconst (pc' := 2) C dL_firstSum_1 zk_iconst_0 rfl ?_
  refine z_aload_n (pc' := 3) C 0 dL_firstSum_2 rfl rfl rfl ?_
  refine z_iload_n (pc' := 4) C 1 dL_firstSum_3 rfl rfl rfl ?_
  refine z_cVr (pc' := 7) (st := [.int 0, .ref (zo w + c0)]) C (c_X8_firstSum hN hf) zy_X8_firstSum zw_776 zw_777 zw_778 (ci := 8) rfl (lg_0 hN) rfl rfl rfl rfl rfl dL_firstSum_4 rfl ?_
  refine z_last (pc' := 8) C (K := fun g => some g) (r := vp_updL o 0 v) rfl (lg_c rfl hc n_o) (fun g => lg_up rfl hc) dL_firstSum_7 rfl (fun g hg => ?_)
  cases hg
  refine z_goto C 14 dL_firstSum_8 rfl ?_
  refine z_iconst (pc' := 15) C dL_firstSum_14 zk_iconst_0 rfl ?_
  exact z_iret C rfl rfl dL_firstSum_15
theorem c_L_firstSum_1 {w : zV} {N a c0 : Nat} {h : zH} (hN : a + 389 ≤ N) (hc : a + 389 ≤ c0) {σ : LgT} {p1 : Int32} {o : Nat → Int64} (n_o : zc N h c0 (.inl (w.2.2.1 1, 1, .inr (.inl o)))) (hf : f_X8_firstSum σ p1 = some (.inl "java/lang/IndexOutOfBoundsException")) : zMw w yL_firstSum cL_firstSum 4 hh_firstSum (zrx 9 177 1 6) N (lgH w a h σ) [.ref (zo w + a), .int p1, .ref (zo w + c0)] (some (.int 1)) (lgH w a h σ) := by
  refine zMw_of (by decide) rfl (fun X C htab => ?_)
  refine z_aload_n (pc' := 1) C 2 dL_firstSum_0 rfl rfl rfl ?_
  refine z_iconst (pc' := 2) C dL_firstSum_1 zk_iconst_0 rfl ?_
  refine z_aload_n (pc' := 3) C 0 dL_firstSum_2 rfl rfl rfl ?_
  refine z_iload_n (pc' := 4) C 1 dL_firstSum_3 rfl rfl rfl ?_
  refine z_cVl (pc' := 11) (st := [.int 0, .ref (zo w + c0)]) C htab (c_X8_firstSum hN hf) [] [] ⟨0, 8, 11, 18⟩ rfl (fun z hz => absurd hz List.not_mem_nil) (by decide) (by decide) zw_702 (jE := 0) rfl zy_X8_firstSum zw_776 zw_777 zw_778 (ci := 8) rfl (lg_0 hN) rfl rfl rfl rfl rfl dL_firstSum_4 rfl (fun q => ?_)
  refine z_astore_n (pc' := 12) C _ dL_firstSum_11 rfl rfl rfl rfl ?_
  refine z_iconst (pc' := 13) C dL_firstSum_12 zk_iconst_1 rfl ?_
  exact z_iret C rfl rfl dL_firstSum_13
abbrev hh_presentSum : List (Nat × Nat × Nat × Nat) := [(0, 8, 11, 18)]
theorem c_L_presentSum {w : zV} {N a c0 : Nat} {h : zH} (hN : a + 389 ≤ N) (hc : a + 389 ≤ c0) {σ σ' : LgT} {p1 : Int32} {o : Nat → Int64} (n_o : zc N h c0 (.inl (w.2.2.1 1, 1, .inr (.inl o)))) (hG : PgW w N a h σ) {v : Int64} (hf : f_X8_presentSum σ p1 = some (.inr (v, σ'))) : zMw w yL_presentSum cL_presentSum 4 hh_presentSum (zrx 9 234 1 6) N (lgH w a h σ) [.ref (zo w + a), .int p1, .ref (zo w + c0)] (some (.int 0)) (lgH w a (va_up h c0 (.inl (w.2.2.1 1, 1, .inr (.inl (vp_updL o 0 v))))) σ') := by
  refine zMw_of (by decide) rfl (fun X C htab => ?_)
  refine z_aload_n (pc' := 1) C 2 dL_presentSum_0 rfl rfl rfl ?_
  refine z_iconst (pc' := 2) C dL_presentSum_1 zk_iconst_0 rfl ?_
  refine z_aload_n (pc' := 3) C 0 dL_presentSum_2 rfl rfl rfl ?_
  refine z_iload_n (pc' := 4) C 1 dL_presentSum_3 rfl rfl rfl ?_
  refine z_cVr (pc' := 7) (st := [.int 0, .ref (zo w + c0)]) C (c_X8_presentSum hN hG hf) zy_X8_presentSum zw_787 zw_788 zw_789 (ci := 8) rfl (lg_0 hN) rfl rfl rfl rfl rfl dL_presentSum_4 rfl ?_
  refine z_last (pc' := 8) C (K := fun g => some g) (r := vp_updL o 0 v) rfl (lg_c rfl hc n_o) (fun g => lg_up rfl hc) dL_presentSum_7 rfl (fun g hg => ?_)
  cases hg
  refine z_goto C 14 dL_presentSum_8 rfl ?_
  refine z_iconst (pc' := 15) C dL_presentSum_14 zk_iconst_0 rfl ?_
  exact z_iret C rfl rfl dL_presentSum_15
theorem c_L_presentSum_1 {w : zV} {N a c0 : Nat} {h : zH} (hN : a + 389 ≤ N) (hc : a + 389 ≤ c0) {σ σ' : LgT} {p1 : Int32} {o : Nat → Int64} (n_o : zc N h c0 (.inl (w.2.2.1 1, 1, .inr (.inl o)))) (hG : PgW w N a h σ) (hf : f_X8_presentSum σ p1 = some (.inl ("java/lang/IndexOutOfBoundsException", σ'))) : zMw w yL_presentSum cL_presentSum 4 hh_presentSum (zrx 9 234 1 6) N (lgH w a h σ) [.ref (zo w + a), .int p1, .ref (zo w + c0)] (some (.int 1)) (lgH w a h σ') := by
  refine zMw_of (by decide) rfl (fun X C htab => ?_)
  refine z_aload_n (pc' := 1) C 2 dL_presentSum_0 rfl rfl rfl ?_
  refine z_iconst (pc' := 2) C dL_presentSum_1 zk_iconst_0 rfl ?_
  refine z_aload_n (pc' := 3) C 0 dL_presentSum_2 rfl rfl rfl ?_
  refine z_iload_n (pc' := 4) C 1 dL_presentSum_3 rfl rfl rfl ?_
  refine z_cVl (pc' := 11) (st := [.int 0, .ref (zo w + c0)]) C htab (c_X8_presentSum hN hG hf) [] [] ⟨0, 8, 11, 18⟩ rfl (fun z hz => absurd hz List.not_mem_nil) (by decide) (by decide) zw_702 (jE := 0) rfl zy_X8_presentSum zw_787 zw_788 zw_789 (ci := 8) rfl (lg_0 hN) rfl rfl rfl rfl rfl dL_presentSum_4 rfl (fun q => ?_)
  refine z_astore_n (pc' := 12) C _ dL_presentSum_11 rfl rfl rfl rfl ?_
  refine z_iconst (pc' := 13) C dL_presentSum_12 zk_iconst_1 rfl ?_
  exact z_iret C rfl rfl dL_presentSum_13
abbrev hh_grossValue : List (Nat × Nat × Nat × Nat) := [(0, 8, 11, 18)]
theorem c_L_grossValue {w : zV} {N a c0 : Nat} {h : zH} (hN : a + 389 ≤ N) (hc : a + 389 ≤ c0) {σ σ' : LgT} {p1 : Int32} {o : Nat → Int64} (n_o : zc N h c0 (.inl (w.2.2.1 1, 1, .inr (.inl o)))) (hG : PgW w N a h σ) {v : Int64} (hf : f_X8_grossValue σ p1 = some (.inr (v, σ'))) : zMw w yL_grossValue cL_grossValue 4 hh_grossValue (zrx 9 234 1 6) N (lgH w a h σ) [.ref (zo w + a), .int p1, .ref (zo w + c0)] (some (.int 0)) (lgH w a (va_up h c0 (.inl (w.2.2.1 1, 1, .inr (.inl (vp_updL o 0 v))))) σ') := by
  refine zMw_of (by decide) rfl (fun X C htab => ?_)
  refine z_aload_n (pc' := 1) C 2 dL_grossValue_0 rfl rfl rfl ?_
  refine z_iconst (pc' := 2) C dL_grossValue_1 zk_iconst_0 rfl ?_
  refine z_aload_n (pc' := 3) C 0 dL_grossValue_2 rfl rfl rfl ?_
  refine z_iload_n (pc' := 4) C 1 dL_grossValue_3 rfl rfl rfl ?_
  refine z_cVr (pc' := 7) (st := [.int 0, .ref (zo w + c0)]) C (c_X8_grossValue hN hG hf) zy_X8_grossValue zw_802 zw_803 zw_804 (ci := 8) rfl (lg_0 hN) rfl rfl rfl rfl rfl dL_grossValue_4 rfl ?_
  refine z_last (pc' := 8) C (K := fun g => some g) (r := vp_updL o 0 v) rfl (lg_c rfl hc n_o) (fun g => lg_up rfl hc) dL_grossValue_7 rfl (fun g hg => ?_)
  cases hg
  refine z_goto C 14 dL_grossValue_8 rfl ?_
  refine z_iconst (pc' := 15) C dL_grossValue_14 zk_iconst_0 rfl ?_
  exact z_iret C rfl rfl dL_grossValue_15
theorem c_L_grossValue_1 {w : zV} {N a c0 : Nat} {h : zH} (hN : a + 389 ≤ N) (hc : a + 389 ≤ c0) {σ σ' : LgT} {p1 : Int32} {o : Nat → Int64} (n_o : zc N h c0 (.inl (w.2.2.1 1, 1, .inr (.inl o)))) (hG : PgW w N a h σ) (hf : f_X8_grossValue σ p1 = some (.inl ("java/lang/IndexOutOfBoundsException", σ'))) : zMw w yL_grossValue cL_grossValue 4 hh_grossValue (zrx 9 234 1 6) N (lgH w a h σ) [.ref (zo w + a), .int p1, .ref (zo w + c0)] (some (.int 1)) (lgH w a h σ') := by
  refine zMw_of (by decide) rfl (fun X C htab => ?_)
  refine z_aload_n (pc' := 1) C 2 dL_grossValue_0 rfl rfl rfl ?_
  refine z_iconst (pc' := 2) C dL_grossValue_1 zk_iconst_0 rfl ?_
  refine z_aload_n (pc' := 3) C 0 dL_grossValue_2 rfl rfl rfl ?_
  refine z_iload_n (pc' := 4) C 1 dL_grossValue_3 rfl rfl rfl ?_
  refine z_cVl (pc' := 11) (st := [.int 0, .ref (zo w + c0)]) C htab (c_X8_grossValue hN hG hf) [] [] ⟨0, 8, 11, 18⟩ rfl (fun z hz => absurd hz List.not_mem_nil) (by decide) (by decide) zw_702 (jE := 0) rfl zy_X8_grossValue zw_802 zw_803 zw_804 (ci := 8) rfl (lg_0 hN) rfl rfl rfl rfl rfl dL_grossValue_4 rfl (fun q => ?_)
  refine z_astore_n (pc' := 12) C _ dL_grossValue_11 rfl rfl rfl rfl ?_
  refine z_iconst (pc' := 13) C dL_grossValue_12 zk_iconst_1 rfl ?_
  exact z_iret C rfl rfl dL_grossValue_13
abbrev hh_retention : List (Nat × Nat × Nat × Nat) := [(0, 8, 11, 18)]
theorem c_L_retention {w : zV} {N a c0 : Nat} {h : zH} (hN : a + 389 ≤ N) (hc : a + 389 ≤ c0) {σ σ' : LgT} {p1 : Int32} {o : Nat → Int64} (n_o : zc N h c0 (.inl (w.2.2.1 1, 1, .inr (.inl o)))) (hG : PgW w N a h σ) {v : Int64} (hf : f_X8_retention σ p1 = some (.inr (v, σ'))) : zMw w yL_retention cL_retention 4 hh_retention (zrx 9 234 1 6) N (lgH w a h σ) [.ref (zo w + a), .int p1, .ref (zo w + c0)] (some (.int 0)) (lgH w a (va_up h c0 (.inl (w.2.2.1 1, 1, .inr (.inl (vp_updL o 0 v))))) σ') := by
  refine zMw_of (by decide) rfl (fun X C htab => ?_)
  refine z_aload_n (pc' := 1) C 2 dL_retention_0 rfl rfl rfl ?_
  refine z_iconst (pc' := 2) C dL_retention_1 zk_iconst_0 rfl ?_
  refine z_aload_n (pc' := 3) C 0 dL_retention_2 rfl rfl rfl ?_
  refine z_iload_n (pc' := 4) C 1 dL_retention_3 rfl rfl rfl ?_
  refine z_cVr (pc' := 7) (st := [.int 0, .ref (zo w + c0)]) C (c_X8_retention hN hG hf) zy_X8_retention zw_810 zw_811 zw_812 (ci := 8) rfl (lg_0 hN) rfl rfl rfl rfl rfl dL_retention_4 rfl ?_
  refine z_last (pc' := 8) C (K := fun g => some g) (r := vp_updL o 0 v) rfl (lg_c rfl hc n_o) (fun g => lg_up rfl hc) dL_retention_7 rfl (fun g hg => ?_)
  cases hg
  refine z_goto C 14 dL_retention_8 rfl ?_
  refine z_iconst (pc' := 15) C dL_retention_14 zk_iconst_0 rfl ?_
  exact z_iret C rfl rfl dL_retention_15
theorem c_L_retention_1 {w : zV} {N a c0 : Nat} {h : zH} (hN : a + 389 ≤ N) (hc : a + 389 ≤ c0) {σ σ' : LgT} {p1 : Int32} {o : Nat → Int64} (n_o : zc N h c0 (.inl (w.2.2.1 1, 1, .inr (.inl o)))) (hG : PgW w N a h σ) (hf : f_X8_retention σ p1 = some (.inl ("java/lang/IndexOutOfBoundsException", σ'))) : zMw w yL_retention cL_retention 4 hh_retention (zrx 9 234 1 6) N (lgH w a h σ) [.ref (zo w + a), .int p1, .ref (zo w + c0)] (some (.int 1)) (lgH w a h σ') := by
  refine zMw_of (by decide) rfl (fun X C htab => ?_)
  refine z_aload_n (pc' := 1) C 2 dL_retention_0 rfl rfl rfl ?_
  refine z_iconst (pc' := 2) C dL_retention_1 zk_iconst_0 rfl ?_
  refine z_aload_n (pc' := 3) C 0 dL_retention_2 rfl rfl rfl ?_
  refine z_iload_n (pc' := 4) C 1 dL_retention_3 rfl rfl rfl ?_
  refine z_cVl (pc' := 11) (st := [.int 0, .ref (zo w + c0)]) C htab (c_X8_retention hN hG hf) [] [] ⟨0, 8, 11, 18⟩ rfl (fun z hz => absurd hz List.not_mem_nil) (by decide) (by decide) zw_702 (jE := 0) rfl zy_X8_retention zw_810 zw_811 zw_812 (ci := 8) rfl (lg_0 hN) rfl rfl rfl rfl rfl dL_retention_4 rfl (fun q => ?_)
  refine z_astore_n (pc' := 12) C _ dL_retention_11 rfl rfl rfl rfl ?_
  refine z_iconst (pc' := 13) C dL_retention_12 zk_iconst_1 rfl ?_
  exact z_iret C rfl rfl dL_retention_13
abbrev hh_certified : List (Nat × Nat × Nat × Nat) := [(0, 8, 11, 18)]
theorem c_L_certified {w : zV} {N a c0 : Nat} {h : zH} (hN : a + 389 ≤ N) (hc : a + 389 ≤ c0) {σ : LgT} {p1 : Int32} {o : Nat → Int64} (n_o : zc N h c0 (.inl (w.2.2.1 1, 1, .inr (.inl o)))) {v : Int64} (hf : f_X8_certified σ p1 = some (.inr v)) : zMw w yL_certified cL_certified 4 hh_certified (zrx 9 177 1 6) N (lgH w a h σ) [.ref (zo w + a), .int p1, .ref (zo w + c0)] (some (.int 0)) (lgH w a (va_up h c0 (.inl (w.2.2.1 1, 1, .inr (.inl (vp_updL o 0 v))))) σ) := by
  refine zMw_of (by decide) rfl (fun X C htab => ?_)
  refine z_aload_n (pc' := 1) C 2 dL_certified_0 rfl rfl rfl ?_
  refine z_iconst (pc' := 2) C dL_certified_1 zk_iconst_0 rfl ?_
  refine z_aload_n (pc' := 3) C 0 dL_certified_2 rfl rfl rfl ?_
  refine z_iload_n (pc' := 4) C 1 dL_certified_3 rfl rfl rfl ?_
  refine z_cVr (pc' := 7) (st := [.int 0, .ref (zo w + c0)]) C (c_X8_certified hN hf) zy_X8_certified zw_824 zw_825 zw_826 (ci := 8) rfl (lg_0 hN) rfl rfl rfl rfl rfl dL_certified_4 rfl ?_
  refine z_last (pc' := 8) C (K := fun g => some g) (r := vp_updL o 0 v) rfl (lg_c rfl hc n_o) (fun g => lg_up rfl hc) dL_certified_7 rfl (fun g hg => ?_)
  cases hg
  refine z_goto C 14 dL_certified_8 rfl ?_
  refine z_iconst (pc' := 15) C dL_certified_14 zk_iconst_0 rfl ?_
  exact z_iret C rfl rfl dL_certified_15
theorem c_L_certified_1 {w : zV} {N a c0 : Nat} {h : zH} (hN : a + 389 ≤ N) (hc : a + 389 ≤ c0) {σ : LgT} {p1 : Int32} {o : Nat → Int64} (n_o : zc N h c0 (.inl (w.2.2.1 1, 1, .inr (.inl o)))) (hf : f_X8_certified σ p1 = some (.inl "java/lang/IndexOutOfBoundsException")) : zMw w yL_certified cL_certified 4 hh_certified (zrx 9 177 1 6) N (lgH w a h σ) [.ref (zo w + a), .int p1, .ref (zo w + c0)] (some (.int 1)) (lgH w a h σ) := by
  refine zMw_of (by decide) rfl (fun X C htab => ?_)
  refine z_aload_n (pc' := 1) C 2 dL_certified_0 rfl rfl rfl ?_
  refine z_iconst (pc' := 2) C dL_certified_1 zk_iconst_0 rfl ?_
  refine z_aload_n (pc' := 3) C 0 dL_certified_2 rfl rfl rfl ?_
  refine z_iload_n (pc' := 4) C 1 dL_certified_3 rfl rfl rfl ?_
  refine z_cVl (pc' := 11) (st := [.int 0, .ref (zo w + c0)]) C htab (c_X8_certified hN hf) [] [] ⟨0, 8, 11, 18⟩ rfl (fun z hz => absurd hz List.not_mem_nil) (by decide) (by decide) zw_702 (jE := 0) rfl zy_X8_certified zw_824 zw_825 zw_826 (ci := 8) rfl (lg_0 hN) rfl rfl rfl rfl rfl dL_certified_4 rfl (fun q => ?_)
  refine z_astore_n (pc' := 12) C _ dL_certified_11 rfl rfl rfl rfl ?_
  refine z_iconst (pc' := 13) C dL_certified_12 zk_iconst_1 rfl ?_
  exact z_iret C rfl rfl dL_certified_13
abbrev hh_unpaid : List (Nat × Nat × Nat × Nat) := [(0, 8, 11, 18)]
theorem c_L_unpaid {w : zV} {N a c0 : Nat} {h : zH} (hN : a + 389 ≤ N) (hc : a + 389 ≤ c0) {σ : LgT} {p1 : Int32} {o : Nat → Int64} (n_o : zc N h c0 (.inl (w.2.2.1 1, 1, .inr (.inl o)))) {v : Int64} (hf : f_X8_unpaid σ p1 = some (.inr v)) : zMw w yL_unpaid cL_unpaid 4 hh_unpaid (zrx 9 177 1 6) N (lgH w a h σ) [.ref (zo w + a), .int p1, .ref (zo w + c0)] (some (.int 0)) (lgH w a (va_up h c0 (.inl (w.2.2.1 1, 1, .inr (.inl (vp_updL o 0 v))))) σ) := by
  refine zMw_of (by decide) rfl (fun X C htab => ?_)
  refine z_aload_n (pc' := 1) C 2 dL_unpaid_0 rfl rfl rfl ?_
  refine z_iconst (pc' := 2) C dL_unpaid_1 zk_iconst_0 rfl ?_
  refine z_aload_n (pc' := 3) C 0 dL_unpaid_2 rfl rfl rfl ?_
  refine z_iload_n (pc' := 4) C 1 dL_unpaid_3 rfl rfl rfl ?_
  refine z_cVr (pc' := 7) (st := [.int 0, .ref (zo w + c0)]) C (c_X8_unpaid hN hf) zy_X8_unpaid zw_832 zw_833 zw_834 (ci := 8) rfl (lg_0 hN) rfl rfl rfl rfl rfl dL_unpaid_4 rfl ?_
  refine z_last (pc' := 8) C (K := fun g => some g) (r := vp_updL o 0 v) rfl (lg_c rfl hc n_o) (fun g => lg_up rfl hc) dL_unpaid_7 rfl (fun g hg => ?_)
  cases hg
  refine z_goto C 14 dL_unpaid_8 rfl ?_
  refine z_iconst (pc' := 15) C dL_unpaid_14 zk_iconst_0 rfl ?_
  exact z_iret C rfl rfl dL_unpaid_15
theorem c_L_unpaid_1 {w : zV} {N a c0 : Nat} {h : zH} (hN : a + 389 ≤ N) (hc : a + 389 ≤ c0) {σ : LgT} {p1 : Int32} {o : Nat → Int64} (n_o : zc N h c0 (.inl (w.2.2.1 1, 1, .inr (.inl o)))) (hf : f_X8_unpaid σ p1 = some (.inl "java/lang/IndexOutOfBoundsException")) : zMw w yL_unpaid cL_unpaid 4 hh_unpaid (zrx 9 177 1 6) N (lgH w a h σ) [.ref (zo w + a), .int p1, .ref (zo w + c0)] (some (.int 1)) (lgH w a h σ) := by
  refine zMw_of (by decide) rfl (fun X C htab => ?_)
  refine z_aload_n (pc' := 1) C 2 dL_unpaid_0 rfl rfl rfl ?_
  refine z_iconst (pc' := 2) C dL_unpaid_1 zk_iconst_0 rfl ?_
  refine z_aload_n (pc' := 3) C 0 dL_unpaid_2 rfl rfl rfl ?_
  refine z_iload_n (pc' := 4) C 1 dL_unpaid_3 rfl rfl rfl ?_
  refine z_cVl (pc' := 11) (st := [.int 0, .ref (zo w + c0)]) C htab (c_X8_unpaid hN hf) [] [] ⟨0, 8, 11, 18⟩ rfl (fun z hz => absurd hz List.not_mem_nil) (by decide) (by decide) zw_702 (jE := 0) rfl zy_X8_unpaid zw_832 zw_833 zw_834 (ci := 8) rfl (lg_0 hN) rfl rfl rfl rfl rfl dL_unpaid_4 rfl (fun q => ?_)
  refine z_astore_n (pc' := 12) C _ dL_unpaid_11 rfl rfl rfl rfl ?_
  refine z_iconst (pc' := 13) C dL_unpaid_12 zk_iconst_1 rfl ?_
  exact z_iret C rfl rfl dL_unpaid_13
abbrev hh_overdue : List (Nat × Nat × Nat × Nat) := [(0, 8, 11, 18)]
theorem c_L_overdue {w : zV} {N a c0 : Nat} {h : zH} (hN : a + 389 ≤ N) (hc : a + 389 ≤ c0) {σ : LgT} {p1 : Int32} {o : Nat → Int64} (n_o : zc N h c0 (.inl (w.2.2.1 1, 1, .inr (.inl o)))) {v : Int64} (hf : f_X8_overdue σ p1 = some (.inr v)) : zMw w yL_overdue cL_overdue 4 hh_overdue (zrx 9 177 1 6) N (lgH w a h σ) [.ref (zo w + a), .int p1, .ref (zo w + c0)] (some (.int 0)) (lgH w a (va_up h c0 (.inl (w.2.2.1 1, 1, .inr (.inl (vp_updL o 0 v))))) σ) := by
  refine zMw_of (by decide) rfl (fun X C htab => ?_)
  refine z_aload_n (pc' := 1) C 2 dL_overdue_0 rfl rfl rfl ?_
  refine z_iconst (pc' := 2) C dL_overdue_1 zk_iconst_0 rfl ?_
  refine z_aload_n (pc' := 3) C 0 dL_overdue_2 rfl rfl rfl ?_
  refine z_iload_n (pc' := 4) C 1 dL_overdue_3 rfl rfl rfl ?_
  refine z_cVr (pc' := 7) (st := [.int 0, .ref (zo w + c0)]) C (c_X8_overdue hN hf) zy_X8_overdue zw_840 zw_841 zw_842 (ci := 8) rfl (lg_0 hN) rfl rfl rfl rfl rfl dL_overdue_4 rfl ?_
  refine z_last (pc' := 8) C (K := fun g => some g) (r := vp_updL o 0 v) rfl (lg_c rfl hc n_o) (fun g => lg_up rfl hc) dL_overdue_7 rfl (fun g hg => ?_)
  cases hg
  refine z_goto C 14 dL_overdue_8 rfl ?_
  refine z_iconst (pc' := 15) C dL_overdue_14 zk_iconst_0 rfl ?_
  exact z_iret C rfl rfl dL_overdue_15
theorem c_L_overdue_1 {w : zV} {N a c0 : Nat} {h : zH} (hN : a + 389 ≤ N) (hc : a + 389 ≤ c0) {σ : LgT} {p1 : Int32} {o : Nat → Int64} (n_o : zc N h c0 (.inl (w.2.2.1 1, 1, .inr (.inl o)))) (hf : f_X8_overdue σ p1 = some (.inl "java/lang/IndexOutOfBoundsException")) : zMw w yL_overdue cL_overdue 4 hh_overdue (zrx 9 177 1 6) N (lgH w a h σ) [.ref (zo w + a), .int p1, .ref (zo w + c0)] (some (.int 1)) (lgH w a h σ) := by
  refine zMw_of (by decide) rfl (fun X C htab => ?_)
  refine z_aload_n (pc' := 1) C 2 dL_overdue_0 rfl rfl rfl ?_
  refine z_iconst (pc' := 2) C dL_overdue_1 zk_iconst_0 rfl ?_
  refine z_aload_n (pc' := 3) C 0 dL_overdue_2 rfl rfl rfl ?_
  refine z_iload_n (pc' := 4) C 1 dL_overdue_3 rfl rfl rfl ?_
  refine z_cVl (pc' := 11) (st := [.int 0, .ref (zo w + c0)]) C htab (c_X8_overdue hN hf) [] [] ⟨0, 8, 11, 18⟩ rfl (fun z hz => absurd hz List.not_mem_nil) (by decide) (by decide) zw_702 (jE := 0) rfl zy_X8_overdue zw_840 zw_841 zw_842 (ci := 8) rfl (lg_0 hN) rfl rfl rfl rfl rfl dL_overdue_4 rfl (fun q => ?_)
  refine z_astore_n (pc' := 12) C _ dL_overdue_11 rfl rfl rfl rfl ?_
  refine z_iconst (pc' := 13) C dL_overdue_12 zk_iconst_1 rfl ?_
  exact z_iret C rfl rfl dL_overdue_13
abbrev hh_stage : List (Nat × Nat × Nat × Nat) := [(0, 9, 12, 18)]
theorem c_L_stage {w : zV} {N a c0 : Nat} {h : zH} (hN : a + 389 ≤ N) (hc : a + 389 ≤ c0) {σ : LgT} {p1 : Int32} {o : Nat → Int64} (n_o : zc N h c0 (.inl (w.2.2.1 1, 1, .inr (.inl o)))) {v : Int32} (hf : f_X8_stage σ p1 = some (.inr v)) : zMw w yL_stage cL_stage 4 hh_stage (zrx 9 177 1 6) N (lgH w a h σ) [.ref (zo w + a), .int p1, .ref (zo w + c0)] (some (.int 0)) (lgH w a (va_up h c0 (.inl (w.2.2.1 1, 1, .inr (.inl (vp_updL o 0 v.toInt64))))) σ) := by
  refine zMw_of (by decide) rfl (fun X C htab => ?_)
  refine z_aload_n (pc' := 1) C 2 dL_stage_0 rfl rfl rfl ?_
  refine z_iconst (pc' := 2) C dL_stage_1 zk_iconst_0 rfl ?_
  refine z_aload_n (pc' := 3) C 0 dL_stage_2 rfl rfl rfl ?_
  refine z_iload_n (pc' := 4) C 1 dL_stage_3 rfl rfl rfl ?_
  refine z_cVr (pc' := 7) (st := [.int 0, .ref (zo w + c0)]) C (c_X8_stage hN hf) zy_X8_stage zw_855 zw_856 zw_857 (ci := 8) rfl (lg_0 hN) rfl rfl rfl rfl rfl dL_stage_4 rfl ?_
  refine z_i2l (pc' := 8) C dL_stage_7 rfl ?_
  refine z_last (pc' := 9) C (K := fun g => some g) (r := vp_updL o 0 v.toInt64) rfl (lg_c rfl hc n_o) (fun g => lg_up rfl hc) dL_stage_8 rfl (fun g hg => ?_)
  cases hg
  refine z_goto C 15 dL_stage_9 rfl ?_
  refine z_iconst (pc' := 16) C dL_stage_15 zk_iconst_0 rfl ?_
  exact z_iret C rfl rfl dL_stage_16
theorem c_L_stage_1 {w : zV} {N a c0 : Nat} {h : zH} (hN : a + 389 ≤ N) (hc : a + 389 ≤ c0) {σ : LgT} {p1 : Int32} {o : Nat → Int64} (n_o : zc N h c0 (.inl (w.2.2.1 1, 1, .inr (.inl o)))) (hf : f_X8_stage σ p1 = some (.inl "java/lang/IndexOutOfBoundsException")) : zMw w yL_stage cL_stage 4 hh_stage (zrx 9 177 1 6) N (lgH w a h σ) [.ref (zo w + a), .int p1, .ref (zo w + c0)] (some (.int 1)) (lgH w a h σ) := by
  refine zMw_of (by decide) rfl (fun X C htab => ?_)
  refine z_aload_n (pc' := 1) C 2 dL_stage_0 rfl rfl rfl ?_
  refine z_iconst (pc' := 2) C dL_stage_1 zk_iconst_0 rfl ?_
  refine z_aload_n (pc' := 3) C 0 dL_stage_2 rfl rfl rfl ?_
  refine z_iload_n (pc' := 4) C 1 dL_stage_3 rfl rfl rfl ?_
  refine z_cVl (pc' := 12) (st := [.int 0, .ref (zo w + c0)]) C htab (c_X8_stage hN hf) [] [] ⟨0, 9, 12, 18⟩ rfl (fun z hz => absurd hz List.not_mem_nil) (by decide) (by decide) zw_702 (jE := 0) rfl zy_X8_stage zw_855 zw_856 zw_857 (ci := 8) rfl (lg_0 hN) rfl rfl rfl rfl rfl dL_stage_4 rfl (fun q => ?_)
  refine z_astore_n (pc' := 13) C _ dL_stage_12 rfl rfl rfl rfl ?_
  refine z_iconst (pc' := 14) C dL_stage_13 zk_iconst_1 rfl ?_
  exact z_iret C rfl rfl dL_stage_14
abbrev hh_margin : List (Nat × Nat × Nat × Nat) := [(0, 8, 11, 18)]
theorem c_L_margin {w : zV} {N a c0 : Nat} {h : zH} (hN : a + 389 ≤ N) (hc : a + 389 ≤ c0) {σ σ' : LgT} {p1 : Int32} {o : Nat → Int64} (n_o : zc N h c0 (.inl (w.2.2.1 1, 1, .inr (.inl o)))) (hG : PgW w N a h σ) {v : Int64} (hf : f_X8_margin σ p1 = some (.inr (v, σ'))) : zMw w yL_margin cL_margin 4 hh_margin (zrx 9 266 1 6) N (lgH w a h σ) [.ref (zo w + a), .int p1, .ref (zo w + c0)] (some (.int 0)) (lgH w a (va_up h c0 (.inl (w.2.2.1 1, 1, .inr (.inl (vp_updL o 0 v))))) σ') := by
  refine zMw_of (by decide) rfl (fun X C htab => ?_)
  refine z_aload_n (pc' := 1) C 2 dL_margin_0 rfl rfl rfl ?_
  refine z_iconst (pc' := 2) C dL_margin_1 zk_iconst_0 rfl ?_
  refine z_aload_n (pc' := 3) C 0 dL_margin_2 rfl rfl rfl ?_
  refine z_iload_n (pc' := 4) C 1 dL_margin_3 rfl rfl rfl ?_
  refine z_cVr (pc' := 7) (st := [.int 0, .ref (zo w + c0)]) C (c_X8_margin hN hG hf) zy_X8_margin zw_862 zw_863 zw_864 (ci := 8) rfl (lg_0 hN) rfl rfl rfl rfl rfl dL_margin_4 rfl ?_
  refine z_last (pc' := 8) C (K := fun g => some g) (r := vp_updL o 0 v) rfl (lg_c rfl hc n_o) (fun g => lg_up rfl hc) dL_margin_7 rfl (fun g hg => ?_)
  cases hg
  refine z_goto C 14 dL_margin_8 rfl ?_
  refine z_iconst (pc' := 15) C dL_margin_14 zk_iconst_0 rfl ?_
  exact z_iret C rfl rfl dL_margin_15
theorem c_L_margin_1 {w : zV} {N a c0 : Nat} {h : zH} (hN : a + 389 ≤ N) (hc : a + 389 ≤ c0) {σ σ' : LgT} {p1 : Int32} {o : Nat → Int64} (n_o : zc N h c0 (.inl (w.2.2.1 1, 1, .inr (.inl o)))) (hG : PgW w N a h σ) (hf : f_X8_margin σ p1 = some (.inl ("java/lang/IndexOutOfBoundsException", σ'))) : zMw w yL_margin cL_margin 4 hh_margin (zrx 9 266 1 6) N (lgH w a h σ) [.ref (zo w + a), .int p1, .ref (zo w + c0)] (some (.int 1)) (lgH w a h σ') := by
  refine zMw_of (by decide) rfl (fun X C htab => ?_)
  refine z_aload_n (pc' := 1) C 2 dL_margin_0 rfl rfl rfl ?_
  refine z_iconst (pc' := 2) C dL_margin_1 zk_iconst_0 rfl ?_
  refine z_aload_n (pc' := 3) C 0 dL_margin_2 rfl rfl rfl ?_
  refine z_iload_n (pc' := 4) C 1 dL_margin_3 rfl rfl rfl ?_
  refine z_cVl (pc' := 11) (st := [.int 0, .ref (zo w + c0)]) C htab (c_X8_margin hN hG hf) [] [] ⟨0, 8, 11, 18⟩ rfl (fun z hz => absurd hz List.not_mem_nil) (by decide) (by decide) zw_702 (jE := 0) rfl zy_X8_margin zw_862 zw_863 zw_864 (ci := 8) rfl (lg_0 hN) rfl rfl rfl rfl rfl dL_margin_4 rfl (fun q => ?_)
  refine z_astore_n (pc' := 12) C _ dL_margin_11 rfl rfl rfl rfl ?_
  refine z_iconst (pc' := 13) C dL_margin_12 zk_iconst_1 rfl ?_
  exact z_iret C rfl rfl dL_margin_13
abbrev hh_account : List (Nat × Nat × Nat × Nat) := [(0, 8, 11, 18)]
theorem c_L_account {w : zV} {N a c0 : Nat} {h : zH} (hN : a + 389 ≤ N) (hc : a + 389 ≤ c0) {σ : LgT} {p1 : Int32} {o : Nat → Int64} (n_o : zc N h c0 (.inl (w.2.2.1 1, 1, .inr (.inl o)))) {v : Int64} (hf : f_X8_account σ p1 = some (.inr v)) : zMw w yL_account cL_account 4 hh_account (zrx 8 148 1 6) N (lgH w a h σ) [.ref (zo w + a), .int p1, .ref (zo w + c0)] (some (.int 0)) (lgH w a (va_up h c0 (.inl (w.2.2.1 1, 1, .inr (.inl (vp_updL o 0 v))))) σ) := by
  refine zMw_of (by decide) rfl (fun X C htab => ?_)
  refine z_aload_n (pc' := 1) C 2 dL_account_0 rfl rfl rfl ?_
  refine z_iconst (pc' := 2) C dL_account_1 zk_iconst_0 rfl ?_
  refine z_aload_n (pc' := 3) C 0 dL_account_2 rfl rfl rfl ?_
  refine z_iload_n (pc' := 4) C 1 dL_account_3 rfl rfl rfl ?_
  refine z_cVr (pc' := 7) (st := [.int 0, .ref (zo w + c0)]) C (c_X8_account hN hf) zy_X8_account zw_874 zw_875 zw_876 (ci := 8) rfl (lg_0 hN) rfl rfl rfl rfl rfl dL_account_4 rfl ?_
  refine z_last (pc' := 8) C (K := fun g => some g) (r := vp_updL o 0 v) rfl (lg_c rfl hc n_o) (fun g => lg_up rfl hc) dL_account_7 rfl (fun g hg => ?_)
  cases hg
  refine z_goto C 14 dL_account_8 rfl ?_
  refine z_iconst (pc' := 15) C dL_account_14 zk_iconst_0 rfl ?_
  exact z_iret C rfl rfl dL_account_15
theorem c_L_account_1 {w : zV} {N a c0 : Nat} {h : zH} (hN : a + 389 ≤ N) (hc : a + 389 ≤ c0) {σ : LgT} {p1 : Int32} {o : Nat → Int64} (n_o : zc N h c0 (.inl (w.2.2.1 1, 1, .inr (.inl o)))) (hf : f_X8_account σ p1 = some (.inl "java/lang/IndexOutOfBoundsException")) : zMw w yL_account cL_account 4 hh_account (zrx 8 148 1 6) N (lgH w a h σ) [.ref (zo w + a), .int p1, .ref (zo w + c0)] (some (.int 1)) (lgH w a h σ) := by
  refine zMw_of (by decide) rfl (fun X C htab => ?_)
  refine z_aload_n (pc' := 1) C 2 dL_account_0 rfl rfl rfl ?_
  refine z_iconst (pc' := 2) C dL_account_1 zk_iconst_0 rfl ?_
  refine z_aload_n (pc' := 3) C 0 dL_account_2 rfl rfl rfl ?_
  refine z_iload_n (pc' := 4) C 1 dL_account_3 rfl rfl rfl ?_
  refine z_cVl (pc' := 11) (st := [.int 0, .ref (zo w + c0)]) C htab (c_X8_account hN hf) [] [] ⟨0, 8, 11, 18⟩ rfl (fun z hz => absurd hz List.not_mem_nil) (by decide) (by decide) zw_702 (jE := 0) rfl zy_X8_account zw_874 zw_875 zw_876 (ci := 8) rfl (lg_0 hN) rfl rfl rfl rfl rfl dL_account_4 rfl (fun q => ?_)
  refine z_astore_n (pc' := 12) C _ dL_account_11 rfl rfl rfl rfl ?_
  refine z_iconst (pc' := 13) C dL_account_12 zk_iconst_1 rfl ?_
  exact z_iret C rfl rfl dL_account_13
abbrev hh_certificateContract : List (Nat × Nat × Nat × Nat) := [(0, 9, 12, 18)]
theorem c_L_certificateContract {w : zV} {N a c0 : Nat} {h : zH} (hN : a + 389 ≤ N) (hc : a + 389 ≤ c0) {σ : LgT} {p1 : Int32} {o : Nat → Int64} (n_o : zc N h c0 (.inl (w.2.2.1 1, 1, .inr (.inl o)))) {v : Int32} (hf : f_X8_certificateContract σ p1 = some (.inr v)) : zMw w yL_certificateContract cL_certificateContract 4 hh_certificateContract (zrx 9 177 1 6) N (lgH w a h σ) [.ref (zo w + a), .int p1, .ref (zo w + c0)] (some (.int 0)) (lgH w a (va_up h c0 (.inl (w.2.2.1 1, 1, .inr (.inl (vp_updL o 0 v.toInt64))))) σ) := by
  refine zMw_of (by decide) rfl (fun X C htab => ?_)
  refine z_aload_n (pc' := 1) C 2 dL_certificateContract_0 rfl rfl rfl ?_
  refine z_iconst (pc' := 2) C dL_certificateContract_1 zk_iconst_0 rfl ?_
  refine z_aload_n (pc' := 3) C 0 dL_certificateContract_2 rfl rfl rfl ?_
  refine z_iload_n (pc' := 4) C 1 dL_certificateContract_3 rfl rfl rfl ?_
  refine z_cVr (pc' := 7) (st := [.int 0, .ref (zo w + c0)]) C (c_X8_certificateContract hN hf) zy_X8_certificateContract zw_881 zw_882 zw_883 (ci := 8) rfl (lg_0 hN) rfl rfl rfl rfl rfl dL_certificateContract_4 rfl ?_
  refine z_i2l (pc' := 8) C dL_certificateContract_7 rfl ?_
  refine z_last (pc' := 9) C (K := fun g => some g) (r := vp_updL o 0 v.toInt64) rfl (lg_c rfl hc n_o) (fun g => lg_up rfl hc) dL_certificateContract_8 rfl (fun g hg => ?_)
  cases hg
  refine z_goto C 15 dL_certificateContract_9 rfl ?_
  refine z_iconst (pc' := 16) C dL_certificateContract_15 zk_iconst_0 rfl ?_
  exact z_iret C rfl rfl dL_certificateContract_16
theorem c_L_certificateContract_1 {w : zV} {N a c0 : Nat} {h : zH} (hN : a + 389 ≤ N) (hc : a + 389 ≤ c0) {σ : LgT} {p1 : Int32} {o : Nat → Int64} (n_o : zc N h c0 (.inl (w.2.2.1 1, 1, .inr (.inl o)))) (hf : f_X8_certificateContract σ p1 = some (.inl "java/lang/IndexOutOfBoundsException")) : zMw w yL_certificateContract cL_certificateContract 4 hh_certificateContract (zrx 9 177 1 6) N (lgH w a h σ) [.ref (zo w + a), .int p1, .ref (zo w + c0)] (some (.int 1)) (lgH w a h σ) := by
  refine zMw_of (by decide) rfl (fun X C htab => ?_)
  refine z_aload_n (pc' := 1) C 2 dL_certificateContract_0 rfl rfl rfl ?_
  refine z_iconst (pc' := 2) C dL_certificateContract_1 zk_iconst_0 rfl ?_
  refine z_aload_n (pc' := 3) C 0 dL_certificateContract_2 rfl rfl rfl ?_
  refine z_iload_n (pc' := 4) C 1 dL_certificateContract_3 rfl rfl rfl ?_
  refine z_cVl (pc' := 12) (st := [.int 0, .ref (zo w + c0)]) C htab (c_X8_certificateContract hN hf) [] [] ⟨0, 9, 12, 18⟩ rfl (fun z hz => absurd hz List.not_mem_nil) (by decide) (by decide) zw_702 (jE := 0) rfl zy_X8_certificateContract zw_881 zw_882 zw_883 (ci := 8) rfl (lg_0 hN) rfl rfl rfl rfl rfl dL_certificateContract_4 rfl (fun q => ?_)
  refine z_astore_n (pc' := 13) C _ dL_certificateContract_12 rfl rfl rfl rfl ?_
  refine z_iconst (pc' := 14) C dL_certificateContract_13 zk_iconst_1 rfl ?_
  exact z_iret C rfl rfl dL_certificateContract_14
abbrev hh_amount : List (Nat × Nat × Nat × Nat) := [(0, 8, 11, 18)]
theorem c_L_amount {w : zV} {N a c0 : Nat} {h : zH} (hN : a + 389 ≤ N) (hc : a + 389 ≤ c0) {σ : LgT} {p1 : Int32} {o : Nat → Int64} (n_o : zc N h c0 (.inl (w.2.2.1 1, 1, .inr (.inl o)))) {v : Int64} (hf : f_X8_amount σ p1 = some (.inr v)) : zMw w yL_amount cL_amount 4 hh_amount (zrx 9 177 1 6) N (lgH w a h σ) [.ref (zo w + a), .int p1, .ref (zo w + c0)] (some (.int 0)) (lgH w a (va_up h c0 (.inl (w.2.2.1 1, 1, .inr (.inl (vp_updL o 0 v))))) σ) := by
  refine zMw_of (by decide) rfl (fun X C htab => ?_)
  refine z_aload_n (pc' := 1) C 2 dL_amount_0 rfl rfl rfl ?_
  refine z_iconst (pc' := 2) C dL_amount_1 zk_iconst_0 rfl ?_
  refine z_aload_n (pc' := 3) C 0 dL_amount_2 rfl rfl rfl ?_
  refine z_iload_n (pc' := 4) C 1 dL_amount_3 rfl rfl rfl ?_
  refine z_cVr (pc' := 7) (st := [.int 0, .ref (zo w + c0)]) C (c_X8_amount hN hf) zy_X8_amount zw_892 zw_893 zw_894 (ci := 8) rfl (lg_0 hN) rfl rfl rfl rfl rfl dL_amount_4 rfl ?_
  refine z_last (pc' := 8) C (K := fun g => some g) (r := vp_updL o 0 v) rfl (lg_c rfl hc n_o) (fun g => lg_up rfl hc) dL_amount_7 rfl (fun g hg => ?_)
  cases hg
  refine z_goto C 14 dL_amount_8 rfl ?_
  refine z_iconst (pc' := 15) C dL_amount_14 zk_iconst_0 rfl ?_
  exact z_iret C rfl rfl dL_amount_15
theorem c_L_amount_1 {w : zV} {N a c0 : Nat} {h : zH} (hN : a + 389 ≤ N) (hc : a + 389 ≤ c0) {σ : LgT} {p1 : Int32} {o : Nat → Int64} (n_o : zc N h c0 (.inl (w.2.2.1 1, 1, .inr (.inl o)))) (hf : f_X8_amount σ p1 = some (.inl "java/lang/IndexOutOfBoundsException")) : zMw w yL_amount cL_amount 4 hh_amount (zrx 9 177 1 6) N (lgH w a h σ) [.ref (zo w + a), .int p1, .ref (zo w + c0)] (some (.int 1)) (lgH w a h σ) := by
  refine zMw_of (by decide) rfl (fun X C htab => ?_)
  refine z_aload_n (pc' := 1) C 2 dL_amount_0 rfl rfl rfl ?_
  refine z_iconst (pc' := 2) C dL_amount_1 zk_iconst_0 rfl ?_
  refine z_aload_n (pc' := 3) C 0 dL_amount_2 rfl rfl rfl ?_
  refine z_iload_n (pc' := 4) C 1 dL_amount_3 rfl rfl rfl ?_
  refine z_cVl (pc' := 11) (st := [.int 0, .ref (zo w + c0)]) C htab (c_X8_amount hN hf) [] [] ⟨0, 8, 11, 18⟩ rfl (fun z hz => absurd hz List.not_mem_nil) (by decide) (by decide) zw_702 (jE := 0) rfl zy_X8_amount zw_892 zw_893 zw_894 (ci := 8) rfl (lg_0 hN) rfl rfl rfl rfl rfl dL_amount_4 rfl (fun q => ?_)
  refine z_astore_n (pc' := 12) C _ dL_amount_11 rfl rfl rfl rfl ?_
  refine z_iconst (pc' := 13) C dL_amount_12 zk_iconst_1 rfl ?_
  exact z_iret C rfl rfl dL_amount_13
abbrev hh_openAmount : List (Nat × Nat × Nat × Nat) := [(0, 8, 11, 18)]
theorem c_L_openAmount {w : zV} {N a c0 : Nat} {h : zH} (hN : a + 389 ≤ N) (hc : a + 389 ≤ c0) {σ : LgT} {p1 : Int32} {o : Nat → Int64} (n_o : zc N h c0 (.inl (w.2.2.1 1, 1, .inr (.inl o)))) {v : Int64} (hf : f_X8_openAmount σ p1 = some (.inr v)) : zMw w yL_openAmount cL_openAmount 4 hh_openAmount (zrx 9 177 1 6) N (lgH w a h σ) [.ref (zo w + a), .int p1, .ref (zo w + c0)] (some (.int 0)) (lgH w a (va_up h c0 (.inl (w.2.2.1 1, 1, .inr (.inl (vp_updL o 0 v))))) σ) := by
  refine zMw_of (by decide) rfl (fun X C htab => ?_)
  refine z_aload_n (pc' := 1) C 2 dL_openAmount_0 rfl rfl rfl ?_
  refine z_iconst (pc' := 2) C dL_openAmount_1 zk_iconst_0 rfl ?_
  refine z_aload_n (pc' := 3) C 0 dL_openAmount_2 rfl rfl rfl ?_
  refine z_iload_n (pc' := 4) C 1 dL_openAmount_3 rfl rfl rfl ?_
  refine z_cVr (pc' := 7) (st := [.int 0, .ref (zo w + c0)]) C (c_X8_openAmount hN hf) zy_X8_openAmount zw_899 zw_900 zw_901 (ci := 8) rfl (lg_0 hN) rfl rfl rfl rfl rfl dL_openAmount_4 rfl ?_
  refine z_last (pc' := 8) C (K := fun g => some g) (r := vp_updL o 0 v) rfl (lg_c rfl hc n_o) (fun g => lg_up rfl hc) dL_openAmount_7 rfl (fun g hg => ?_)
  cases hg
  refine z_goto C 14 dL_openAmount_8 rfl ?_
  refine z_iconst (pc' := 15) C dL_openAmount_14 zk_iconst_0 rfl ?_
  exact z_iret C rfl rfl dL_openAmount_15
theorem c_L_openAmount_1 {w : zV} {N a c0 : Nat} {h : zH} (hN : a + 389 ≤ N) (hc : a + 389 ≤ c0) {σ : LgT} {p1 : Int32} {o : Nat → Int64} (n_o : zc N h c0 (.inl (w.2.2.1 1, 1, .inr (.inl o)))) (hf : f_X8_openAmount σ p1 = some (.inl "java/lang/IndexOutOfBoundsException")) : zMw w yL_openAmount cL_openAmount 4 hh_openAmount (zrx 9 177 1 6) N (lgH w a h σ) [.ref (zo w + a), .int p1, .ref (zo w + c0)] (some (.int 1)) (lgH w a h σ) := by
  refine zMw_of (by decide) rfl (fun X C htab => ?_)
  refine z_aload_n (pc' := 1) C 2 dL_openAmount_0 rfl rfl rfl ?_
  refine z_iconst (pc' := 2) C dL_openAmount_1 zk_iconst_0 rfl ?_
  refine z_aload_n (pc' := 3) C 0 dL_openAmount_2 rfl rfl rfl ?_
  refine z_iload_n (pc' := 4) C 1 dL_openAmount_3 rfl rfl rfl ?_
  refine z_cVl (pc' := 11) (st := [.int 0, .ref (zo w + c0)]) C htab (c_X8_openAmount hN hf) [] [] ⟨0, 8, 11, 18⟩ rfl (fun z hz => absurd hz List.not_mem_nil) (by decide) (by decide) zw_702 (jE := 0) rfl zy_X8_openAmount zw_899 zw_900 zw_901 (ci := 8) rfl (lg_0 hN) rfl rfl rfl rfl rfl dL_openAmount_4 rfl (fun q => ?_)
  refine z_astore_n (pc' := 12) C _ dL_openAmount_11 rfl rfl rfl rfl ?_
  refine z_iconst (pc' := 13) C dL_openAmount_12 zk_iconst_1 rfl ?_
  exact z_iret C rfl rfl dL_openAmount_13
abbrev hh_dueDay : List (Nat × Nat × Nat × Nat) := [(0, 9, 12, 18)]
theorem c_L_dueDay {w : zV} {N a c0 : Nat} {h : zH} (hN : a + 389 ≤ N) (hc : a + 389 ≤ c0) {σ : LgT} {p1 : Int32} {o : Nat → Int64} (n_o : zc N h c0 (.inl (w.2.2.1 1, 1, .inr (.inl o)))) {v : Int32} (hf : f_X8_dueDay σ p1 = some (.inr v)) : zMw w yL_dueDay cL_dueDay 4 hh_dueDay (zrx 9 177 1 6) N (lgH w a h σ) [.ref (zo w + a), .int p1, .ref (zo w + c0)] (some (.int 0)) (lgH w a (va_up h c0 (.inl (w.2.2.1 1, 1, .inr (.inl (vp_updL o 0 v.toInt64))))) σ) := by
  refine zMw_of (by decide) rfl (fun X C htab => ?_)
  refine z_aload_n (pc' := 1) C 2 dL_dueDay_0 rfl rfl rfl ?_
  refine z_iconst (pc' := 2) C dL_dueDay_1 zk_iconst_0 rfl ?_
  refine z_aload_n (pc' := 3) C 0 dL_dueDay_2 rfl rfl rfl ?_
  refine z_iload_n (pc' := 4) C 1 dL_dueDay_3 rfl rfl rfl ?_
  refine z_cVr (pc' := 7) (st := [.int 0, .ref (zo w + c0)]) C (c_X8_dueDay hN hf) zy_X8_dueDay zw_906 zw_907 zw_908 (ci := 8) rfl (lg_0 hN) rfl rfl rfl rfl rfl dL_dueDay_4 rfl ?_
  refine z_i2l (pc' := 8) C dL_dueDay_7 rfl ?_
  refine z_last (pc' := 9) C (K := fun g => some g) (r := vp_updL o 0 v.toInt64) rfl (lg_c rfl hc n_o) (fun g => lg_up rfl hc) dL_dueDay_8 rfl (fun g hg => ?_)
  cases hg
  refine z_goto C 15 dL_dueDay_9 rfl ?_
  refine z_iconst (pc' := 16) C dL_dueDay_15 zk_iconst_0 rfl ?_
  exact z_iret C rfl rfl dL_dueDay_16
theorem c_L_dueDay_1 {w : zV} {N a c0 : Nat} {h : zH} (hN : a + 389 ≤ N) (hc : a + 389 ≤ c0) {σ : LgT} {p1 : Int32} {o : Nat → Int64} (n_o : zc N h c0 (.inl (w.2.2.1 1, 1, .inr (.inl o)))) (hf : f_X8_dueDay σ p1 = some (.inl "java/lang/IndexOutOfBoundsException")) : zMw w yL_dueDay cL_dueDay 4 hh_dueDay (zrx 9 177 1 6) N (lgH w a h σ) [.ref (zo w + a), .int p1, .ref (zo w + c0)] (some (.int 1)) (lgH w a h σ) := by
  refine zMw_of (by decide) rfl (fun X C htab => ?_)
  refine z_aload_n (pc' := 1) C 2 dL_dueDay_0 rfl rfl rfl ?_
  refine z_iconst (pc' := 2) C dL_dueDay_1 zk_iconst_0 rfl ?_
  refine z_aload_n (pc' := 3) C 0 dL_dueDay_2 rfl rfl rfl ?_
  refine z_iload_n (pc' := 4) C 1 dL_dueDay_3 rfl rfl rfl ?_
  refine z_cVl (pc' := 12) (st := [.int 0, .ref (zo w + c0)]) C htab (c_X8_dueDay hN hf) [] [] ⟨0, 9, 12, 18⟩ rfl (fun z hz => absurd hz List.not_mem_nil) (by decide) (by decide) zw_702 (jE := 0) rfl zy_X8_dueDay zw_906 zw_907 zw_908 (ci := 8) rfl (lg_0 hN) rfl rfl rfl rfl rfl dL_dueDay_4 rfl (fun q => ?_)
  refine z_astore_n (pc' := 13) C _ dL_dueDay_12 rfl rfl rfl rfl ?_
  refine z_iconst (pc' := 14) C dL_dueDay_13 zk_iconst_1 rfl ?_
  exact z_iret C rfl rfl dL_dueDay_14
abbrev hh_isBlocked : List (Nat × Nat × Nat × Nat) := [(0, 16, 19, 18)]
theorem c_L_isBlocked_T {w : zV} {N a c0 : Nat} {h : zH} (hN : a + 389 ≤ N) (hc : a + 389 ≤ c0) {σ : LgT} {p1 : Int32} {o : Nat → Int64} (n_o : zc N h c0 (.inl (w.2.2.1 1, 1, .inr (.inl o)))) {v : Int32} (hf : f_X8_isBlocked σ p1 = some (.inr v)) (hv : ¬ v = 0) : zMw w yL_isBlocked cL_isBlocked 4 hh_isBlocked (zrx 9 177 1 6) N (lgH w a h σ) [.ref (zo w + a), .int p1, .ref (zo w + c0)] (some (.int 0)) (lgH w a (va_up h c0 (.inl (w.2.2.1 1, 1, .inr (.inl (vp_updL o 0 1))))) σ) := by
  refine zMw_of (by decide) rfl (fun X C htab => ?_)
  refine z_aload_n (pc' := 1) C 2 dL_isBlocked_0 rfl rfl rfl ?_
  refine z_iconst (pc' := 2) C dL_isBlocked_1 zk_iconst_0 rfl ?_
  refine z_aload_n (pc' := 3) C 0 dL_isBlocked_2 rfl rfl rfl ?_
  refine z_iload_n (pc' := 4) C 1 dL_isBlocked_3 rfl rfl rfl ?_
  refine z_cVr (pc' := 7) (st := [.int 0, .ref (zo w + c0)]) C (c_X8_isBlocked hN hf) zy_X8_isBlocked zw_913 zw_914 zw_915 (ci := 8) rfl (lg_0 hN) rfl rfl rfl rfl rfl dL_isBlocked_4 rfl ?_
  refine z_if_eq (pc' := 10) C 14 (if_neg hv : (if v = 0 then (none : Option Unit) else some ()) = some ()) dL_isBlocked_7 rfl rfl (fun q _ => absurd q hv) (fun _ _ => ?_)
  refine z_lconst (pc' := 11) C dL_isBlocked_10 zl_1 rfl ?_
  refine z_goto C 15 dL_isBlocked_11 rfl ?_
  refine z_last (pc' := 16) C (K := fun g => some g) (r := vp_updL o 0 1) rfl (lg_c rfl hc n_o) (fun g => lg_up rfl hc) dL_isBlocked_15 rfl (fun g hg => ?_)
  cases hg
  refine z_goto C 22 dL_isBlocked_16 rfl ?_
  refine z_iconst (pc' := 23) C dL_isBlocked_22 zk_iconst_0 rfl ?_
  exact z_iret C rfl rfl dL_isBlocked_23
theorem c_L_isBlocked_F {w : zV} {N a c0 : Nat} {h : zH} (hN : a + 389 ≤ N) (hc : a + 389 ≤ c0) {σ : LgT} {p1 : Int32} {o : Nat → Int64} (n_o : zc N h c0 (.inl (w.2.2.1 1, 1, .inr (.inl o)))) {v : Int32} (hf : f_X8_isBlocked σ p1 = some (.inr v)) (hv : v = 0) : zMw w yL_isBlocked cL_isBlocked 4 hh_isBlocked (zrx 9 177 1 6) N (lgH w a h σ) [.ref (zo w + a), .int p1, .ref (zo w + c0)] (some (.int 0)) (lgH w a (va_up h c0 (.inl (w.2.2.1 1, 1, .inr (.inl (vp_updL o 0 0))))) σ) := by
  refine zMw_of (by decide) rfl (fun X C htab => ?_)
  refine z_aload_n (pc' := 1) C 2 dL_isBlocked_0 rfl rfl rfl ?_
  refine z_iconst (pc' := 2) C dL_isBlocked_1 zk_iconst_0 rfl ?_
  refine z_aload_n (pc' := 3) C 0 dL_isBlocked_2 rfl rfl rfl ?_
  refine z_iload_n (pc' := 4) C 1 dL_isBlocked_3 rfl rfl rfl ?_
  refine z_cVr (pc' := 7) (st := [.int 0, .ref (zo w + c0)]) C (c_X8_isBlocked hN hf) zy_X8_isBlocked zw_913 zw_914 zw_915 (ci := 8) rfl (lg_0 hN) rfl rfl rfl rfl rfl dL_isBlocked_4 rfl ?_
  refine z_if_eq (pc' := 10) C 14 (if_pos hv : (if v = 0 then some () else (none : Option Unit)) = some ()) dL_isBlocked_7 rfl rfl (fun _ _ => ?_) (fun q _ => absurd hv q)
  refine z_lconst (pc' := 15) C dL_isBlocked_14 zl_0 rfl ?_
  refine z_last (pc' := 16) C (K := fun g => some g) (r := vp_updL o 0 0) rfl (lg_c rfl hc n_o) (fun g => lg_up rfl hc) dL_isBlocked_15 rfl (fun g hg => ?_)
  cases hg
  refine z_goto C 22 dL_isBlocked_16 rfl ?_
  refine z_iconst (pc' := 23) C dL_isBlocked_22 zk_iconst_0 rfl ?_
  exact z_iret C rfl rfl dL_isBlocked_23
theorem c_L_isBlocked_1 {w : zV} {N a c0 : Nat} {h : zH} (hN : a + 389 ≤ N) (hc : a + 389 ≤ c0) {σ : LgT} {p1 : Int32} {o : Nat → Int64} (n_o : zc N h c0 (.inl (w.2.2.1 1, 1, .inr (.inl o)))) (hf : f_X8_isBlocked σ p1 = some (.inl "java/lang/IndexOutOfBoundsException")) : zMw w yL_isBlocked cL_isBlocked 4 hh_isBlocked (zrx 9 177 1 6) N (lgH w a h σ) [.ref (zo w + a), .int p1, .ref (zo w + c0)] (some (.int 1)) (lgH w a h σ) := by
  refine zMw_of (by decide) rfl (fun X C htab => ?_)
  refine z_aload_n (pc' := 1) C 2 dL_isBlocked_0 rfl rfl rfl ?_
  refine z_iconst (pc' := 2) C dL_isBlocked_1 zk_iconst_0 rfl ?_
  refine z_aload_n (pc' := 3) C 0 dL_isBlocked_2 rfl rfl rfl ?_
  refine z_iload_n (pc' := 4) C 1 dL_isBlocked_3 rfl rfl rfl ?_
  refine z_cVl (pc' := 19) (st := [.int 0, .ref (zo w + c0)]) C htab (c_X8_isBlocked hN hf) [] [] ⟨0, 16, 19, 18⟩ rfl (fun z hz => absurd hz List.not_mem_nil) (by decide) (by decide) zw_702 (jE := 0) rfl zy_X8_isBlocked zw_913 zw_914 zw_915 (ci := 8) rfl (lg_0 hN) rfl rfl rfl rfl rfl dL_isBlocked_4 rfl (fun q => ?_)
  refine z_astore_n (pc' := 20) C _ dL_isBlocked_19 rfl rfl rfl rfl ?_
  refine z_iconst (pc' := 21) C dL_isBlocked_20 zk_iconst_1 rfl ?_
  exact z_iret C rfl rfl dL_isBlocked_21
abbrev hh_settleDays : List (Nat × Nat × Nat × Nat) := [(0, 10, 13, 18), (0, 10, 17, 13)]
theorem c_L_settleDays {w : zV} {N a c0 : Nat} {h : zH} (hN : a + 389 ≤ N) (hc : a + 389 ≤ c0) {σ σ' : LgT} {p1 : Int32} {p2 : Int32} {o : Nat → Int64} (n_o : zc N h c0 (.inl (w.2.2.1 1, 1, .inr (.inl o)))) {v : Int32} (hf : f_X8_settleDays σ p1 p2 = some (.inr (v, σ'))) : zMw w yL_settleDays cL_settleDays 5 hh_settleDays (zrx 9 189 2 12) N (lgH w a h σ) [.ref (zo w + a), .int p1, .int p2, .ref (zo w + c0)] (some (.int 0)) (lgH w a (va_up h c0 (.inl (w.2.2.1 1, 1, .inr (.inl (vp_updL o 0 v.toInt64))))) σ') := by
  refine zMw_of (by decide) rfl (fun X C htab => ?_)
  refine z_aload_n (pc' := 1) C 3 dL_settleDays_0 rfl rfl rfl ?_
  refine z_iconst (pc' := 2) C dL_settleDays_1 zk_iconst_0 rfl ?_
  refine z_aload_n (pc' := 3) C 0 dL_settleDays_2 rfl rfl rfl ?_
  refine z_iload_n (pc' := 4) C 1 dL_settleDays_3 rfl rfl rfl ?_
  refine z_iload_n (pc' := 5) C 2 dL_settleDays_4 rfl rfl rfl ?_
  refine z_cVr (pc' := 8) (st := [.int 0, .ref (zo w + c0)]) C (c_X8_settleDays hN hf) zy_X8_settleDays zw_928 zw_929 zw_930 (ci := 8) rfl (lg_0 hN) rfl rfl rfl rfl rfl dL_settleDays_5 rfl ?_
  refine z_i2l (pc' := 9) C dL_settleDays_8 rfl ?_
  refine z_last (pc' := 10) C (K := fun g => some g) (r := vp_updL o 0 v.toInt64) rfl (lg_c rfl hc n_o) (fun g => lg_up rfl hc) dL_settleDays_9 rfl (fun g hg => ?_)
  cases hg
  refine z_goto C 21 dL_settleDays_10 rfl ?_
  refine z_iconst (pc' := 22) C dL_settleDays_21 zk_iconst_0 rfl ?_
  exact z_iret C rfl rfl dL_settleDays_22
theorem c_L_settleDays_1 {w : zV} {N a c0 : Nat} {h : zH} (hN : a + 389 ≤ N) (hc : a + 389 ≤ c0) {σ σ' : LgT} {p1 : Int32} {p2 : Int32} {o : Nat → Int64} (n_o : zc N h c0 (.inl (w.2.2.1 1, 1, .inr (.inl o)))) (hf : f_X8_settleDays σ p1 p2 = some (.inl ("java/lang/IndexOutOfBoundsException", σ'))) : zMw w yL_settleDays cL_settleDays 5 hh_settleDays (zrx 9 189 2 12) N (lgH w a h σ) [.ref (zo w + a), .int p1, .int p2, .ref (zo w + c0)] (some (.int 1)) (lgH w a h σ') := by
  refine zMw_of (by decide) rfl (fun X C htab => ?_)
  refine z_aload_n (pc' := 1) C 3 dL_settleDays_0 rfl rfl rfl ?_
  refine z_iconst (pc' := 2) C dL_settleDays_1 zk_iconst_0 rfl ?_
  refine z_aload_n (pc' := 3) C 0 dL_settleDays_2 rfl rfl rfl ?_
  refine z_iload_n (pc' := 4) C 1 dL_settleDays_3 rfl rfl rfl ?_
  refine z_iload_n (pc' := 5) C 2 dL_settleDays_4 rfl rfl rfl ?_
  refine z_cVl (pc' := 13) (st := [.int 0, .ref (zo w + c0)]) C htab (c_X8_settleDays hN hf) [] [⟨0, 10, 17, 13⟩] ⟨0, 10, 13, 18⟩ rfl (fun z hz => absurd hz List.not_mem_nil) (by decide) (by decide) zw_702 (jE := 0) rfl zy_X8_settleDays zw_928 zw_929 zw_930 (ci := 8) rfl (lg_0 hN) rfl rfl rfl rfl rfl dL_settleDays_5 rfl (fun q => ?_)
  refine z_astore (pc' := 15) C _ dL_settleDays_13 rfl rfl rfl ?_
  refine z_iconst (pc' := 16) C dL_settleDays_15 zk_iconst_1 rfl ?_
  exact z_iret C rfl rfl dL_settleDays_16
theorem c_L_settleDays_2 {w : zV} {N a c0 : Nat} {h : zH} (hN : a + 389 ≤ N) (hc : a + 389 ≤ c0) {σ σ' : LgT} {p1 : Int32} {p2 : Int32} {o : Nat → Int64} (n_o : zc N h c0 (.inl (w.2.2.1 1, 1, .inr (.inl o)))) (hf : f_X8_settleDays σ p1 p2 = some (.inl ("java/lang/IllegalArgumentException", σ'))) : zMw w yL_settleDays cL_settleDays 5 hh_settleDays (zrx 9 189 2 12) N (lgH w a h σ) [.ref (zo w + a), .int p1, .int p2, .ref (zo w + c0)] (some (.int 2)) (lgH w a h σ') := by
  refine zMw_of (by decide) rfl (fun X C htab => ?_)
  refine z_aload_n (pc' := 1) C 3 dL_settleDays_0 rfl rfl rfl ?_
  refine z_iconst (pc' := 2) C dL_settleDays_1 zk_iconst_0 rfl ?_
  refine z_aload_n (pc' := 3) C 0 dL_settleDays_2 rfl rfl rfl ?_
  refine z_iload_n (pc' := 4) C 1 dL_settleDays_3 rfl rfl rfl ?_
  refine z_iload_n (pc' := 5) C 2 dL_settleDays_4 rfl rfl rfl ?_
  refine z_cVl (pc' := 17) (st := [.int 0, .ref (zo w + c0)]) C htab (c_X8_settleDays hN hf) [⟨0, 10, 13, 18⟩] [] ⟨0, 10, 17, 13⟩ rfl (List.forall_mem_cons.mpr ⟨⟨by decide, _, 2, zw_702, rfl⟩, fun z hz => absurd hz List.not_mem_nil⟩) (by decide) (by decide) zw_445 (jE := 1) rfl zy_X8_settleDays zw_928 zw_929 zw_930 (ci := 8) rfl (lg_0 hN) rfl rfl rfl rfl rfl dL_settleDays_5 rfl (fun q => ?_)
  refine z_astore (pc' := 19) C _ dL_settleDays_17 rfl rfl rfl ?_
  refine z_iconst (pc' := 20) C dL_settleDays_19 zk_iconst_2 rfl ?_
  exact z_iret C rfl rfl dL_settleDays_20
abbrev hh_isApproved : List (Nat × Nat × Nat × Nat) := [(0, 16, 19, 18)]
theorem c_L_isApproved_T {w : zV} {N a c0 : Nat} {h : zH} (hN : a + 389 ≤ N) (hc : a + 389 ≤ c0) {σ : LgT} {p1 : Int32} {o : Nat → Int64} (n_o : zc N h c0 (.inl (w.2.2.1 1, 1, .inr (.inl o)))) {v : Int32} (hf : f_X8_isApproved σ p1 = some (.inr v)) (hv : ¬ v = 0) : zMw w yL_isApproved cL_isApproved 4 hh_isApproved (zrx 9 177 1 6) N (lgH w a h σ) [.ref (zo w + a), .int p1, .ref (zo w + c0)] (some (.int 0)) (lgH w a (va_up h c0 (.inl (w.2.2.1 1, 1, .inr (.inl (vp_updL o 0 1))))) σ) := by
  refine zMw_of (by decide) rfl (fun X C htab => ?_)
  refine z_aload_n (pc' := 1) C 2 dL_isApproved_0 rfl rfl rfl ?_
  refine z_iconst (pc' := 2) C dL_isApproved_1 zk_iconst_0 rfl ?_
  refine z_aload_n (pc' := 3) C 0 dL_isApproved_2 rfl rfl rfl ?_
  refine z_iload_n (pc' := 4) C 1 dL_isApproved_3 rfl rfl rfl ?_
  refine z_cVr (pc' := 7) (st := [.int 0, .ref (zo w + c0)]) C (c_X8_isApproved hN hf) zy_X8_isApproved zw_969 zw_970 zw_971 (ci := 8) rfl (lg_0 hN) rfl rfl rfl rfl rfl dL_isApproved_4 rfl ?_
  refine z_if_eq (pc' := 10) C 14 (if_neg hv : (if v = 0 then (none : Option Unit) else some ()) = some ()) dL_isApproved_7 rfl rfl (fun q _ => absurd q hv) (fun _ _ => ?_)
  refine z_lconst (pc' := 11) C dL_isApproved_10 zl_1 rfl ?_
  refine z_goto C 15 dL_isApproved_11 rfl ?_
  refine z_last (pc' := 16) C (K := fun g => some g) (r := vp_updL o 0 1) rfl (lg_c rfl hc n_o) (fun g => lg_up rfl hc) dL_isApproved_15 rfl (fun g hg => ?_)
  cases hg
  refine z_goto C 22 dL_isApproved_16 rfl ?_
  refine z_iconst (pc' := 23) C dL_isApproved_22 zk_iconst_0 rfl ?_
  exact z_iret C rfl rfl dL_isApproved_23
theorem c_L_isApproved_F {w : zV} {N a c0 : Nat} {h : zH} (hN : a + 389 ≤ N) (hc : a + 389 ≤ c0) {σ : LgT} {p1 : Int32} {o : Nat → Int64} (n_o : zc N h c0 (.inl (w.2.2.1 1, 1, .inr (.inl o)))) {v : Int32} (hf : f_X8_isApproved σ p1 = some (.inr v)) (hv : v = 0) : zMw w yL_isApproved cL_isApproved 4 hh_isApproved (zrx 9 177 1 6) N (lgH w a h σ) [.ref (zo w + a), .int p1, .ref (zo w + c0)] (some (.int 0)) (lgH w a (va_up h c0 (.inl (w.2.2.1 1, 1, .inr (.inl (vp_updL o 0 0))))) σ) := by
  refine zMw_of (by decide) rfl (fun X C htab => ?_)
  refine z_aload_n (pc' := 1) C 2 dL_isApproved_0 rfl rfl rfl ?_
  refine z_iconst (pc' := 2) C dL_isApproved_1 zk_iconst_0 rfl ?_
  refine z_aload_n (pc' := 3) C 0 dL_isApproved_2 rfl rfl rfl ?_
  refine z_iload_n (pc' := 4) C 1 dL_isApproved_3 rfl rfl rfl ?_
  refine z_cVr (pc' := 7) (st := [.int 0, .ref (zo w + c0)]) C (c_X8_isApproved hN hf) zy_X8_isApproved zw_969 zw_970 zw_971 (ci := 8) rfl (lg_0 hN) rfl rfl rfl rfl rfl dL_isApproved_4 rfl ?_
  refine z_if_eq (pc' := 10) C 14 (if_pos hv : (if v = 0 then some () else (none : Option Unit)) = some ()) dL_isApproved_7 rfl rfl (fun _ _ => ?_) (fun q _ => absurd hv q)
  refine z_lconst (pc' := 15) C dL_isApproved_14 zl_0 rfl ?_
  refine z_last (pc' := 16) C (K := fun g => some g) (r := vp_updL o 0 0) rfl (lg_c rfl hc n_o) (fun g => lg_up rfl hc) dL_isApproved_15 rfl (fun g hg => ?_)
  cases hg
  refine z_goto C 22 dL_isApproved_16 rfl ?_
  refine z_iconst (pc' := 23) C dL_isApproved_22 zk_iconst_0 rfl ?_
  exact z_iret C rfl rfl dL_isApproved_23
theorem c_L_isApproved_1 {w : zV} {N a c0 : Nat} {h : zH} (hN : a + 389 ≤ N) (hc : a + 389 ≤ c0) {σ : LgT} {p1 : Int32} {o : Nat → Int64} (n_o : zc N h c0 (.inl (w.2.2.1 1, 1, .inr (.inl o)))) (hf : f_X8_isApproved σ p1 = some (.inl "java/lang/IndexOutOfBoundsException")) : zMw w yL_isApproved cL_isApproved 4 hh_isApproved (zrx 9 177 1 6) N (lgH w a h σ) [.ref (zo w + a), .int p1, .ref (zo w + c0)] (some (.int 1)) (lgH w a h σ) := by
  refine zMw_of (by decide) rfl (fun X C htab => ?_)
  refine z_aload_n (pc' := 1) C 2 dL_isApproved_0 rfl rfl rfl ?_
  refine z_iconst (pc' := 2) C dL_isApproved_1 zk_iconst_0 rfl ?_
  refine z_aload_n (pc' := 3) C 0 dL_isApproved_2 rfl rfl rfl ?_
  refine z_iload_n (pc' := 4) C 1 dL_isApproved_3 rfl rfl rfl ?_
  refine z_cVl (pc' := 19) (st := [.int 0, .ref (zo w + c0)]) C htab (c_X8_isApproved hN hf) [] [] ⟨0, 16, 19, 18⟩ rfl (fun z hz => absurd hz List.not_mem_nil) (by decide) (by decide) zw_702 (jE := 0) rfl zy_X8_isApproved zw_969 zw_970 zw_971 (ci := 8) rfl (lg_0 hN) rfl rfl rfl rfl rfl dL_isApproved_4 rfl (fun q => ?_)
  refine z_astore_n (pc' := 20) C _ dL_isApproved_19 rfl rfl rfl rfl ?_
  refine z_iconst (pc' := 21) C dL_isApproved_20 zk_iconst_1 rfl ?_
  exact z_iret C rfl rfl dL_isApproved_21
abbrev hh_variationWorth : List (Nat × Nat × Nat × Nat) := [(0, 8, 11, 18)]
theorem c_L_variationWorth {w : zV} {N a c0 : Nat} {h : zH} (hN : a + 389 ≤ N) (hc : a + 389 ≤ c0) {σ σ' : LgT} {p1 : Int32} {o : Nat → Int64} (n_o : zc N h c0 (.inl (w.2.2.1 1, 1, .inr (.inl o)))) (hG : PgW w N a h σ) {v : Int64} (hf : f_X8_variationWorth σ p1 = some (.inr (v, σ'))) : zMw w yL_variationWorth cL_variationWorth 4 hh_variationWorth (zrx 9 232 1 6) N (lgH w a h σ) [.ref (zo w + a), .int p1, .ref (zo w + c0)] (some (.int 0)) (lgH w a (va_up h c0 (.inl (w.2.2.1 1, 1, .inr (.inl (vp_updL o 0 v))))) σ') := by
  refine zMw_of (by decide) rfl (fun X C htab => ?_)
  refine z_aload_n (pc' := 1) C 2 dL_variationWorth_0 rfl rfl rfl ?_
  refine z_iconst (pc' := 2) C dL_variationWorth_1 zk_iconst_0 rfl ?_
  refine z_aload_n (pc' := 3) C 0 dL_variationWorth_2 rfl rfl rfl ?_
  refine z_iload_n (pc' := 4) C 1 dL_variationWorth_3 rfl rfl rfl ?_
  refine z_cVr (pc' := 7) (st := [.int 0, .ref (zo w + c0)]) C (c_X8_variationWorth hN hG hf) zy_X8_variationWorth zw_980 zw_981 zw_982 (ci := 8) rfl (lg_0 hN) rfl rfl rfl rfl rfl dL_variationWorth_4 rfl ?_
  refine z_last (pc' := 8) C (K := fun g => some g) (r := vp_updL o 0 v) rfl (lg_c rfl hc n_o) (fun g => lg_up rfl hc) dL_variationWorth_7 rfl (fun g hg => ?_)
  cases hg
  refine z_goto C 14 dL_variationWorth_8 rfl ?_
  refine z_iconst (pc' := 15) C dL_variationWorth_14 zk_iconst_0 rfl ?_
  exact z_iret C rfl rfl dL_variationWorth_15
theorem c_L_variationWorth_1 {w : zV} {N a c0 : Nat} {h : zH} (hN : a + 389 ≤ N) (hc : a + 389 ≤ c0) {σ σ' : LgT} {p1 : Int32} {o : Nat → Int64} (n_o : zc N h c0 (.inl (w.2.2.1 1, 1, .inr (.inl o)))) (hG : PgW w N a h σ) (hf : f_X8_variationWorth σ p1 = some (.inl ("java/lang/IndexOutOfBoundsException", σ'))) : zMw w yL_variationWorth cL_variationWorth 4 hh_variationWorth (zrx 9 232 1 6) N (lgH w a h σ) [.ref (zo w + a), .int p1, .ref (zo w + c0)] (some (.int 1)) (lgH w a h σ') := by
  refine zMw_of (by decide) rfl (fun X C htab => ?_)
  refine z_aload_n (pc' := 1) C 2 dL_variationWorth_0 rfl rfl rfl ?_
  refine z_iconst (pc' := 2) C dL_variationWorth_1 zk_iconst_0 rfl ?_
  refine z_aload_n (pc' := 3) C 0 dL_variationWorth_2 rfl rfl rfl ?_
  refine z_iload_n (pc' := 4) C 1 dL_variationWorth_3 rfl rfl rfl ?_
  refine z_cVl (pc' := 11) (st := [.int 0, .ref (zo w + c0)]) C htab (c_X8_variationWorth hN hG hf) [] [] ⟨0, 8, 11, 18⟩ rfl (fun z hz => absurd hz List.not_mem_nil) (by decide) (by decide) zw_702 (jE := 0) rfl zy_X8_variationWorth zw_980 zw_981 zw_982 (ci := 8) rfl (lg_0 hN) rfl rfl rfl rfl rfl dL_variationWorth_4 rfl (fun q => ?_)
  refine z_astore_n (pc' := 12) C _ dL_variationWorth_11 rfl rfl rfl rfl ?_
  refine z_iconst (pc' := 13) C dL_variationWorth_12 zk_iconst_1 rfl ?_
  exact z_iret C rfl rfl dL_variationWorth_13
abbrev hh_claim : List (Nat × Nat × Nat × Nat) := [(0, 8, 11, 18)]
theorem c_L_claim {w : zV} {N a c0 : Nat} {h : zH} (hN : a + 389 ≤ N) (hc : a + 389 ≤ c0) {σ : LgT} {p1 : Int32} {o : Nat → Int64} (n_o : zc N h c0 (.inl (w.2.2.1 1, 1, .inr (.inl o)))) {v : Int64} (hf : f_X8_claim σ p1 = some (.inr v)) : zMw w yL_claim cL_claim 4 hh_claim (zrx 9 177 1 6) N (lgH w a h σ) [.ref (zo w + a), .int p1, .ref (zo w + c0)] (some (.int 0)) (lgH w a (va_up h c0 (.inl (w.2.2.1 1, 1, .inr (.inl (vp_updL o 0 v))))) σ) := by
  refine zMw_of (by decide) rfl (fun X C htab => ?_)
  refine z_aload_n (pc' := 1) C 2 dL_claim_0 rfl rfl rfl ?_
  refine z_iconst (pc' := 2) C dL_claim_1 zk_iconst_0 rfl ?_
  refine z_aload_n (pc' := 3) C 0 dL_claim_2 rfl rfl rfl ?_
  refine z_iload_n (pc' := 4) C 1 dL_claim_3 rfl rfl rfl ?_
  refine z_cVr (pc' := 7) (st := [.int 0, .ref (zo w + c0)]) C (c_X8_claim hN hf) zy_X8_claim zw_995 zw_996 zw_997 (ci := 8) rfl (lg_0 hN) rfl rfl rfl rfl rfl dL_claim_4 rfl ?_
  refine z_last (pc' := 8) C (K := fun g => some g) (r := vp_updL o 0 v) rfl (lg_c rfl hc n_o) (fun g => lg_up rfl hc) dL_claim_7 rfl (fun g hg => ?_)
  cases hg
  refine z_goto C 14 dL_claim_8 rfl ?_
  refine z_iconst (pc' := 15) C dL_claim_14 zk_iconst_0 rfl ?_
  exact z_iret C rfl rfl dL_claim_15
theorem c_L_claim_1 {w : zV} {N a c0 : Nat} {h : zH} (hN : a + 389 ≤ N) (hc : a + 389 ≤ c0) {σ : LgT} {p1 : Int32} {o : Nat → Int64} (n_o : zc N h c0 (.inl (w.2.2.1 1, 1, .inr (.inl o)))) (hf : f_X8_claim σ p1 = some (.inl "java/lang/IndexOutOfBoundsException")) : zMw w yL_claim cL_claim 4 hh_claim (zrx 9 177 1 6) N (lgH w a h σ) [.ref (zo w + a), .int p1, .ref (zo w + c0)] (some (.int 1)) (lgH w a h σ) := by
  refine zMw_of (by decide) rfl (fun X C htab => ?_)
  refine z_aload_n (pc' := 1) C 2 dL_claim_0 rfl rfl rfl ?_
  refine z_iconst (pc' := 2) C dL_claim_1 zk_iconst_0 rfl ?_
  refine z_aload_n (pc' := 3) C 0 dL_claim_2 rfl rfl rfl ?_
  refine z_iload_n (pc' := 4) C 1 dL_claim_3 rfl rfl rfl ?_
  refine z_cVl (pc' := 11) (st := [.int 0, .ref (zo w + c0)]) C htab (c_X8_claim hN hf) [] [] ⟨0, 8, 11, 18⟩ rfl (fun z hz => absurd hz List.not_mem_nil) (by decide) (by decide) zw_702 (jE := 0) rfl zy_X8_claim zw_995 zw_996 zw_997 (ci := 8) rfl (lg_0 hN) rfl rfl rfl rfl rfl dL_claim_4 rfl (fun q => ?_)
  refine z_astore_n (pc' := 12) C _ dL_claim_11 rfl rfl rfl rfl ?_
  refine z_iconst (pc' := 13) C dL_claim_12 zk_iconst_1 rfl ?_
  exact z_iret C rfl rfl dL_claim_13
abbrev hh_priority : List (Nat × Nat × Nat × Nat) := [(0, 9, 12, 18)]
theorem c_L_priority {w : zV} {N a c0 : Nat} {h : zH} (hN : a + 389 ≤ N) (hc : a + 389 ≤ c0) {σ : LgT} {p1 : Int32} {o : Nat → Int64} (n_o : zc N h c0 (.inl (w.2.2.1 1, 1, .inr (.inl o)))) {v : Int32} (hf : f_X8_priority σ p1 = some (.inr v)) : zMw w yL_priority cL_priority 4 hh_priority (zrx 9 177 1 6) N (lgH w a h σ) [.ref (zo w + a), .int p1, .ref (zo w + c0)] (some (.int 0)) (lgH w a (va_up h c0 (.inl (w.2.2.1 1, 1, .inr (.inl (vp_updL o 0 v.toInt64))))) σ) := by
  refine zMw_of (by decide) rfl (fun X C htab => ?_)
  refine z_aload_n (pc' := 1) C 2 dL_priority_0 rfl rfl rfl ?_
  refine z_iconst (pc' := 2) C dL_priority_1 zk_iconst_0 rfl ?_
  refine z_aload_n (pc' := 3) C 0 dL_priority_2 rfl rfl rfl ?_
  refine z_iload_n (pc' := 4) C 1 dL_priority_3 rfl rfl rfl ?_
  refine z_cVr (pc' := 7) (st := [.int 0, .ref (zo w + c0)]) C (c_X8_priority hN hf) zy_X8_priority zw_1007 zw_1008 zw_1009 (ci := 8) rfl (lg_0 hN) rfl rfl rfl rfl rfl dL_priority_4 rfl ?_
  refine z_i2l (pc' := 8) C dL_priority_7 rfl ?_
  refine z_last (pc' := 9) C (K := fun g => some g) (r := vp_updL o 0 v.toInt64) rfl (lg_c rfl hc n_o) (fun g => lg_up rfl hc) dL_priority_8 rfl (fun g hg => ?_)
  cases hg
  refine z_goto C 15 dL_priority_9 rfl ?_
  refine z_iconst (pc' := 16) C dL_priority_15 zk_iconst_0 rfl ?_
  exact z_iret C rfl rfl dL_priority_16
theorem c_L_priority_1 {w : zV} {N a c0 : Nat} {h : zH} (hN : a + 389 ≤ N) (hc : a + 389 ≤ c0) {σ : LgT} {p1 : Int32} {o : Nat → Int64} (n_o : zc N h c0 (.inl (w.2.2.1 1, 1, .inr (.inl o)))) (hf : f_X8_priority σ p1 = some (.inl "java/lang/IndexOutOfBoundsException")) : zMw w yL_priority cL_priority 4 hh_priority (zrx 9 177 1 6) N (lgH w a h σ) [.ref (zo w + a), .int p1, .ref (zo w + c0)] (some (.int 1)) (lgH w a h σ) := by
  refine zMw_of (by decide) rfl (fun X C htab => ?_)
  refine z_aload_n (pc' := 1) C 2 dL_priority_0 rfl rfl rfl ?_
  refine z_iconst (pc' := 2) C dL_priority_1 zk_iconst_0 rfl ?_
  refine z_aload_n (pc' := 3) C 0 dL_priority_2 rfl rfl rfl ?_
  refine z_iload_n (pc' := 4) C 1 dL_priority_3 rfl rfl rfl ?_
  refine z_cVl (pc' := 12) (st := [.int 0, .ref (zo w + c0)]) C htab (c_X8_priority hN hf) [] [] ⟨0, 9, 12, 18⟩ rfl (fun z hz => absurd hz List.not_mem_nil) (by decide) (by decide) zw_702 (jE := 0) rfl zy_X8_priority zw_1007 zw_1008 zw_1009 (ci := 8) rfl (lg_0 hN) rfl rfl rfl rfl rfl dL_priority_4 rfl (fun q => ?_)
  refine z_astore_n (pc' := 13) C _ dL_priority_12 rfl rfl rfl rfl ?_
  refine z_iconst (pc' := 14) C dL_priority_13 zk_iconst_1 rfl ?_
  exact z_iret C rfl rfl dL_priority_14
abbrev hh_share : List (Nat × Nat × Nat × Nat) := [(0, 9, 12, 18), (0, 9, 16, 13)]
theorem c_L_share {w : zV} {N a c0 : Nat} {h : zH} (hN : a + 389 ≤ N) (hc : a + 389 ≤ c0) {σ : LgT} {p1 : Int32} {p2 : Int32} {o : Nat → Int64} (n_o : zc N h c0 (.inl (w.2.2.1 1, 1, .inr (.inl o)))) {v : Int64} (hf : f_X8_share σ p1 p2 = some (.inr v)) : zMw w yL_share cL_share 5 hh_share (zrx 9 178 2 12) N (lgH w a h σ) [.ref (zo w + a), .int p1, .int p2, .ref (zo w + c0)] (some (.int 0)) (lgH w a (va_up h c0 (.inl (w.2.2.1 1, 1, .inr (.inl (vp_updL o 0 v))))) σ) := by
  refine zMw_of (by decide) rfl (fun X C htab => ?_)
  refine z_aload_n (pc' := 1) C 3 dL_share_0 rfl rfl rfl ?_
  refine z_iconst (pc' := 2) C dL_share_1 zk_iconst_0 rfl ?_
  refine z_aload_n (pc' := 3) C 0 dL_share_2 rfl rfl rfl ?_
  refine z_iload_n (pc' := 4) C 1 dL_share_3 rfl rfl rfl ?_
  refine z_iload_n (pc' := 5) C 2 dL_share_4 rfl rfl rfl ?_
  refine z_cVr (pc' := 8) (st := [.int 0, .ref (zo w + c0)]) C (c_X8_share hN hf) zy_X8_share zw_1026 zw_1027 zw_1028 (ci := 8) rfl (lg_0 hN) rfl rfl rfl rfl rfl dL_share_5 rfl ?_
  refine z_last (pc' := 9) C (K := fun g => some g) (r := vp_updL o 0 v) rfl (lg_c rfl hc n_o) (fun g => lg_up rfl hc) dL_share_8 rfl (fun g hg => ?_)
  cases hg
  refine z_goto C 20 dL_share_9 rfl ?_
  refine z_iconst (pc' := 21) C dL_share_20 zk_iconst_0 rfl ?_
  exact z_iret C rfl rfl dL_share_21
theorem c_L_share_1 {w : zV} {N a c0 : Nat} {h : zH} (hN : a + 389 ≤ N) (hc : a + 389 ≤ c0) {σ : LgT} {p1 : Int32} {p2 : Int32} {o : Nat → Int64} (n_o : zc N h c0 (.inl (w.2.2.1 1, 1, .inr (.inl o)))) (hf : f_X8_share σ p1 p2 = some (.inl "java/lang/IndexOutOfBoundsException")) : zMw w yL_share cL_share 5 hh_share (zrx 9 178 2 12) N (lgH w a h σ) [.ref (zo w + a), .int p1, .int p2, .ref (zo w + c0)] (some (.int 1)) (lgH w a h σ) := by
  refine zMw_of (by decide) rfl (fun X C htab => ?_)
  refine z_aload_n (pc' := 1) C 3 dL_share_0 rfl rfl rfl ?_
  refine z_iconst (pc' := 2) C dL_share_1 zk_iconst_0 rfl ?_
  refine z_aload_n (pc' := 3) C 0 dL_share_2 rfl rfl rfl ?_
  refine z_iload_n (pc' := 4) C 1 dL_share_3 rfl rfl rfl ?_
  refine z_iload_n (pc' := 5) C 2 dL_share_4 rfl rfl rfl ?_
  refine z_cVl (pc' := 12) (st := [.int 0, .ref (zo w + c0)]) C htab (c_X8_share hN hf) [] [⟨0, 9, 16, 13⟩] ⟨0, 9, 12, 18⟩ rfl (fun z hz => absurd hz List.not_mem_nil) (by decide) (by decide) zw_702 (jE := 0) rfl zy_X8_share zw_1026 zw_1027 zw_1028 (ci := 8) rfl (lg_0 hN) rfl rfl rfl rfl rfl dL_share_5 rfl (fun q => ?_)
  refine z_astore (pc' := 14) C _ dL_share_12 rfl rfl rfl ?_
  refine z_iconst (pc' := 15) C dL_share_14 zk_iconst_1 rfl ?_
  exact z_iret C rfl rfl dL_share_15
theorem c_L_share_2 {w : zV} {N a c0 : Nat} {h : zH} (hN : a + 389 ≤ N) (hc : a + 389 ≤ c0) {σ : LgT} {p1 : Int32} {p2 : Int32} {o : Nat → Int64} (n_o : zc N h c0 (.inl (w.2.2.1 1, 1, .inr (.inl o)))) (hf : f_X8_share σ p1 p2 = some (.inl "java/lang/IllegalArgumentException")) : zMw w yL_share cL_share 5 hh_share (zrx 9 178 2 12) N (lgH w a h σ) [.ref (zo w + a), .int p1, .int p2, .ref (zo w + c0)] (some (.int 2)) (lgH w a h σ) := by
  refine zMw_of (by decide) rfl (fun X C htab => ?_)
  refine z_aload_n (pc' := 1) C 3 dL_share_0 rfl rfl rfl ?_
  refine z_iconst (pc' := 2) C dL_share_1 zk_iconst_0 rfl ?_
  refine z_aload_n (pc' := 3) C 0 dL_share_2 rfl rfl rfl ?_
  refine z_iload_n (pc' := 4) C 1 dL_share_3 rfl rfl rfl ?_
  refine z_iload_n (pc' := 5) C 2 dL_share_4 rfl rfl rfl ?_
  refine z_cVl (pc' := 16) (st := [.int 0, .ref (zo w + c0)]) C htab (c_X8_share hN hf) [⟨0, 9, 12, 18⟩] [] ⟨0, 9, 16, 13⟩ rfl (List.forall_mem_cons.mpr ⟨⟨by decide, _, 2, zw_702, rfl⟩, fun z hz => absurd hz List.not_mem_nil⟩) (by decide) (by decide) zw_445 (jE := 1) rfl zy_X8_share zw_1026 zw_1027 zw_1028 (ci := 8) rfl (lg_0 hN) rfl rfl rfl rfl rfl dL_share_5 rfl (fun q => ?_)
  refine z_astore (pc' := 18) C _ dL_share_16 rfl rfl rfl ?_
  refine z_iconst (pc' := 19) C dL_share_18 zk_iconst_2 rfl ?_
  exact z_iret C rfl rfl dL_share_19
abbrev hh_measure : List (Nat × Nat × Nat × Nat) := [(0, 12, 15, 18), (0, 12, 19, 13)]
theorem c_L_measure {w : zV} {N a c0 : Nat} {h : zH} (hN : a + 389 ≤ N) (hc : a + 389 ≤ c0) {σ σ' : LgT} {p1 : Int32} {p2 : Int32} {p3 : Int32} {o : Nat → Int64} (n_o : zc N h c0 (.inl (w.2.2.1 1, 1, .inr (.inl o)))) {v : Int32} (hf : f_X8_measure σ p1 p2 p3 = some (.inr (v, σ'))) : zMw w yL_measure cL_measure 6 hh_measure (zrx 10 212 3 18) N (lgH w a h σ) [.ref (zo w + a), .int p1, .int p2, .int p3, .ref (zo w + c0)] (some (.int 0)) (lgH w a (va_up h c0 (.inl (w.2.2.1 1, 1, .inr (.inl (vp_updL o 0 v.toInt64))))) σ') := by
  refine zMw_of (by decide) rfl (fun X C htab => ?_)
  refine z_aload (pc' := 2) C 4 dL_measure_0 rfl rfl ?_
  refine z_iconst (pc' := 3) C dL_measure_2 zk_iconst_0 rfl ?_
  refine z_aload_n (pc' := 4) C 0 dL_measure_3 rfl rfl rfl ?_
  refine z_iload_n (pc' := 5) C 1 dL_measure_4 rfl rfl rfl ?_
  refine z_iload_n (pc' := 6) C 2 dL_measure_5 rfl rfl rfl ?_
  refine z_iload_n (pc' := 7) C 3 dL_measure_6 rfl rfl rfl ?_
  refine z_cVr (pc' := 10) (st := [.int 0, .ref (zo w + c0)]) C (c_X8_measure hN hf) zy_X8_measure zw_1046 zw_1047 zw_1048 (ci := 8) rfl (lg_0 hN) rfl rfl rfl rfl rfl dL_measure_7 rfl ?_
  refine z_i2l (pc' := 11) C dL_measure_10 rfl ?_
  refine z_last (pc' := 12) C (K := fun g => some g) (r := vp_updL o 0 v.toInt64) rfl (lg_c rfl hc n_o) (fun g => lg_up rfl hc) dL_measure_11 rfl (fun g hg => ?_)
  cases hg
  refine z_goto C 23 dL_measure_12 rfl ?_
  refine z_iconst (pc' := 24) C dL_measure_23 zk_iconst_0 rfl ?_
  exact z_iret C rfl rfl dL_measure_24
theorem c_L_measure_1 {w : zV} {N a c0 : Nat} {h : zH} (hN : a + 389 ≤ N) (hc : a + 389 ≤ c0) {σ σ' : LgT} {p1 : Int32} {p2 : Int32} {p3 : Int32} {o : Nat → Int64} (n_o : zc N h c0 (.inl (w.2.2.1 1, 1, .inr (.inl o)))) (hf : f_X8_measure σ p1 p2 p3 = some (.inl ("java/lang/IndexOutOfBoundsException", σ'))) : zMw w yL_measure cL_measure 6 hh_measure (zrx 10 212 3 18) N (lgH w a h σ) [.ref (zo w + a), .int p1, .int p2, .int p3, .ref (zo w + c0)] (some (.int 1)) (lgH w a h σ') := by
  refine zMw_of (by decide) rfl (fun X C htab => ?_)
  refine z_aload (pc' := 2) C 4 dL_measure_0 rfl rfl ?_
  refine z_iconst (pc' := 3) C dL_measure_2 zk_iconst_0 rfl ?_
  refine z_aload_n (pc' := 4) C 0 dL_measure_3 rfl rfl rfl ?_
  refine z_iload_n (pc' := 5) C 1 dL_measure_4 rfl rfl rfl ?_
  refine z_iload_n (pc' := 6) C 2 dL_measure_5 rfl rfl rfl ?_
  refine z_iload_n (pc' := 7) C 3 dL_measure_6 rfl rfl rfl ?_
  refine z_cVl (pc' := 15) (st := [.int 0, .ref (zo w + c0)]) C htab (c_X8_measure hN hf) [] [⟨0, 12, 19, 13⟩] ⟨0, 12, 15, 18⟩ rfl (fun z hz => absurd hz List.not_mem_nil) (by decide) (by decide) zw_702 (jE := 0) rfl zy_X8_measure zw_1046 zw_1047 zw_1048 (ci := 8) rfl (lg_0 hN) rfl rfl rfl rfl rfl dL_measure_7 rfl (fun q => ?_)
  refine z_astore (pc' := 17) C _ dL_measure_15 rfl rfl rfl ?_
  refine z_iconst (pc' := 18) C dL_measure_17 zk_iconst_1 rfl ?_
  exact z_iret C rfl rfl dL_measure_18
theorem c_L_measure_2 {w : zV} {N a c0 : Nat} {h : zH} (hN : a + 389 ≤ N) (hc : a + 389 ≤ c0) {σ σ' : LgT} {p1 : Int32} {p2 : Int32} {p3 : Int32} {o : Nat → Int64} (n_o : zc N h c0 (.inl (w.2.2.1 1, 1, .inr (.inl o)))) (hf : f_X8_measure σ p1 p2 p3 = some (.inl ("java/lang/IllegalArgumentException", σ'))) : zMw w yL_measure cL_measure 6 hh_measure (zrx 10 212 3 18) N (lgH w a h σ) [.ref (zo w + a), .int p1, .int p2, .int p3, .ref (zo w + c0)] (some (.int 2)) (lgH w a h σ') := by
  refine zMw_of (by decide) rfl (fun X C htab => ?_)
  refine z_aload (pc' := 2) C 4 dL_measure_0 rfl rfl ?_
  refine z_iconst (pc' := 3) C dL_measure_2 zk_iconst_0 rfl ?_
  refine z_aload_n (pc' := 4) C 0 dL_measure_3 rfl rfl rfl ?_
  refine z_iload_n (pc' := 5) C 1 dL_measure_4 rfl rfl rfl ?_
  refine z_iload_n (pc' := 6) C 2 dL_measure_5 rfl rfl rfl ?_
  refine z_iload_n (pc' := 7) C 3 dL_measure_6 rfl rfl rfl ?_
  refine z_cVl (pc' := 19) (st := [.int 0, .ref (zo w + c0)]) C htab (c_X8_measure hN hf) [⟨0, 12, 15, 18⟩] [] ⟨0, 12, 19, 13⟩ rfl (List.forall_mem_cons.mpr ⟨⟨by decide, _, 2, zw_702, rfl⟩, fun z hz => absurd hz List.not_mem_nil⟩) (by decide) (by decide) zw_445 (jE := 1) rfl zy_X8_measure zw_1046 zw_1047 zw_1048 (ci := 8) rfl (lg_0 hN) rfl rfl rfl rfl rfl dL_measure_7 rfl (fun q => ?_)
  refine z_astore (pc' := 21) C _ dL_measure_19 rfl rfl rfl ?_
  refine z_iconst (pc' := 22) C dL_measure_21 zk_iconst_2 rfl ?_
  exact z_iret C rfl rfl dL_measure_22
abbrev hh_propose : List (Nat × Nat × Nat × Nat) := [(0, 12, 15, 18), (0, 12, 19, 13), (0, 12, 23, 106)]
theorem c_L_propose {w : zV} {N a c0 : Nat} {h : zH} (hN : a + 389 ≤ N) (hc : a + 389 ≤ c0) {σ σ' : LgT} {p1 : Int32} {p2 : Int32} {p3 : Int32} {o : Nat → Int64} (n_o : zc N h c0 (.inl (w.2.2.1 1, 1, .inr (.inl o)))) {v : Int32} (hf : f_X8_propose σ p1 p2 p3 = some (.inr (v, σ'))) : zMw w yL_propose cL_propose 6 hh_propose (zrx 10 209 4 24) N (lgH w a h σ) [.ref (zo w + a), .int p1, .int p2, .int p3, .ref (zo w + c0)] (some (.int 0)) (lgH w a (va_up h c0 (.inl (w.2.2.1 1, 1, .inr (.inl (vp_updL o 0 v.toInt64))))) σ') := by
  refine zMw_of (by decide) rfl (fun X C htab => ?_)
  refine z_aload (pc' := 2) C 4 dL_propose_0 rfl rfl ?_
  refine z_iconst (pc' := 3) C dL_propose_2 zk_iconst_0 rfl ?_
  refine z_aload_n (pc' := 4) C 0 dL_propose_3 rfl rfl rfl ?_
  refine z_iload_n (pc' := 5) C 1 dL_propose_4 rfl rfl rfl ?_
  refine z_iload_n (pc' := 6) C 2 dL_propose_5 rfl rfl rfl ?_
  refine z_iload_n (pc' := 7) C 3 dL_propose_6 rfl rfl rfl ?_
  refine z_cVr (pc' := 10) (st := [.int 0, .ref (zo w + c0)]) C (c_X8_propose hN hf) zy_X8_propose zw_1054 zw_1055 zw_1056 (ci := 8) rfl (lg_0 hN) rfl rfl rfl rfl rfl dL_propose_7 rfl ?_
  refine z_i2l (pc' := 11) C dL_propose_10 rfl ?_
  refine z_last (pc' := 12) C (K := fun g => some g) (r := vp_updL o 0 v.toInt64) rfl (lg_c rfl hc n_o) (fun g => lg_up rfl hc) dL_propose_11 rfl (fun g hg => ?_)
  cases hg
  refine z_goto C 27 dL_propose_12 rfl ?_
  refine z_iconst (pc' := 28) C dL_propose_27 zk_iconst_0 rfl ?_
  exact z_iret C rfl rfl dL_propose_28
theorem c_L_propose_1 {w : zV} {N a c0 : Nat} {h : zH} (hN : a + 389 ≤ N) (hc : a + 389 ≤ c0) {σ σ' : LgT} {p1 : Int32} {p2 : Int32} {p3 : Int32} {o : Nat → Int64} (n_o : zc N h c0 (.inl (w.2.2.1 1, 1, .inr (.inl o)))) (hf : f_X8_propose σ p1 p2 p3 = some (.inl ("java/lang/IndexOutOfBoundsException", σ'))) : zMw w yL_propose cL_propose 6 hh_propose (zrx 10 209 4 24) N (lgH w a h σ) [.ref (zo w + a), .int p1, .int p2, .int p3, .ref (zo w + c0)] (some (.int 1)) (lgH w a h σ') := by
  refine zMw_of (by decide) rfl (fun X C htab => ?_)
  refine z_aload (pc' := 2) C 4 dL_propose_0 rfl rfl ?_
  refine z_iconst (pc' := 3) C dL_propose_2 zk_iconst_0 rfl ?_
  refine z_aload_n (pc' := 4) C 0 dL_propose_3 rfl rfl rfl ?_
  refine z_iload_n (pc' := 5) C 1 dL_propose_4 rfl rfl rfl ?_
  refine z_iload_n (pc' := 6) C 2 dL_propose_5 rfl rfl rfl ?_
  refine z_iload_n (pc' := 7) C 3 dL_propose_6 rfl rfl rfl ?_
  refine z_cVl (pc' := 15) (st := [.int 0, .ref (zo w + c0)]) C htab (c_X8_propose hN hf) [] [⟨0, 12, 19, 13⟩, ⟨0, 12, 23, 106⟩] ⟨0, 12, 15, 18⟩ rfl (fun z hz => absurd hz List.not_mem_nil) (by decide) (by decide) zw_702 (jE := 0) rfl zy_X8_propose zw_1054 zw_1055 zw_1056 (ci := 8) rfl (lg_0 hN) rfl rfl rfl rfl rfl dL_propose_7 rfl (fun q => ?_)
  refine z_astore (pc' := 17) C _ dL_propose_15 rfl rfl rfl ?_
  refine z_iconst (pc' := 18) C dL_propose_17 zk_iconst_1 rfl ?_
  exact z_iret C rfl rfl dL_propose_18
theorem c_L_propose_2 {w : zV} {N a c0 : Nat} {h : zH} (hN : a + 389 ≤ N) (hc : a + 389 ≤ c0) {σ σ' : LgT} {p1 : Int32} {p2 : Int32} {p3 : Int32} {o : Nat → Int64} (n_o : zc N h c0 (.inl (w.2.2.1 1, 1, .inr (.inl o)))) (hf : f_X8_propose σ p1 p2 p3 = some (.inl ("java/lang/IllegalArgumentException", σ'))) : zMw w yL_propose cL_propose 6 hh_propose (zrx 10 209 4 24) N (lgH w a h σ) [.ref (zo w + a), .int p1, .int p2, .int p3, .ref (zo w + c0)] (some (.int 2)) (lgH w a h σ') := by
  refine zMw_of (by decide) rfl (fun X C htab => ?_)
  refine z_aload (pc' := 2) C 4 dL_propose_0 rfl rfl ?_
  refine z_iconst (pc' := 3) C dL_propose_2 zk_iconst_0 rfl ?_
  refine z_aload_n (pc' := 4) C 0 dL_propose_3 rfl rfl rfl ?_
  refine z_iload_n (pc' := 5) C 1 dL_propose_4 rfl rfl rfl ?_
  refine z_iload_n (pc' := 6) C 2 dL_propose_5 rfl rfl rfl ?_
  refine z_iload_n (pc' := 7) C 3 dL_propose_6 rfl rfl rfl ?_
  refine z_cVl (pc' := 19) (st := [.int 0, .ref (zo w + c0)]) C htab (c_X8_propose hN hf) [⟨0, 12, 15, 18⟩] [⟨0, 12, 23, 106⟩] ⟨0, 12, 19, 13⟩ rfl (List.forall_mem_cons.mpr ⟨⟨by decide, _, 2, zw_702, rfl⟩, fun z hz => absurd hz List.not_mem_nil⟩) (by decide) (by decide) zw_445 (jE := 1) rfl zy_X8_propose zw_1054 zw_1055 zw_1056 (ci := 8) rfl (lg_0 hN) rfl rfl rfl rfl rfl dL_propose_7 rfl (fun q => ?_)
  refine z_astore (pc' := 21) C _ dL_propose_19 rfl rfl rfl ?_
  refine z_iconst (pc' := 22) C dL_propose_21 zk_iconst_2 rfl ?_
  exact z_iret C rfl rfl dL_propose_22
theorem c_L_propose_3 {w : zV} {N a c0 : Nat} {h : zH} (hN : a + 389 ≤ N) (hc : a + 389 ≤ c0) {σ σ' : LgT} {p1 : Int32} {p2 : Int32} {p3 : Int32} {o : Nat → Int64} (n_o : zc N h c0 (.inl (w.2.2.1 1, 1, .inr (.inl o)))) (hf : f_X8_propose σ p1 p2 p3 = some (.inl ("java/lang/IllegalStateException", σ'))) : zMw w yL_propose cL_propose 6 hh_propose (zrx 10 209 4 24) N (lgH w a h σ) [.ref (zo w + a), .int p1, .int p2, .int p3, .ref (zo w + c0)] (some (.int 3)) (lgH w a h σ') := by
  refine zMw_of (by decide) rfl (fun X C htab => ?_)
  refine z_aload (pc' := 2) C 4 dL_propose_0 rfl rfl ?_
  refine z_iconst (pc' := 3) C dL_propose_2 zk_iconst_0 rfl ?_
  refine z_aload_n (pc' := 4) C 0 dL_propose_3 rfl rfl rfl ?_
  refine z_iload_n (pc' := 5) C 1 dL_propose_4 rfl rfl rfl ?_
  refine z_iload_n (pc' := 6) C 2 dL_propose_5 rfl rfl rfl ?_
  refine z_iload_n (pc' := 7) C 3 dL_propose_6 rfl rfl rfl ?_
  refine z_cVl (pc' := 23) (st := [.int 0, .ref (zo w + c0)]) C htab (c_X8_propose hN hf) [⟨0, 12, 15, 18⟩, ⟨0, 12, 19, 13⟩] [] ⟨0, 12, 23, 106⟩ rfl (List.forall_mem_cons.mpr ⟨⟨by decide, _, 3, zw_702, rfl⟩, List.forall_mem_cons.mpr ⟨⟨by decide, _, 1, zw_445, rfl⟩, fun z hz => absurd hz List.not_mem_nil⟩⟩) (by decide) (by decide) zw_1053 (jE := 2) rfl zy_X8_propose zw_1054 zw_1055 zw_1056 (ci := 8) rfl (lg_0 hN) rfl rfl rfl rfl rfl dL_propose_7 rfl (fun q => ?_)
  refine z_astore (pc' := 25) C _ dL_propose_23 rfl rfl rfl ?_
  refine z_iconst (pc' := 26) C dL_propose_25 zk_iconst_3 rfl ?_
  exact z_iret C rfl rfl dL_propose_26
abbrev hh_approve : List (Nat × Nat × Nat × Nat) := [(0, 9, 12, 18), (0, 9, 15, 106)]
theorem c_L_approve {w : zV} {N a c0 : Nat} {h : zH} (hN : a + 389 ≤ N) (hc : a + 389 ≤ c0) {σ σ' : LgT} {p1 : Int32} {o : Nat → Int64} (n_o : zc N h c0 (.inl (w.2.2.1 1, 1, .inr (.inl o)))) {v : Int32} (hf : f_X8_approve σ p1 = some (.inr (v, σ'))) : zMw w yL_approve cL_approve 4 hh_approve (zrx 9 179 3 18) N (lgH w a h σ) [.ref (zo w + a), .int p1, .ref (zo w + c0)] (some (.int 0)) (lgH w a (va_up h c0 (.inl (w.2.2.1 1, 1, .inr (.inl (vp_updL o 0 v.toInt64))))) σ') := by
  refine zMw_of (by decide) rfl (fun X C htab => ?_)
  refine z_aload_n (pc' := 1) C 2 dL_approve_0 rfl rfl rfl ?_
  refine z_iconst (pc' := 2) C dL_approve_1 zk_iconst_0 rfl ?_
  refine z_aload_n (pc' := 3) C 0 dL_approve_2 rfl rfl rfl ?_
  refine z_iload_n (pc' := 4) C 1 dL_approve_3 rfl rfl rfl ?_
  refine z_cVr (pc' := 7) (st := [.int 0, .ref (zo w + c0)]) C (c_X8_approve hN hf) zy_X8_approve zw_1085 zw_1086 zw_1087 (ci := 8) rfl (lg_0 hN) rfl rfl rfl rfl rfl dL_approve_4 rfl ?_
  refine z_i2l (pc' := 8) C dL_approve_7 rfl ?_
  refine z_last (pc' := 9) C (K := fun g => some g) (r := vp_updL o 0 v.toInt64) rfl (lg_c rfl hc n_o) (fun g => lg_up rfl hc) dL_approve_8 rfl (fun g hg => ?_)
  cases hg
  refine z_goto C 18 dL_approve_9 rfl ?_
  refine z_iconst (pc' := 19) C dL_approve_18 zk_iconst_0 rfl ?_
  exact z_iret C rfl rfl dL_approve_19
theorem c_L_approve_1 {w : zV} {N a c0 : Nat} {h : zH} (hN : a + 389 ≤ N) (hc : a + 389 ≤ c0) {σ σ' : LgT} {p1 : Int32} {o : Nat → Int64} (n_o : zc N h c0 (.inl (w.2.2.1 1, 1, .inr (.inl o)))) (hf : f_X8_approve σ p1 = some (.inl ("java/lang/IndexOutOfBoundsException", σ'))) : zMw w yL_approve cL_approve 4 hh_approve (zrx 9 179 3 18) N (lgH w a h σ) [.ref (zo w + a), .int p1, .ref (zo w + c0)] (some (.int 1)) (lgH w a h σ') := by
  refine zMw_of (by decide) rfl (fun X C htab => ?_)
  refine z_aload_n (pc' := 1) C 2 dL_approve_0 rfl rfl rfl ?_
  refine z_iconst (pc' := 2) C dL_approve_1 zk_iconst_0 rfl ?_
  refine z_aload_n (pc' := 3) C 0 dL_approve_2 rfl rfl rfl ?_
  refine z_iload_n (pc' := 4) C 1 dL_approve_3 rfl rfl rfl ?_
  refine z_cVl (pc' := 12) (st := [.int 0, .ref (zo w + c0)]) C htab (c_X8_approve hN hf) [] [⟨0, 9, 15, 106⟩] ⟨0, 9, 12, 18⟩ rfl (fun z hz => absurd hz List.not_mem_nil) (by decide) (by decide) zw_702 (jE := 0) rfl zy_X8_approve zw_1085 zw_1086 zw_1087 (ci := 8) rfl (lg_0 hN) rfl rfl rfl rfl rfl dL_approve_4 rfl (fun q => ?_)
  refine z_astore_n (pc' := 13) C _ dL_approve_12 rfl rfl rfl rfl ?_
  refine z_iconst (pc' := 14) C dL_approve_13 zk_iconst_1 rfl ?_
  exact z_iret C rfl rfl dL_approve_14
theorem c_L_approve_2 {w : zV} {N a c0 : Nat} {h : zH} (hN : a + 389 ≤ N) (hc : a + 389 ≤ c0) {σ σ' : LgT} {p1 : Int32} {o : Nat → Int64} (n_o : zc N h c0 (.inl (w.2.2.1 1, 1, .inr (.inl o)))) (hf : f_X8_approve σ p1 = some (.inl ("java/lang/IllegalStateException", σ'))) : zMw w yL_approve cL_approve 4 hh_approve (zrx 9 179 3 18) N (lgH w a h σ) [.ref (zo w + a), .int p1, .ref (zo w + c0)] (some (.int 2)) (lgH w a h σ') := by
  refine zMw_of (by decide) rfl (fun X C htab => ?_)
  refine z_aload_n (pc' := 1) C 2 dL_approve_0 rfl rfl rfl ?_
  refine z_iconst (pc' := 2) C dL_approve_1 zk_iconst_0 rfl ?_
  refine z_aload_n (pc' := 3) C 0 dL_approve_2 rfl rfl rfl ?_
  refine z_iload_n (pc' := 4) C 1 dL_approve_3 rfl rfl rfl ?_
  refine z_cVl (pc' := 15) (st := [.int 0, .ref (zo w + c0)]) C htab (c_X8_approve hN hf) [⟨0, 9, 12, 18⟩] [] ⟨0, 9, 15, 106⟩ rfl (List.forall_mem_cons.mpr ⟨⟨by decide, _, 3, zw_702, rfl⟩, fun z hz => absurd hz List.not_mem_nil⟩) (by decide) (by decide) zw_1053 (jE := 2) rfl zy_X8_approve zw_1085 zw_1086 zw_1087 (ci := 8) rfl (lg_0 hN) rfl rfl rfl rfl rfl dL_approve_4 rfl (fun q => ?_)
  refine z_astore_n (pc' := 16) C _ dL_approve_15 rfl rfl rfl rfl ?_
  refine z_iconst (pc' := 17) C dL_approve_16 zk_iconst_2 rfl ?_
  exact z_iret C rfl rfl dL_approve_17
abbrev hh_certify : List (Nat × Nat × Nat × Nat) := [(0, 9, 12, 18), (0, 9, 15, 106)]
theorem c_L_certify {w : zV} {N a c0 : Nat} {h : zH} (hN : a + 389 ≤ N) (hc : a + 389 ≤ c0) {σ σ' : LgT} {p1 : Int32} {o : Nat → Int64} (n_o : zc N h c0 (.inl (w.2.2.1 1, 1, .inr (.inl o)))) (hG : PgW w N a h σ) {v : Int32} (hf : f_X8_certify σ p1 = some (.inr (v, σ'))) : zMw w yL_certify cL_certify 4 hh_certify (zrx 9 271 2 12) N (lgH w a h σ) [.ref (zo w + a), .int p1, .ref (zo w + c0)] (some (.int 0)) (lgH w a (va_up h c0 (.inl (w.2.2.1 1, 1, .inr (.inl (vp_updL o 0 v.toInt64))))) σ') := by
  refine zMw_of (by decide) rfl (fun X C htab => ?_)
  refine z_aload_n (pc' := 1) C 2 dL_certify_0 rfl rfl rfl ?_
  refine z_iconst (pc' := 2) C dL_certify_1 zk_iconst_0 rfl ?_
  refine z_aload_n (pc' := 3) C 0 dL_certify_2 rfl rfl rfl ?_
  refine z_iload_n (pc' := 4) C 1 dL_certify_3 rfl rfl rfl ?_
  refine z_cVr (pc' := 7) (st := [.int 0, .ref (zo w + c0)]) C (c_X8_certify hN hG hf) zy_X8_certify zw_1093 zw_1094 zw_1095 (ci := 8) rfl (lg_0 hN) rfl rfl rfl rfl rfl dL_certify_4 rfl ?_
  refine z_i2l (pc' := 8) C dL_certify_7 rfl ?_
  refine z_last (pc' := 9) C (K := fun g => some g) (r := vp_updL o 0 v.toInt64) rfl (lg_c rfl hc n_o) (fun g => lg_up rfl hc) dL_certify_8 rfl (fun g hg => ?_)
  cases hg
  refine z_goto C 18 dL_certify_9 rfl ?_
  refine z_iconst (pc' := 19) C dL_certify_18 zk_iconst_0 rfl ?_
  exact z_iret C rfl rfl dL_certify_19
theorem c_L_certify_1 {w : zV} {N a c0 : Nat} {h : zH} (hN : a + 389 ≤ N) (hc : a + 389 ≤ c0) {σ σ' : LgT} {p1 : Int32} {o : Nat → Int64} (n_o : zc N h c0 (.inl (w.2.2.1 1, 1, .inr (.inl o)))) (hG : PgW w N a h σ) (hf : f_X8_certify σ p1 = some (.inl ("java/lang/IndexOutOfBoundsException", σ'))) : zMw w yL_certify cL_certify 4 hh_certify (zrx 9 271 2 12) N (lgH w a h σ) [.ref (zo w + a), .int p1, .ref (zo w + c0)] (some (.int 1)) (lgH w a h σ') := by
  refine zMw_of (by decide) rfl (fun X C htab => ?_)
  refine z_aload_n (pc' := 1) C 2 dL_certify_0 rfl rfl rfl ?_
  refine z_iconst (pc' := 2) C dL_certify_1 zk_iconst_0 rfl ?_
  refine z_aload_n (pc' := 3) C 0 dL_certify_2 rfl rfl rfl ?_
  refine z_iload_n (pc' := 4) C 1 dL_certify_3 rfl rfl rfl ?_
  refine z_cVl (pc' := 12) (st := [.int 0, .ref (zo w + c0)]) C htab (c_X8_certify hN hG hf) [] [⟨0, 9, 15, 106⟩] ⟨0, 9, 12, 18⟩ rfl (fun z hz => absurd hz List.not_mem_nil) (by decide) (by decide) zw_702 (jE := 0) rfl zy_X8_certify zw_1093 zw_1094 zw_1095 (ci := 8) rfl (lg_0 hN) rfl rfl rfl rfl rfl dL_certify_4 rfl (fun q => ?_)
  refine z_astore_n (pc' := 13) C _ dL_certify_12 rfl rfl rfl rfl ?_
  refine z_iconst (pc' := 14) C dL_certify_13 zk_iconst_1 rfl ?_
  exact z_iret C rfl rfl dL_certify_14
theorem c_L_certify_2 {w : zV} {N a c0 : Nat} {h : zH} (hN : a + 389 ≤ N) (hc : a + 389 ≤ c0) {σ σ' : LgT} {p1 : Int32} {o : Nat → Int64} (n_o : zc N h c0 (.inl (w.2.2.1 1, 1, .inr (.inl o)))) (hG : PgW w N a h σ) (hf : f_X8_certify σ p1 = some (.inl ("java/lang/IllegalStateException", σ'))) : zMw w yL_certify cL_certify 4 hh_certify (zrx 9 271 2 12) N (lgH w a h σ) [.ref (zo w + a), .int p1, .ref (zo w + c0)] (some (.int 2)) (lgH w a h σ') := by
  refine zMw_of (by decide) rfl (fun X C htab => ?_)
  refine z_aload_n (pc' := 1) C 2 dL_certify_0 rfl rfl rfl ?_
  refine z_iconst (pc' := 2) C dL_certify_1 zk_iconst_0 rfl ?_
  refine z_aload_n (pc' := 3) C 0 dL_certify_2 rfl rfl rfl ?_
  refine z_iload_n (pc' := 4) C 1 dL_certify_3 rfl rfl rfl ?_
  refine z_cVl (pc' := 15) (st := [.int 0, .ref (zo w + c0)]) C htab (c_X8_certify hN hG hf) [⟨0, 9, 12, 18⟩] [] ⟨0, 9, 15, 106⟩ rfl (List.forall_mem_cons.mpr ⟨⟨by decide, _, 3, zw_702, rfl⟩, fun z hz => absurd hz List.not_mem_nil⟩) (by decide) (by decide) zw_1053 (jE := 2) rfl zy_X8_certify zw_1093 zw_1094 zw_1095 (ci := 8) rfl (lg_0 hN) rfl rfl rfl rfl rfl dL_certify_4 rfl (fun q => ?_)
  refine z_astore_n (pc' := 16) C _ dL_certify_15 rfl rfl rfl rfl ?_
  refine z_iconst (pc' := 17) C dL_certify_16 zk_iconst_2 rfl ?_
  exact z_iret C rfl rfl dL_certify_17
abbrev hh_nextStage : List (Nat × Nat × Nat × Nat) := [(0, 9, 12, 18), (0, 9, 15, 106)]
theorem c_L_nextStage {w : zV} {N a c0 : Nat} {h : zH} (hN : a + 389 ≤ N) (hc : a + 389 ≤ c0) {σ σ' : LgT} {p1 : Int32} {o : Nat → Int64} (n_o : zc N h c0 (.inl (w.2.2.1 1, 1, .inr (.inl o)))) {v : Int32} (hf : f_X8_nextStage σ p1 = some (.inr (v, σ'))) : zMw w yL_nextStage cL_nextStage 4 hh_nextStage (zrx 9 178 3 18) N (lgH w a h σ) [.ref (zo w + a), .int p1, .ref (zo w + c0)] (some (.int 0)) (lgH w a (va_up h c0 (.inl (w.2.2.1 1, 1, .inr (.inl (vp_updL o 0 v.toInt64))))) σ') := by
  refine zMw_of (by decide) rfl (fun X C htab => ?_)
  refine z_aload_n (pc' := 1) C 2 dL_nextStage_0 rfl rfl rfl ?_
  refine z_iconst (pc' := 2) C dL_nextStage_1 zk_iconst_0 rfl ?_
  refine z_aload_n (pc' := 3) C 0 dL_nextStage_2 rfl rfl rfl ?_
  refine z_iload_n (pc' := 4) C 1 dL_nextStage_3 rfl rfl rfl ?_
  refine z_cVr (pc' := 7) (st := [.int 0, .ref (zo w + c0)]) C (c_X8_nextStage hN hf) zy_X8_nextStage zw_1109 zw_1110 zw_1111 (ci := 8) rfl (lg_0 hN) rfl rfl rfl rfl rfl dL_nextStage_4 rfl ?_
  refine z_i2l (pc' := 8) C dL_nextStage_7 rfl ?_
  refine z_last (pc' := 9) C (K := fun g => some g) (r := vp_updL o 0 v.toInt64) rfl (lg_c rfl hc n_o) (fun g => lg_up rfl hc) dL_nextStage_8 rfl (fun g hg => ?_)
  cases hg
  refine z_goto C 18 dL_nextStage_9 rfl ?_
  refine z_iconst (pc' := 19) C dL_nextStage_18 zk_iconst_0 rfl ?_
  exact z_iret C rfl rfl dL_nextStage_19
theorem c_L_nextStage_1 {w : zV} {N a c0 : Nat} {h : zH} (hN : a + 389 ≤ N) (hc : a + 389 ≤ c0) {σ σ' : LgT} {p1 : Int32} {o : Nat → Int64} (n_o : zc N h c0 (.inl (w.2.2.1 1, 1, .inr (.inl o)))) (hf : f_X8_nextStage σ p1 = some (.inl ("java/lang/IndexOutOfBoundsException", σ'))) : zMw w yL_nextStage cL_nextStage 4 hh_nextStage (zrx 9 178 3 18) N (lgH w a h σ) [.ref (zo w + a), .int p1, .ref (zo w + c0)] (some (.int 1)) (lgH w a h σ') := by
  refine zMw_of (by decide) rfl (fun X C htab => ?_)
  refine z_aload_n (pc' := 1) C 2 dL_nextStage_0 rfl rfl rfl ?_
  refine z_iconst (pc' := 2) C dL_nextStage_1 zk_iconst_0 rfl ?_
  refine z_aload_n (pc' := 3) C 0 dL_nextStage_2 rfl rfl rfl ?_
  refine z_iload_n (pc' := 4) C 1 dL_nextStage_3 rfl rfl rfl ?_
  refine z_cVl (pc' := 12) (st := [.int 0, .ref (zo w + c0)]) C htab (c_X8_nextStage hN hf) [] [⟨0, 9, 15, 106⟩] ⟨0, 9, 12, 18⟩ rfl (fun z hz => absurd hz List.not_mem_nil) (by decide) (by decide) zw_702 (jE := 0) rfl zy_X8_nextStage zw_1109 zw_1110 zw_1111 (ci := 8) rfl (lg_0 hN) rfl rfl rfl rfl rfl dL_nextStage_4 rfl (fun q => ?_)
  refine z_astore_n (pc' := 13) C _ dL_nextStage_12 rfl rfl rfl rfl ?_
  refine z_iconst (pc' := 14) C dL_nextStage_13 zk_iconst_1 rfl ?_
  exact z_iret C rfl rfl dL_nextStage_14
theorem c_L_nextStage_2 {w : zV} {N a c0 : Nat} {h : zH} (hN : a + 389 ≤ N) (hc : a + 389 ≤ c0) {σ σ' : LgT} {p1 : Int32} {o : Nat → Int64} (n_o : zc N h c0 (.inl (w.2.2.1 1, 1, .inr (.inl o)))) (hf : f_X8_nextStage σ p1 = some (.inl ("java/lang/IllegalStateException", σ'))) : zMw w yL_nextStage cL_nextStage 4 hh_nextStage (zrx 9 178 3 18) N (lgH w a h σ) [.ref (zo w + a), .int p1, .ref (zo w + c0)] (some (.int 2)) (lgH w a h σ') := by
  refine zMw_of (by decide) rfl (fun X C htab => ?_)
  refine z_aload_n (pc' := 1) C 2 dL_nextStage_0 rfl rfl rfl ?_
  refine z_iconst (pc' := 2) C dL_nextStage_1 zk_iconst_0 rfl ?_
  refine z_aload_n (pc' := 3) C 0 dL_nextStage_2 rfl rfl rfl ?_
  refine z_iload_n (pc' := 4) C 1 dL_nextStage_3 rfl rfl rfl ?_
  refine z_cVl (pc' := 15) (st := [.int 0, .ref (zo w + c0)]) C htab (c_X8_nextStage hN hf) [⟨0, 9, 12, 18⟩] [] ⟨0, 9, 15, 106⟩ rfl (List.forall_mem_cons.mpr ⟨⟨by decide, _, 3, zw_702, rfl⟩, fun z hz => absurd hz List.not_mem_nil⟩) (by decide) (by decide) zw_1053 (jE := 2) rfl zy_X8_nextStage zw_1109 zw_1110 zw_1111 (ci := 8) rfl (lg_0 hN) rfl rfl rfl rfl rfl dL_nextStage_4 rfl (fun q => ?_)
  refine z_astore_n (pc' := 16) C _ dL_nextStage_15 rfl rfl rfl rfl ?_
  refine z_iconst (pc' := 17) C dL_nextStage_16 zk_iconst_2 rfl ?_
  exact z_iret C rfl rfl dL_nextStage_17
abbrev hh_pay : List (Nat × Nat × Nat × Nat) := [(0, 9, 12, 18), (0, 9, 16, 13), (0, 9, 20, 106)]
theorem c_L_pay {w : zV} {N a c0 : Nat} {h : zH} (hN : a + 389 ≤ N) (hc : a + 389 ≤ c0) {σ σ' : LgT} {p1 : Int32} {p2 : Int32} {o : Nat → Int64} (n_o : zc N h c0 (.inl (w.2.2.1 1, 1, .inr (.inl o)))) {v : Int64} (hf : f_X8_pay σ p1 p2 = some (.inr (v, σ'))) : zMw w yL_pay cL_pay 5 hh_pay (zrx 9 179 3 18) N (lgH w a h σ) [.ref (zo w + a), .int p1, .int p2, .ref (zo w + c0)] (some (.int 0)) (lgH w a (va_up h c0 (.inl (w.2.2.1 1, 1, .inr (.inl (vp_updL o 0 v))))) σ') := by
  refine zMw_of (by decide) rfl (fun X C htab => ?_)
  refine z_aload_n (pc' := 1) C 3 dL_pay_0 rfl rfl rfl ?_
  refine z_iconst (pc' := 2) C dL_pay_1 zk_iconst_0 rfl ?_
  refine z_aload_n (pc' := 3) C 0 dL_pay_2 rfl rfl rfl ?_
  refine z_iload_n (pc' := 4) C 1 dL_pay_3 rfl rfl rfl ?_
  refine z_iload_n (pc' := 5) C 2 dL_pay_4 rfl rfl rfl ?_
  refine z_cVr (pc' := 8) (st := [.int 0, .ref (zo w + c0)]) C (c_X8_pay hN hf) zy_X8_pay zw_1120 zw_1121 zw_1122 (ci := 8) rfl (lg_0 hN) rfl rfl rfl rfl rfl dL_pay_5 rfl ?_
  refine z_last (pc' := 9) C (K := fun g => some g) (r := vp_updL o 0 v) rfl (lg_c rfl hc n_o) (fun g => lg_up rfl hc) dL_pay_8 rfl (fun g hg => ?_)
  cases hg
  refine z_goto C 24 dL_pay_9 rfl ?_
  refine z_iconst (pc' := 25) C dL_pay_24 zk_iconst_0 rfl ?_
  exact z_iret C rfl rfl dL_pay_25
theorem c_L_pay_1 {w : zV} {N a c0 : Nat} {h : zH} (hN : a + 389 ≤ N) (hc : a + 389 ≤ c0) {σ σ' : LgT} {p1 : Int32} {p2 : Int32} {o : Nat → Int64} (n_o : zc N h c0 (.inl (w.2.2.1 1, 1, .inr (.inl o)))) (hf : f_X8_pay σ p1 p2 = some (.inl ("java/lang/IndexOutOfBoundsException", σ'))) : zMw w yL_pay cL_pay 5 hh_pay (zrx 9 179 3 18) N (lgH w a h σ) [.ref (zo w + a), .int p1, .int p2, .ref (zo w + c0)] (some (.int 1)) (lgH w a h σ') := by
  refine zMw_of (by decide) rfl (fun X C htab => ?_)
  refine z_aload_n (pc' := 1) C 3 dL_pay_0 rfl rfl rfl ?_
  refine z_iconst (pc' := 2) C dL_pay_1 zk_iconst_0 rfl ?_
  refine z_aload_n (pc' := 3) C 0 dL_pay_2 rfl rfl rfl ?_
  refine z_iload_n (pc' := 4) C 1 dL_pay_3 rfl rfl rfl ?_
  refine z_iload_n (pc' := 5) C 2 dL_pay_4 rfl rfl rfl ?_
  refine z_cVl (pc' := 12) (st := [.int 0, .ref (zo w + c0)]) C htab (c_X8_pay hN hf) [] [⟨0, 9, 16, 13⟩, ⟨0, 9, 20, 106⟩] ⟨0, 9, 12, 18⟩ rfl (fun z hz => absurd hz List.not_mem_nil) (by decide) (by decide) zw_702 (jE := 0) rfl zy_X8_pay zw_1120 zw_1121 zw_1122 (ci := 8) rfl (lg_0 hN) rfl rfl rfl rfl rfl dL_pay_5 rfl (fun q => ?_)
  refine z_astore (pc' := 14) C _ dL_pay_12 rfl rfl rfl ?_
  refine z_iconst (pc' := 15) C dL_pay_14 zk_iconst_1 rfl ?_
  exact z_iret C rfl rfl dL_pay_15
theorem c_L_pay_2 {w : zV} {N a c0 : Nat} {h : zH} (hN : a + 389 ≤ N) (hc : a + 389 ≤ c0) {σ σ' : LgT} {p1 : Int32} {p2 : Int32} {o : Nat → Int64} (n_o : zc N h c0 (.inl (w.2.2.1 1, 1, .inr (.inl o)))) (hf : f_X8_pay σ p1 p2 = some (.inl ("java/lang/IllegalArgumentException", σ'))) : zMw w yL_pay cL_pay 5 hh_pay (zrx 9 179 3 18) N (lgH w a h σ) [.ref (zo w + a), .int p1, .int p2, .ref (zo w + c0)] (some (.int 2)) (lgH w a h σ') := by
  refine zMw_of (by decide) rfl (fun X C htab => ?_)
  refine z_aload_n (pc' := 1) C 3 dL_pay_0 rfl rfl rfl ?_
  refine z_iconst (pc' := 2) C dL_pay_1 zk_iconst_0 rfl ?_
  refine z_aload_n (pc' := 3) C 0 dL_pay_2 rfl rfl rfl ?_
  refine z_iload_n (pc' := 4) C 1 dL_pay_3 rfl rfl rfl ?_
  refine z_iload_n (pc' := 5) C 2 dL_pay_4 rfl rfl rfl ?_
  refine z_cVl (pc' := 16) (st := [.int 0, .ref (zo w + c0)]) C htab (c_X8_pay hN hf) [⟨0, 9, 12, 18⟩] [⟨0, 9, 20, 106⟩] ⟨0, 9, 16, 13⟩ rfl (List.forall_mem_cons.mpr ⟨⟨by decide, _, 2, zw_702, rfl⟩, fun z hz => absurd hz List.not_mem_nil⟩) (by decide) (by decide) zw_445 (jE := 1) rfl zy_X8_pay zw_1120 zw_1121 zw_1122 (ci := 8) rfl (lg_0 hN) rfl rfl rfl rfl rfl dL_pay_5 rfl (fun q => ?_)
  refine z_astore (pc' := 18) C _ dL_pay_16 rfl rfl rfl ?_
  refine z_iconst (pc' := 19) C dL_pay_18 zk_iconst_2 rfl ?_
  exact z_iret C rfl rfl dL_pay_19
theorem c_L_pay_3 {w : zV} {N a c0 : Nat} {h : zH} (hN : a + 389 ≤ N) (hc : a + 389 ≤ c0) {σ σ' : LgT} {p1 : Int32} {p2 : Int32} {o : Nat → Int64} (n_o : zc N h c0 (.inl (w.2.2.1 1, 1, .inr (.inl o)))) (hf : f_X8_pay σ p1 p2 = some (.inl ("java/lang/IllegalStateException", σ'))) : zMw w yL_pay cL_pay 5 hh_pay (zrx 9 179 3 18) N (lgH w a h σ) [.ref (zo w + a), .int p1, .int p2, .ref (zo w + c0)] (some (.int 3)) (lgH w a h σ') := by
  refine zMw_of (by decide) rfl (fun X C htab => ?_)
  refine z_aload_n (pc' := 1) C 3 dL_pay_0 rfl rfl rfl ?_
  refine z_iconst (pc' := 2) C dL_pay_1 zk_iconst_0 rfl ?_
  refine z_aload_n (pc' := 3) C 0 dL_pay_2 rfl rfl rfl ?_
  refine z_iload_n (pc' := 4) C 1 dL_pay_3 rfl rfl rfl ?_
  refine z_iload_n (pc' := 5) C 2 dL_pay_4 rfl rfl rfl ?_
  refine z_cVl (pc' := 20) (st := [.int 0, .ref (zo w + c0)]) C htab (c_X8_pay hN hf) [⟨0, 9, 12, 18⟩, ⟨0, 9, 16, 13⟩] [] ⟨0, 9, 20, 106⟩ rfl (List.forall_mem_cons.mpr ⟨⟨by decide, _, 3, zw_702, rfl⟩, List.forall_mem_cons.mpr ⟨⟨by decide, _, 1, zw_445, rfl⟩, fun z hz => absurd hz List.not_mem_nil⟩⟩) (by decide) (by decide) zw_1053 (jE := 2) rfl zy_X8_pay zw_1120 zw_1121 zw_1122 (ci := 8) rfl (lg_0 hN) rfl rfl rfl rfl rfl dL_pay_5 rfl (fun q => ?_)
  refine z_astore (pc' := 22) C _ dL_pay_20 rfl rfl rfl ?_
  refine z_iconst (pc' := 23) C dL_pay_22 zk_iconst_3 rfl ?_
  exact z_iret C rfl rfl dL_pay_23
abbrev hh_deposit : List (Nat × Nat × Nat × Nat) := [(0, 8, 11, 13), (0, 8, 14, 106)]
theorem c_L_deposit {w : zV} {N a c0 : Nat} {h : zH} (hN : a + 389 ≤ N) (hc : a + 389 ≤ c0) {σ σ' : LgT} {p1 : Int32} {o : Nat → Int64} (n_o : zc N h c0 (.inl (w.2.2.1 1, 1, .inr (.inl o)))) {v : Int64} (hf : f_X8_deposit σ p1 = some (.inr (v, σ'))) : zMw w yL_deposit cL_deposit 4 hh_deposit (zrx 9 177 3 18) N (lgH w a h σ) [.ref (zo w + a), .int p1, .ref (zo w + c0)] (some (.int 0)) (lgH w a (va_up h c0 (.inl (w.2.2.1 1, 1, .inr (.inl (vp_updL o 0 v))))) σ') := by
  refine zMw_of (by decide) rfl (fun X C htab => ?_)
  refine z_aload_n (pc' := 1) C 2 dL_deposit_0 rfl rfl rfl ?_
  refine z_iconst (pc' := 2) C dL_deposit_1 zk_iconst_0 rfl ?_
  refine z_aload_n (pc' := 3) C 0 dL_deposit_2 rfl rfl rfl ?_
  refine z_iload_n (pc' := 4) C 1 dL_deposit_3 rfl rfl rfl ?_
  refine z_cVr (pc' := 7) (st := [.int 0, .ref (zo w + c0)]) C (c_X8_deposit hN hf) zy_X8_deposit zw_1130 zw_1131 zw_1132 (ci := 8) rfl (lg_0 hN) rfl rfl rfl rfl rfl dL_deposit_4 rfl ?_
  refine z_last (pc' := 8) C (K := fun g => some g) (r := vp_updL o 0 v) rfl (lg_c rfl hc n_o) (fun g => lg_up rfl hc) dL_deposit_7 rfl (fun g hg => ?_)
  cases hg
  refine z_goto C 17 dL_deposit_8 rfl ?_
  refine z_iconst (pc' := 18) C dL_deposit_17 zk_iconst_0 rfl ?_
  exact z_iret C rfl rfl dL_deposit_18
theorem c_L_deposit_1 {w : zV} {N a c0 : Nat} {h : zH} (hN : a + 389 ≤ N) (hc : a + 389 ≤ c0) {σ σ' : LgT} {p1 : Int32} {o : Nat → Int64} (n_o : zc N h c0 (.inl (w.2.2.1 1, 1, .inr (.inl o)))) (hf : f_X8_deposit σ p1 = some (.inl ("java/lang/IllegalArgumentException", σ'))) : zMw w yL_deposit cL_deposit 4 hh_deposit (zrx 9 177 3 18) N (lgH w a h σ) [.ref (zo w + a), .int p1, .ref (zo w + c0)] (some (.int 1)) (lgH w a h σ') := by
  refine zMw_of (by decide) rfl (fun X C htab => ?_)
  refine z_aload_n (pc' := 1) C 2 dL_deposit_0 rfl rfl rfl ?_
  refine z_iconst (pc' := 2) C dL_deposit_1 zk_iconst_0 rfl ?_
  refine z_aload_n (pc' := 3) C 0 dL_deposit_2 rfl rfl rfl ?_
  refine z_iload_n (pc' := 4) C 1 dL_deposit_3 rfl rfl rfl ?_
  refine z_cVl (pc' := 11) (st := [.int 0, .ref (zo w + c0)]) C htab (c_X8_deposit hN hf) [] [⟨0, 8, 14, 106⟩] ⟨0, 8, 11, 13⟩ rfl (fun z hz => absurd hz List.not_mem_nil) (by decide) (by decide) zw_445 (jE := 1) rfl zy_X8_deposit zw_1130 zw_1131 zw_1132 (ci := 8) rfl (lg_0 hN) rfl rfl rfl rfl rfl dL_deposit_4 rfl (fun q => ?_)
  refine z_astore_n (pc' := 12) C _ dL_deposit_11 rfl rfl rfl rfl ?_
  refine z_iconst (pc' := 13) C dL_deposit_12 zk_iconst_1 rfl ?_
  exact z_iret C rfl rfl dL_deposit_13
theorem c_L_deposit_2 {w : zV} {N a c0 : Nat} {h : zH} (hN : a + 389 ≤ N) (hc : a + 389 ≤ c0) {σ σ' : LgT} {p1 : Int32} {o : Nat → Int64} (n_o : zc N h c0 (.inl (w.2.2.1 1, 1, .inr (.inl o)))) (hf : f_X8_deposit σ p1 = some (.inl ("java/lang/IllegalStateException", σ'))) : zMw w yL_deposit cL_deposit 4 hh_deposit (zrx 9 177 3 18) N (lgH w a h σ) [.ref (zo w + a), .int p1, .ref (zo w + c0)] (some (.int 2)) (lgH w a h σ') := by
  refine zMw_of (by decide) rfl (fun X C htab => ?_)
  refine z_aload_n (pc' := 1) C 2 dL_deposit_0 rfl rfl rfl ?_
  refine z_iconst (pc' := 2) C dL_deposit_1 zk_iconst_0 rfl ?_
  refine z_aload_n (pc' := 3) C 0 dL_deposit_2 rfl rfl rfl ?_
  refine z_iload_n (pc' := 4) C 1 dL_deposit_3 rfl rfl rfl ?_
  refine z_cVl (pc' := 14) (st := [.int 0, .ref (zo w + c0)]) C htab (c_X8_deposit hN hf) [⟨0, 8, 11, 13⟩] [] ⟨0, 8, 14, 106⟩ rfl (List.forall_mem_cons.mpr ⟨⟨by decide, _, 1, zw_445, rfl⟩, fun z hz => absurd hz List.not_mem_nil⟩) (by decide) (by decide) zw_1053 (jE := 2) rfl zy_X8_deposit zw_1130 zw_1131 zw_1132 (ci := 8) rfl (lg_0 hN) rfl rfl rfl rfl rfl dL_deposit_4 rfl (fun q => ?_)
  refine z_astore_n (pc' := 15) C _ dL_deposit_14 rfl rfl rfl rfl ?_
  refine z_iconst (pc' := 16) C dL_deposit_15 zk_iconst_2 rfl ?_
  exact z_iret C rfl rfl dL_deposit_16
abbrev hh_pass : List (Nat × Nat × Nat × Nat) := [(0, 9, 12, 13), (0, 9, 15, 106)]
theorem c_L_pass {w : zV} {N a c0 : Nat} {h : zH} (hN : a + 389 ≤ N) (hc : a + 389 ≤ c0) {σ σ' : LgT} {p1 : Int32} {o : Nat → Int64} (n_o : zc N h c0 (.inl (w.2.2.1 1, 1, .inr (.inl o)))) {v : Int32} (hf : f_X8_pass σ p1 = some (.inr (v, σ'))) : zMw w yL_pass cL_pass 4 hh_pass (zrx 9 176 3 18) N (lgH w a h σ) [.ref (zo w + a), .int p1, .ref (zo w + c0)] (some (.int 0)) (lgH w a (va_up h c0 (.inl (w.2.2.1 1, 1, .inr (.inl (vp_updL o 0 v.toInt64))))) σ') := by
  refine zMw_of (by decide) rfl (fun X C htab => ?_)
  refine z_aload_n (pc' := 1) C 2 dL_pass_0 rfl rfl rfl ?_
  refine z_iconst (pc' := 2) C dL_pass_1 zk_iconst_0 rfl ?_
  refine z_aload_n (pc' := 3) C 0 dL_pass_2 rfl rfl rfl ?_
  refine z_iload_n (pc' := 4) C 1 dL_pass_3 rfl rfl rfl ?_
  refine z_cVr (pc' := 7) (st := [.int 0, .ref (zo w + c0)]) C (c_X8_pass hN hf) zy_X8_pass zw_1143 zw_1144 zw_1145 (ci := 8) rfl (lg_0 hN) rfl rfl rfl rfl rfl dL_pass_4 rfl ?_
  refine z_i2l (pc' := 8) C dL_pass_7 rfl ?_
  refine z_last (pc' := 9) C (K := fun g => some g) (r := vp_updL o 0 v.toInt64) rfl (lg_c rfl hc n_o) (fun g => lg_up rfl hc) dL_pass_8 rfl (fun g hg => ?_)
  cases hg
  refine z_goto C 18 dL_pass_9 rfl ?_
  refine z_iconst (pc' := 19) C dL_pass_18 zk_iconst_0 rfl ?_
  exact z_iret C rfl rfl dL_pass_19
theorem c_L_pass_1 {w : zV} {N a c0 : Nat} {h : zH} (hN : a + 389 ≤ N) (hc : a + 389 ≤ c0) {σ σ' : LgT} {p1 : Int32} {o : Nat → Int64} (n_o : zc N h c0 (.inl (w.2.2.1 1, 1, .inr (.inl o)))) (hf : f_X8_pass σ p1 = some (.inl ("java/lang/IllegalArgumentException", σ'))) : zMw w yL_pass cL_pass 4 hh_pass (zrx 9 176 3 18) N (lgH w a h σ) [.ref (zo w + a), .int p1, .ref (zo w + c0)] (some (.int 1)) (lgH w a h σ') := by
  refine zMw_of (by decide) rfl (fun X C htab => ?_)
  refine z_aload_n (pc' := 1) C 2 dL_pass_0 rfl rfl rfl ?_
  refine z_iconst (pc' := 2) C dL_pass_1 zk_iconst_0 rfl ?_
  refine z_aload_n (pc' := 3) C 0 dL_pass_2 rfl rfl rfl ?_
  refine z_iload_n (pc' := 4) C 1 dL_pass_3 rfl rfl rfl ?_
  refine z_cVl (pc' := 12) (st := [.int 0, .ref (zo w + c0)]) C htab (c_X8_pass hN hf) [] [⟨0, 9, 15, 106⟩] ⟨0, 9, 12, 13⟩ rfl (fun z hz => absurd hz List.not_mem_nil) (by decide) (by decide) zw_445 (jE := 1) rfl zy_X8_pass zw_1143 zw_1144 zw_1145 (ci := 8) rfl (lg_0 hN) rfl rfl rfl rfl rfl dL_pass_4 rfl (fun q => ?_)
  refine z_astore_n (pc' := 13) C _ dL_pass_12 rfl rfl rfl rfl ?_
  refine z_iconst (pc' := 14) C dL_pass_13 zk_iconst_1 rfl ?_
  exact z_iret C rfl rfl dL_pass_14
theorem c_L_pass_2 {w : zV} {N a c0 : Nat} {h : zH} (hN : a + 389 ≤ N) (hc : a + 389 ≤ c0) {σ σ' : LgT} {p1 : Int32} {o : Nat → Int64} (n_o : zc N h c0 (.inl (w.2.2.1 1, 1, .inr (.inl o)))) (hf : f_X8_pass σ p1 = some (.inl ("java/lang/IllegalStateException", σ'))) : zMw w yL_pass cL_pass 4 hh_pass (zrx 9 176 3 18) N (lgH w a h σ) [.ref (zo w + a), .int p1, .ref (zo w + c0)] (some (.int 2)) (lgH w a h σ') := by
  refine zMw_of (by decide) rfl (fun X C htab => ?_)
  refine z_aload_n (pc' := 1) C 2 dL_pass_0 rfl rfl rfl ?_
  refine z_iconst (pc' := 2) C dL_pass_1 zk_iconst_0 rfl ?_
  refine z_aload_n (pc' := 3) C 0 dL_pass_2 rfl rfl rfl ?_
  refine z_iload_n (pc' := 4) C 1 dL_pass_3 rfl rfl rfl ?_
  refine z_cVl (pc' := 15) (st := [.int 0, .ref (zo w + c0)]) C htab (c_X8_pass hN hf) [⟨0, 9, 12, 13⟩] [] ⟨0, 9, 15, 106⟩ rfl (List.forall_mem_cons.mpr ⟨⟨by decide, _, 1, zw_445, rfl⟩, fun z hz => absurd hz List.not_mem_nil⟩) (by decide) (by decide) zw_1053 (jE := 2) rfl zy_X8_pass zw_1143 zw_1144 zw_1145 (ci := 8) rfl (lg_0 hN) rfl rfl rfl rfl rfl dL_pass_4 rfl (fun q => ?_)
  refine z_astore_n (pc' := 16) C _ dL_pass_15 rfl rfl rfl rfl ?_
  refine z_iconst (pc' := 17) C dL_pass_16 zk_iconst_2 rfl ?_
  exact z_iret C rfl rfl dL_pass_17
abbrev hh_settle : List (Nat × Nat × Nat × Nat) := [(0, 8, 11, 13), (0, 8, 14, 106)]
theorem c_L_settle {w : zV} {N a c0 : Nat} {h : zH} (hN : a + 389 ≤ N) (hc : a + 389 ≤ c0) {σ σ' : LgT} {p1 : Int32} {o : Nat → Int64} (n_o : zc N h c0 (.inl (w.2.2.1 1, 1, .inr (.inl o)))) {v : Int64} (hf : f_X8_settle σ p1 = some (.inr (v, σ'))) : zMw w yL_settle cL_settle 4 hh_settle (zrx 9 188 3 18) N (lgH w a h σ) [.ref (zo w + a), .int p1, .ref (zo w + c0)] (some (.int 0)) (lgH w a (va_up h c0 (.inl (w.2.2.1 1, 1, .inr (.inl (vp_updL o 0 v))))) σ') := by
  refine zMw_of (by decide) rfl (fun X C htab => ?_)
  refine z_aload_n (pc' := 1) C 2 dL_settle_0 rfl rfl rfl ?_
  refine z_iconst (pc' := 2) C dL_settle_1 zk_iconst_0 rfl ?_
  refine z_aload_n (pc' := 3) C 0 dL_settle_2 rfl rfl rfl ?_
  refine z_iload_n (pc' := 4) C 1 dL_settle_3 rfl rfl rfl ?_
  refine z_cVr (pc' := 7) (st := [.int 0, .ref (zo w + c0)]) C (c_X8_settle hN hf) zy_X8_settle zw_1151 zw_1152 zw_1153 (ci := 8) rfl (lg_0 hN) rfl rfl rfl rfl rfl dL_settle_4 rfl ?_
  refine z_last (pc' := 8) C (K := fun g => some g) (r := vp_updL o 0 v) rfl (lg_c rfl hc n_o) (fun g => lg_up rfl hc) dL_settle_7 rfl (fun g hg => ?_)
  cases hg
  refine z_goto C 17 dL_settle_8 rfl ?_
  refine z_iconst (pc' := 18) C dL_settle_17 zk_iconst_0 rfl ?_
  exact z_iret C rfl rfl dL_settle_18
theorem c_L_settle_1 {w : zV} {N a c0 : Nat} {h : zH} (hN : a + 389 ≤ N) (hc : a + 389 ≤ c0) {σ σ' : LgT} {p1 : Int32} {o : Nat → Int64} (n_o : zc N h c0 (.inl (w.2.2.1 1, 1, .inr (.inl o)))) (hf : f_X8_settle σ p1 = some (.inl ("java/lang/IllegalArgumentException", σ'))) : zMw w yL_settle cL_settle 4 hh_settle (zrx 9 188 3 18) N (lgH w a h σ) [.ref (zo w + a), .int p1, .ref (zo w + c0)] (some (.int 1)) (lgH w a h σ') := by
  refine zMw_of (by decide) rfl (fun X C htab => ?_)
  refine z_aload_n (pc' := 1) C 2 dL_settle_0 rfl rfl rfl ?_
  refine z_iconst (pc' := 2) C dL_settle_1 zk_iconst_0 rfl ?_
  refine z_aload_n (pc' := 3) C 0 dL_settle_2 rfl rfl rfl ?_
  refine z_iload_n (pc' := 4) C 1 dL_settle_3 rfl rfl rfl ?_
  refine z_cVl (pc' := 11) (st := [.int 0, .ref (zo w + c0)]) C htab (c_X8_settle hN hf) [] [⟨0, 8, 14, 106⟩] ⟨0, 8, 11, 13⟩ rfl (fun z hz => absurd hz List.not_mem_nil) (by decide) (by decide) zw_445 (jE := 1) rfl zy_X8_settle zw_1151 zw_1152 zw_1153 (ci := 8) rfl (lg_0 hN) rfl rfl rfl rfl rfl dL_settle_4 rfl (fun q => ?_)
  refine z_astore_n (pc' := 12) C _ dL_settle_11 rfl rfl rfl rfl ?_
  refine z_iconst (pc' := 13) C dL_settle_12 zk_iconst_1 rfl ?_
  exact z_iret C rfl rfl dL_settle_13
theorem c_L_settle_2 {w : zV} {N a c0 : Nat} {h : zH} (hN : a + 389 ≤ N) (hc : a + 389 ≤ c0) {σ σ' : LgT} {p1 : Int32} {o : Nat → Int64} (n_o : zc N h c0 (.inl (w.2.2.1 1, 1, .inr (.inl o)))) (hf : f_X8_settle σ p1 = some (.inl ("java/lang/IllegalStateException", σ'))) : zMw w yL_settle cL_settle 4 hh_settle (zrx 9 188 3 18) N (lgH w a h σ) [.ref (zo w + a), .int p1, .ref (zo w + c0)] (some (.int 2)) (lgH w a h σ') := by
  refine zMw_of (by decide) rfl (fun X C htab => ?_)
  refine z_aload_n (pc' := 1) C 2 dL_settle_0 rfl rfl rfl ?_
  refine z_iconst (pc' := 2) C dL_settle_1 zk_iconst_0 rfl ?_
  refine z_aload_n (pc' := 3) C 0 dL_settle_2 rfl rfl rfl ?_
  refine z_iload_n (pc' := 4) C 1 dL_settle_3 rfl rfl rfl ?_
  refine z_cVl (pc' := 14) (st := [.int 0, .ref (zo w + c0)]) C htab (c_X8_settle hN hf) [⟨0, 8, 11, 13⟩] [] ⟨0, 8, 14, 106⟩ rfl (List.forall_mem_cons.mpr ⟨⟨by decide, _, 1, zw_445, rfl⟩, fun z hz => absurd hz List.not_mem_nil⟩) (by decide) (by decide) zw_1053 (jE := 2) rfl zy_X8_settle zw_1151 zw_1152 zw_1153 (ci := 8) rfl (lg_0 hN) rfl rfl rfl rfl rfl dL_settle_4 rfl (fun q => ?_)
  refine z_astore_n (pc' := 15) C _ dL_settle_14 rfl rfl rfl rfl ?_
  refine z_iconst (pc' := 16) C dL_settle_15 zk_iconst_2 rfl ?_
  exact z_iret C rfl rfl dL_settle_16
abbrev hh_fileLien : List (Nat × Nat × Nat × Nat) := [(0, 9, 12, 18), (0, 9, 15, 106)]
theorem c_L_fileLien {w : zV} {N a c0 : Nat} {h : zH} (hN : a + 389 ≤ N) (hc : a + 389 ≤ c0) {σ σ' : LgT} {p1 : Int32} {o : Nat → Int64} (n_o : zc N h c0 (.inl (w.2.2.1 1, 1, .inr (.inl o)))) {v : Int32} (hf : f_X8_fileLien σ p1 = some (.inr (v, σ'))) : zMw w yL_fileLien cL_fileLien 4 hh_fileLien (zrx 9 180 3 18) N (lgH w a h σ) [.ref (zo w + a), .int p1, .ref (zo w + c0)] (some (.int 0)) (lgH w a (va_up h c0 (.inl (w.2.2.1 1, 1, .inr (.inl (vp_updL o 0 v.toInt64))))) σ') := by
  refine zMw_of (by decide) rfl (fun X C htab => ?_)
  refine z_aload_n (pc' := 1) C 2 dL_fileLien_0 rfl rfl rfl ?_
  refine z_iconst (pc' := 2) C dL_fileLien_1 zk_iconst_0 rfl ?_
  refine z_aload_n (pc' := 3) C 0 dL_fileLien_2 rfl rfl rfl ?_
  refine z_iload_n (pc' := 4) C 1 dL_fileLien_3 rfl rfl rfl ?_
  refine z_cVr (pc' := 7) (st := [.int 0, .ref (zo w + c0)]) C (c_X8_fileLien hN hf) zy_X8_fileLien zw_1158 zw_1159 zw_1160 (ci := 8) rfl (lg_0 hN) rfl rfl rfl rfl rfl dL_fileLien_4 rfl ?_
  refine z_i2l (pc' := 8) C dL_fileLien_7 rfl ?_
  refine z_last (pc' := 9) C (K := fun g => some g) (r := vp_updL o 0 v.toInt64) rfl (lg_c rfl hc n_o) (fun g => lg_up rfl hc) dL_fileLien_8 rfl (fun g hg => ?_)
  cases hg
  refine z_goto C 18 dL_fileLien_9 rfl ?_
  refine z_iconst (pc' := 19) C dL_fileLien_18 zk_iconst_0 rfl ?_
  exact z_iret C rfl rfl dL_fileLien_19
theorem c_L_fileLien_1 {w : zV} {N a c0 : Nat} {h : zH} (hN : a + 389 ≤ N) (hc : a + 389 ≤ c0) {σ σ' : LgT} {p1 : Int32} {o : Nat → Int64} (n_o : zc N h c0 (.inl (w.2.2.1 1, 1, .inr (.inl o)))) (hf : f_X8_fileLien σ p1 = some (.inl ("java/lang/IndexOutOfBoundsException", σ'))) : zMw w yL_fileLien cL_fileLien 4 hh_fileLien (zrx 9 180 3 18) N (lgH w a h σ) [.ref (zo w + a), .int p1, .ref (zo w + c0)] (some (.int 1)) (lgH w a h σ') := by
  refine zMw_of (by decide) rfl (fun X C htab => ?_)
  refine z_aload_n (pc' := 1) C 2 dL_fileLien_0 rfl rfl rfl ?_
  refine z_iconst (pc' := 2) C dL_fileLien_1 zk_iconst_0 rfl ?_
  refine z_aload_n (pc' := 3) C 0 dL_fileLien_2 rfl rfl rfl ?_
  refine z_iload_n (pc' := 4) C 1 dL_fileLien_3 rfl rfl rfl ?_
  refine z_cVl (pc' := 12) (st := [.int 0, .ref (zo w + c0)]) C htab (c_X8_fileLien hN hf) [] [⟨0, 9, 15, 106⟩] ⟨0, 9, 12, 18⟩ rfl (fun z hz => absurd hz List.not_mem_nil) (by decide) (by decide) zw_702 (jE := 0) rfl zy_X8_fileLien zw_1158 zw_1159 zw_1160 (ci := 8) rfl (lg_0 hN) rfl rfl rfl rfl rfl dL_fileLien_4 rfl (fun q => ?_)
  refine z_astore_n (pc' := 13) C _ dL_fileLien_12 rfl rfl rfl rfl ?_
  refine z_iconst (pc' := 14) C dL_fileLien_13 zk_iconst_1 rfl ?_
  exact z_iret C rfl rfl dL_fileLien_14
theorem c_L_fileLien_2 {w : zV} {N a c0 : Nat} {h : zH} (hN : a + 389 ≤ N) (hc : a + 389 ≤ c0) {σ σ' : LgT} {p1 : Int32} {o : Nat → Int64} (n_o : zc N h c0 (.inl (w.2.2.1 1, 1, .inr (.inl o)))) (hf : f_X8_fileLien σ p1 = some (.inl ("java/lang/IllegalStateException", σ'))) : zMw w yL_fileLien cL_fileLien 4 hh_fileLien (zrx 9 180 3 18) N (lgH w a h σ) [.ref (zo w + a), .int p1, .ref (zo w + c0)] (some (.int 2)) (lgH w a h σ') := by
  refine zMw_of (by decide) rfl (fun X C htab => ?_)
  refine z_aload_n (pc' := 1) C 2 dL_fileLien_0 rfl rfl rfl ?_
  refine z_iconst (pc' := 2) C dL_fileLien_1 zk_iconst_0 rfl ?_
  refine z_aload_n (pc' := 3) C 0 dL_fileLien_2 rfl rfl rfl ?_
  refine z_iload_n (pc' := 4) C 1 dL_fileLien_3 rfl rfl rfl ?_
  refine z_cVl (pc' := 15) (st := [.int 0, .ref (zo w + c0)]) C htab (c_X8_fileLien hN hf) [⟨0, 9, 12, 18⟩] [] ⟨0, 9, 15, 106⟩ rfl (List.forall_mem_cons.mpr ⟨⟨by decide, _, 3, zw_702, rfl⟩, fun z hz => absurd hz List.not_mem_nil⟩) (by decide) (by decide) zw_1053 (jE := 2) rfl zy_X8_fileLien zw_1158 zw_1159 zw_1160 (ci := 8) rfl (lg_0 hN) rfl rfl rfl rfl rfl dL_fileLien_4 rfl (fun q => ?_)
  refine z_astore_n (pc' := 16) C _ dL_fileLien_15 rfl rfl rfl rfl ?_
  refine z_iconst (pc' := 17) C dL_fileLien_16 zk_iconst_2 rfl ?_
  exact z_iret C rfl rfl dL_fileLien_17
abbrev hh_withdrawLien : List (Nat × Nat × Nat × Nat) := [(0, 8, 11, 18), (0, 8, 14, 106)]
theorem c_L_withdrawLien {w : zV} {N a c0 : Nat} {h : zH} (hN : a + 389 ≤ N) (hc : a + 389 ≤ c0) {σ σ' : LgT} {p1 : Int32} {o : Nat → Int64} (n_o : zc N h c0 (.inl (w.2.2.1 1, 1, .inr (.inl o)))) {v : Int64} (hf : f_X8_withdrawLien σ p1 = some (.inr (v, σ'))) : zMw w yL_withdrawLien cL_withdrawLien 4 hh_withdrawLien (zrx 9 179 2 12) N (lgH w a h σ) [.ref (zo w + a), .int p1, .ref (zo w + c0)] (some (.int 0)) (lgH w a (va_up h c0 (.inl (w.2.2.1 1, 1, .inr (.inl (vp_updL o 0 v))))) σ') := by
  refine zMw_of (by decide) rfl (fun X C htab => ?_)
  refine z_aload_n (pc' := 1) C 2 dL_withdrawLien_0 rfl rfl rfl ?_
  refine z_iconst (pc' := 2) C dL_withdrawLien_1 zk_iconst_0 rfl ?_
  refine z_aload_n (pc' := 3) C 0 dL_withdrawLien_2 rfl rfl rfl ?_
  refine z_iload_n (pc' := 4) C 1 dL_withdrawLien_3 rfl rfl rfl ?_
  refine z_cVr (pc' := 7) (st := [.int 0, .ref (zo w + c0)]) C (c_X8_withdrawLien hN hf) zy_X8_withdrawLien zw_1173 zw_1174 zw_1175 (ci := 8) rfl (lg_0 hN) rfl rfl rfl rfl rfl dL_withdrawLien_4 rfl ?_
  refine z_last (pc' := 8) C (K := fun g => some g) (r := vp_updL o 0 v) rfl (lg_c rfl hc n_o) (fun g => lg_up rfl hc) dL_withdrawLien_7 rfl (fun g hg => ?_)
  cases hg
  refine z_goto C 17 dL_withdrawLien_8 rfl ?_
  refine z_iconst (pc' := 18) C dL_withdrawLien_17 zk_iconst_0 rfl ?_
  exact z_iret C rfl rfl dL_withdrawLien_18
theorem c_L_withdrawLien_1 {w : zV} {N a c0 : Nat} {h : zH} (hN : a + 389 ≤ N) (hc : a + 389 ≤ c0) {σ σ' : LgT} {p1 : Int32} {o : Nat → Int64} (n_o : zc N h c0 (.inl (w.2.2.1 1, 1, .inr (.inl o)))) (hf : f_X8_withdrawLien σ p1 = some (.inl ("java/lang/IndexOutOfBoundsException", σ'))) : zMw w yL_withdrawLien cL_withdrawLien 4 hh_withdrawLien (zrx 9 179 2 12) N (lgH w a h σ) [.ref (zo w + a), .int p1, .ref (zo w + c0)] (some (.int 1)) (lgH w a h σ') := by
  refine zMw_of (by decide) rfl (fun X C htab => ?_)
  refine z_aload_n (pc' := 1) C 2 dL_withdrawLien_0 rfl rfl rfl ?_
  refine z_iconst (pc' := 2) C dL_withdrawLien_1 zk_iconst_0 rfl ?_
  refine z_aload_n (pc' := 3) C 0 dL_withdrawLien_2 rfl rfl rfl ?_
  refine z_iload_n (pc' := 4) C 1 dL_withdrawLien_3 rfl rfl rfl ?_
  refine z_cVl (pc' := 11) (st := [.int 0, .ref (zo w + c0)]) C htab (c_X8_withdrawLien hN hf) [] [⟨0, 8, 14, 106⟩] ⟨0, 8, 11, 18⟩ rfl (fun z hz => absurd hz List.not_mem_nil) (by decide) (by decide) zw_702 (jE := 0) rfl zy_X8_withdrawLien zw_1173 zw_1174 zw_1175 (ci := 8) rfl (lg_0 hN) rfl rfl rfl rfl rfl dL_withdrawLien_4 rfl (fun q => ?_)
  refine z_astore_n (pc' := 12) C _ dL_withdrawLien_11 rfl rfl rfl rfl ?_
  refine z_iconst (pc' := 13) C dL_withdrawLien_12 zk_iconst_1 rfl ?_
  exact z_iret C rfl rfl dL_withdrawLien_13
theorem c_L_withdrawLien_2 {w : zV} {N a c0 : Nat} {h : zH} (hN : a + 389 ≤ N) (hc : a + 389 ≤ c0) {σ σ' : LgT} {p1 : Int32} {o : Nat → Int64} (n_o : zc N h c0 (.inl (w.2.2.1 1, 1, .inr (.inl o)))) (hf : f_X8_withdrawLien σ p1 = some (.inl ("java/lang/IllegalStateException", σ'))) : zMw w yL_withdrawLien cL_withdrawLien 4 hh_withdrawLien (zrx 9 179 2 12) N (lgH w a h σ) [.ref (zo w + a), .int p1, .ref (zo w + c0)] (some (.int 2)) (lgH w a h σ') := by
  refine zMw_of (by decide) rfl (fun X C htab => ?_)
  refine z_aload_n (pc' := 1) C 2 dL_withdrawLien_0 rfl rfl rfl ?_
  refine z_iconst (pc' := 2) C dL_withdrawLien_1 zk_iconst_0 rfl ?_
  refine z_aload_n (pc' := 3) C 0 dL_withdrawLien_2 rfl rfl rfl ?_
  refine z_iload_n (pc' := 4) C 1 dL_withdrawLien_3 rfl rfl rfl ?_
  refine z_cVl (pc' := 14) (st := [.int 0, .ref (zo w + c0)]) C htab (c_X8_withdrawLien hN hf) [⟨0, 8, 11, 18⟩] [] ⟨0, 8, 14, 106⟩ rfl (List.forall_mem_cons.mpr ⟨⟨by decide, _, 3, zw_702, rfl⟩, fun z hz => absurd hz List.not_mem_nil⟩) (by decide) (by decide) zw_1053 (jE := 2) rfl zy_X8_withdrawLien zw_1173 zw_1174 zw_1175 (ci := 8) rfl (lg_0 hN) rfl rfl rfl rfl rfl dL_withdrawLien_4 rfl (fun q => ?_)
  refine z_astore_n (pc' := 15) C _ dL_withdrawLien_14 rfl rfl rfl rfl ?_
  refine z_iconst (pc' := 16) C dL_withdrawLien_15 zk_iconst_2 rfl ?_
  exact z_iret C rfl rfl dL_withdrawLien_16
