theorem zK_1 {w : Cond} (i : Nat) (h : tables_1_1[i]? = some w) (hg : goodWord w = true) : w ∈ zG := by
  have h := List.mem_of_getElem? h
  exact List.mem_filter.mpr ⟨List.mem_append_right _ (List.mem_append_left _ h : w ∈ tables_1), hg⟩
theorem zK_2 {w : Cond} (i : Nat) (h : tables_1_2[i]? = some w) (hg : goodWord w = true) : w ∈ zG := by
  have h := List.mem_of_getElem? h
  exact List.mem_filter.mpr ⟨List.mem_append_right _ (List.mem_append_right _ (List.mem_append_left _ h) : w ∈ tables_1), hg⟩
theorem zK_3 {w : Cond} (i : Nat) (h : tables_1_3[i]? = some w) (hg : goodWord w = true) : w ∈ zG := by
  have h := List.mem_of_getElem? h
  exact List.mem_filter.mpr ⟨List.mem_append_right _ (List.mem_append_right _ (List.mem_append_right _ (List.mem_append_left _ h)) : w ∈ tables_1), hg⟩
theorem zK_4 {w : Cond} (i : Nat) (h : tables_1_4[i]? = some w) (hg : goodWord w = true) : w ∈ zG := by
  have h := List.mem_of_getElem? h
  exact List.mem_filter.mpr ⟨List.mem_append_right _ (List.mem_append_right _ (List.mem_append_right _ (List.mem_append_right _ (List.mem_append_left _ h))) : w ∈ tables_1), hg⟩
theorem zK_5 {w : Cond} (i : Nat) (h : tables_1_5[i]? = some w) (hg : goodWord w = true) : w ∈ zG := by
  have h := List.mem_of_getElem? h
  exact List.mem_filter.mpr ⟨List.mem_append_right _ (List.mem_append_right _ (List.mem_append_right _ (List.mem_append_right _ (List.mem_append_right _ (List.mem_append_left _ h)))) : w ∈ tables_1), hg⟩
theorem zK_6 {w : Cond} (i : Nat) (h : tables_1_6[i]? = some w) (hg : goodWord w = true) : w ∈ zG := by
  have h := List.mem_of_getElem? h
  exact List.mem_filter.mpr ⟨List.mem_append_right _ (List.mem_append_right _ (List.mem_append_right _ (List.mem_append_right _ (List.mem_append_right _ (List.mem_append_right _ (List.mem_append_left _ h))))) : w ∈ tables_1), hg⟩
theorem zK_7 {w : Cond} (i : Nat) (h : tables_1_7[i]? = some w) (hg : goodWord w = true) : w ∈ zG := by
  have h := List.mem_of_getElem? h
  exact List.mem_filter.mpr ⟨List.mem_append_right _ (List.mem_append_right _ (List.mem_append_right _ (List.mem_append_right _ (List.mem_append_right _ (List.mem_append_right _ (List.mem_append_right _ (List.mem_append_left _ h)))))) : w ∈ tables_1), hg⟩
theorem zK_8 {w : Cond} (i : Nat) (h : tables_1_8[i]? = some w) (hg : goodWord w = true) : w ∈ zG := by
  have h := List.mem_of_getElem? h
  exact List.mem_filter.mpr ⟨List.mem_append_right _ (List.mem_append_right _ (List.mem_append_right _ (List.mem_append_right _ (List.mem_append_right _ (List.mem_append_right _ (List.mem_append_right _ (List.mem_append_right _ (h))))))) : w ∈ tables_1), hg⟩
theorem zH_1 {q : MethodName × Nat} (i : Nat) (h : lw_privs_1[i]? = some q) : Cond.selects q.1.cls q.1 q.1 ∈ zG := by
  have h := List.mem_of_getElem? h
  exact List.mem_filter.mpr ⟨List.mem_append_left _ (List.mem_map.mpr ⟨q, (List.mem_append_left _ h : q ∈ lw_privs), rfl⟩), rfl⟩
theorem zH_2 {q : MethodName × Nat} (i : Nat) (h : lw_privs_2[i]? = some q) : Cond.selects q.1.cls q.1 q.1 ∈ zG := by
  have h := List.mem_of_getElem? h
  exact List.mem_filter.mpr ⟨List.mem_append_left _ (List.mem_map.mpr ⟨q, (List.mem_append_right _ (List.mem_append_left _ h) : q ∈ lw_privs), rfl⟩), rfl⟩
theorem zH_3 {q : MethodName × Nat} (i : Nat) (h : lw_privs_3[i]? = some q) : Cond.selects q.1.cls q.1 q.1 ∈ zG := by
  have h := List.mem_of_getElem? h
  exact List.mem_filter.mpr ⟨List.mem_append_left _ (List.mem_map.mpr ⟨q, (List.mem_append_right _ (List.mem_append_right _ (List.mem_append_left _ h)) : q ∈ lw_privs), rfl⟩), rfl⟩
theorem zH_4 {q : MethodName × Nat} (i : Nat) (h : lw_privs_4[i]? = some q) : Cond.selects q.1.cls q.1 q.1 ∈ zG := by
  have h := List.mem_of_getElem? h
  exact List.mem_filter.mpr ⟨List.mem_append_left _ (List.mem_map.mpr ⟨q, (List.mem_append_right _ (List.mem_append_right _ (List.mem_append_right _ (List.mem_append_left _ h))) : q ∈ lw_privs), rfl⟩), rfl⟩
theorem zH_5 {q : MethodName × Nat} (i : Nat) (h : lw_privs_5[i]? = some q) : Cond.selects q.1.cls q.1 q.1 ∈ zG := by
  have h := List.mem_of_getElem? h
  exact List.mem_filter.mpr ⟨List.mem_append_left _ (List.mem_map.mpr ⟨q, (List.mem_append_right _ (List.mem_append_right _ (List.mem_append_right _ (List.mem_append_right _ (List.mem_append_left _ h)))) : q ∈ lw_privs), rfl⟩), rfl⟩
theorem zH_6 {q : MethodName × Nat} (i : Nat) (h : lw_privs_6[i]? = some q) : Cond.selects q.1.cls q.1 q.1 ∈ zG := by
  have h := List.mem_of_getElem? h
  exact List.mem_filter.mpr ⟨List.mem_append_left _ (List.mem_map.mpr ⟨q, (List.mem_append_right _ (List.mem_append_right _ (List.mem_append_right _ (List.mem_append_right _ (List.mem_append_right _ (h))))) : q ∈ lw_privs), rfl⟩), rfl⟩
theorem zv_0 : Cond.selects (⟨"ConstructionLedger", "project", "()LConstructionLedger$Project;"⟩ : MethodName).cls ⟨"ConstructionLedger", "project", "()LConstructionLedger$Project;"⟩ ⟨"ConstructionLedger", "project", "()LConstructionLedger$Project;"⟩ ∈ zG := zH_1 (q := (⟨"ConstructionLedger", "project", "()LConstructionLedger$Project;"⟩, 5)) 0 rfl
theorem zv_1 : Cond.selects (⟨"java/lang/Throwable", "fillInStackTrace", "(I)Ljava/lang/Throwable;"⟩ : MethodName).cls ⟨"java/lang/Throwable", "fillInStackTrace", "(I)Ljava/lang/Throwable;"⟩ ⟨"java/lang/Throwable", "fillInStackTrace", "(I)Ljava/lang/Throwable;"⟩ ∈ zG := zH_1 (q := (⟨"java/lang/Throwable", "fillInStackTrace", "(I)Ljava/lang/Throwable;"⟩, 6)) 1 rfl
theorem zv_2 : Cond.selects (⟨"ConstructionLedger$SetupReader", "advance", "()V"⟩ : MethodName).cls ⟨"ConstructionLedger$SetupReader", "advance", "()V"⟩ ⟨"ConstructionLedger$SetupReader", "advance", "()V"⟩ ∈ zG := zH_1 (q := (⟨"ConstructionLedger$SetupReader", "advance", "()V"⟩, 12)) 2 rfl
theorem zv_3 : Cond.selects (⟨"ConstructionLedger$SetupReader", "readHead", "()V"⟩ : MethodName).cls ⟨"ConstructionLedger$SetupReader", "readHead", "()V"⟩ ⟨"ConstructionLedger$SetupReader", "readHead", "()V"⟩ ∈ zG := zH_1 (q := (⟨"ConstructionLedger$SetupReader", "readHead", "()V"⟩, 12)) 3 rfl
theorem zv_4 : Cond.selects (⟨"ConstructionLedger$SetupReader", "takeWord", "(Ljava/lang/String;)V"⟩ : MethodName).cls ⟨"ConstructionLedger$SetupReader", "takeWord", "(Ljava/lang/String;)V"⟩ ⟨"ConstructionLedger$SetupReader", "takeWord", "(Ljava/lang/String;)V"⟩ ∈ zG := zH_1 (q := (⟨"ConstructionLedger$SetupReader", "takeWord", "(Ljava/lang/String;)V"⟩, 12)) 4 rfl
theorem zv_5 : Cond.selects (⟨"ConstructionLedger$SetupReader", "isWord", "(Ljava/lang/String;)Z"⟩ : MethodName).cls ⟨"ConstructionLedger$SetupReader", "isWord", "(Ljava/lang/String;)Z"⟩ ⟨"ConstructionLedger$SetupReader", "isWord", "(Ljava/lang/String;)Z"⟩ ∈ zG := zH_1 (q := (⟨"ConstructionLedger$SetupReader", "isWord", "(Ljava/lang/String;)Z"⟩, 12)) 5 rfl
theorem zv_6 : Cond.selects (⟨"ConstructionLedger$SetupReader", "failAt", "(II)V"⟩ : MethodName).cls ⟨"ConstructionLedger$SetupReader", "failAt", "(II)V"⟩ ⟨"ConstructionLedger$SetupReader", "failAt", "(II)V"⟩ ∈ zG := zH_1 (q := (⟨"ConstructionLedger$SetupReader", "failAt", "(II)V"⟩, 12)) 6 rfl
theorem zv_7 : Cond.selects (⟨"ConstructionLedger$SetupReader", "takeNumber", "(II)I"⟩ : MethodName).cls ⟨"ConstructionLedger$SetupReader", "takeNumber", "(II)I"⟩ ⟨"ConstructionLedger$SetupReader", "takeNumber", "(II)I"⟩ ∈ zG := zH_1 (q := (⟨"ConstructionLedger$SetupReader", "takeNumber", "(II)I"⟩, 12)) 7 rfl
theorem zv_8 : Cond.selects (⟨"ConstructionLedger$SetupReader", "take", "(I)V"⟩ : MethodName).cls ⟨"ConstructionLedger$SetupReader", "take", "(I)V"⟩ ⟨"ConstructionLedger$SetupReader", "take", "(I)V"⟩ ∈ zG := zH_1 (q := (⟨"ConstructionLedger$SetupReader", "take", "(I)V"⟩, 12)) 8 rfl
theorem zv_9 : Cond.selects (⟨"ConstructionLedger$SetupReader", "readStatement", "()V"⟩ : MethodName).cls ⟨"ConstructionLedger$SetupReader", "readStatement", "()V"⟩ ⟨"ConstructionLedger$SetupReader", "readStatement", "()V"⟩ ∈ zG := zH_1 (q := (⟨"ConstructionLedger$SetupReader", "readStatement", "()V"⟩, 12)) 9 rfl
theorem zv_10 : Cond.selects (⟨"ConstructionLedger$SetupReader", "readSub", "()V"⟩ : MethodName).cls ⟨"ConstructionLedger$SetupReader", "readSub", "()V"⟩ ⟨"ConstructionLedger$SetupReader", "readSub", "()V"⟩ ∈ zG := zH_1 (q := (⟨"ConstructionLedger$SetupReader", "readSub", "()V"⟩, 12)) 10 rfl
theorem zv_11 : Cond.selects (⟨"ConstructionLedger$SetupReader", "readItem", "()V"⟩ : MethodName).cls ⟨"ConstructionLedger$SetupReader", "readItem", "()V"⟩ ⟨"ConstructionLedger$SetupReader", "readItem", "()V"⟩ ∈ zG := zH_1 (q := (⟨"ConstructionLedger$SetupReader", "readItem", "()V"⟩, 12)) 11 rfl
theorem zv_12 : Cond.selects (⟨"ConstructionLedger$SetupReader", "readSum", "(I)V"⟩ : MethodName).cls ⟨"ConstructionLedger$SetupReader", "readSum", "(I)V"⟩ ⟨"ConstructionLedger$SetupReader", "readSum", "(I)V"⟩ ∈ zG := zH_1 (q := (⟨"ConstructionLedger$SetupReader", "readSum", "(I)V"⟩, 12)) 12 rfl
theorem zv_13 : Cond.selects (⟨"ConstructionLedger$SetupReader", "readTerm", "(I)V"⟩ : MethodName).cls ⟨"ConstructionLedger$SetupReader", "readTerm", "(I)V"⟩ ⟨"ConstructionLedger$SetupReader", "readTerm", "(I)V"⟩ ∈ zG := zH_1 (q := (⟨"ConstructionLedger$SetupReader", "readTerm", "(I)V"⟩, 12)) 13 rfl
theorem zv_14 : Cond.selects (⟨"ConstructionLedger$SetupReader", "readFactor", "(I)V"⟩ : MethodName).cls ⟨"ConstructionLedger$SetupReader", "readFactor", "(I)V"⟩ ⟨"ConstructionLedger$SetupReader", "readFactor", "(I)V"⟩ ∈ zG := zH_1 (q := (⟨"ConstructionLedger$SetupReader", "readFactor", "(I)V"⟩, 12)) 14 rfl
theorem zv_15 : Cond.selects (⟨"ConstructionLedger$SetupReader", "addOperand", "(I)V"⟩ : MethodName).cls ⟨"ConstructionLedger$SetupReader", "addOperand", "(I)V"⟩ ⟨"ConstructionLedger$SetupReader", "addOperand", "(I)V"⟩ ∈ zG := zH_1 (q := (⟨"ConstructionLedger$SetupReader", "addOperand", "(I)V"⟩, 12)) 15 rfl
theorem zv_16 : Cond.selects (⟨"ConstructionLedger", "beginChange", "()LConstructionLedger$Project;"⟩ : MethodName).cls ⟨"ConstructionLedger", "beginChange", "()LConstructionLedger$Project;"⟩ ⟨"ConstructionLedger", "beginChange", "()LConstructionLedger$Project;"⟩ ∈ zG := zH_2 (q := (⟨"ConstructionLedger", "beginChange", "()LConstructionLedger$Project;"⟩, 5)) 0 rfl
theorem zv_17 : Cond.selects (⟨"ConstructionLedger", "checkContract", "(I)V"⟩ : MethodName).cls ⟨"ConstructionLedger", "checkContract", "(I)V"⟩ ⟨"ConstructionLedger", "checkContract", "(I)V"⟩ ∈ zG := zH_2 (q := (⟨"ConstructionLedger", "checkContract", "(I)V"⟩, 5)) 1 rfl
theorem zv_18 : Cond.selects (⟨"ConstructionLedger", "checkItem", "(II)V"⟩ : MethodName).cls ⟨"ConstructionLedger", "checkItem", "(II)V"⟩ ⟨"ConstructionLedger", "checkItem", "(II)V"⟩ ∈ zG := zH_2 (q := (⟨"ConstructionLedger", "checkItem", "(II)V"⟩, 5)) 2 rfl
theorem zv_19 : Cond.selects (⟨"ConstructionLedger", "checkCertificate", "(I)V"⟩ : MethodName).cls ⟨"ConstructionLedger", "checkCertificate", "(I)V"⟩ ⟨"ConstructionLedger", "checkCertificate", "(I)V"⟩ ∈ zG := zH_2 (q := (⟨"ConstructionLedger", "checkCertificate", "(I)V"⟩, 5)) 3 rfl
theorem zv_20 : Cond.selects (⟨"ConstructionLedger", "checkVariation", "(I)V"⟩ : MethodName).cls ⟨"ConstructionLedger", "checkVariation", "(I)V"⟩ ⟨"ConstructionLedger", "checkVariation", "(I)V"⟩ ∈ zG := zH_2 (q := (⟨"ConstructionLedger", "checkVariation", "(I)V"⟩, 5)) 4 rfl
theorem zv_21 : Cond.selects (⟨"ConstructionLedger", "checkLien", "(I)V"⟩ : MethodName).cls ⟨"ConstructionLedger", "checkLien", "(I)V"⟩ ⟨"ConstructionLedger", "checkLien", "(I)V"⟩ ∈ zG := zH_2 (q := (⟨"ConstructionLedger", "checkLien", "(I)V"⟩, 5)) 5 rfl
theorem zv_22 : Cond.selects (⟨"ConstructionLedger", "checkProject", "()V"⟩ : MethodName).cls ⟨"ConstructionLedger", "checkProject", "()V"⟩ ⟨"ConstructionLedger", "checkProject", "()V"⟩ ∈ zG := zH_2 (q := (⟨"ConstructionLedger", "checkProject", "()V"⟩, 5)) 6 rfl
theorem zv_23 : Cond.selects (⟨"ConstructionLedgerModel", "right", "(ZI)Z"⟩ : MethodName).cls ⟨"ConstructionLedgerModel", "right", "(ZI)Z"⟩ ⟨"ConstructionLedgerModel", "right", "(ZI)Z"⟩ ∈ zG := zH_2 (q := (⟨"ConstructionLedgerModel", "right", "(ZI)Z"⟩, 17)) 7 rfl
theorem zv_24 : Cond.selects (⟨"ConstructionLedgerModel", "texts", "()V"⟩ : MethodName).cls ⟨"ConstructionLedgerModel", "texts", "()V"⟩ ⟨"ConstructionLedgerModel", "texts", "()V"⟩ ∈ zG := zH_2 (q := (⟨"ConstructionLedgerModel", "texts", "()V"⟩, 17)) 8 rfl
theorem zv_25 : Cond.selects (⟨"ConstructionLedgerModel", "needs", "(Ljava/lang/String;)V"⟩ : MethodName).cls ⟨"ConstructionLedgerModel", "needs", "(Ljava/lang/String;)V"⟩ ⟨"ConstructionLedgerModel", "needs", "(Ljava/lang/String;)V"⟩ ∈ zG := zH_2 (q := (⟨"ConstructionLedgerModel", "needs", "(Ljava/lang/String;)V"⟩, 17)) 9 rfl
theorem zv_26 : Cond.selects (⟨"ConstructionLedgerModel", "takes", "(Ljava/lang/String;)Z"⟩ : MethodName).cls ⟨"ConstructionLedgerModel", "takes", "(Ljava/lang/String;)Z"⟩ ⟨"ConstructionLedgerModel", "takes", "(Ljava/lang/String;)Z"⟩ ∈ zG := zH_2 (q := (⟨"ConstructionLedgerModel", "takes", "(Ljava/lang/String;)Z"⟩, 17)) 10 rfl
theorem zv_27 : Cond.selects (⟨"ConstructionLedgerModel", "isWord", "(Ljava/lang/String;)Z"⟩ : MethodName).cls ⟨"ConstructionLedgerModel", "isWord", "(Ljava/lang/String;)Z"⟩ ⟨"ConstructionLedgerModel", "isWord", "(Ljava/lang/String;)Z"⟩ ∈ zG := zH_2 (q := (⟨"ConstructionLedgerModel", "isWord", "(Ljava/lang/String;)Z"⟩, 17)) 11 rfl
theorem zv_28 : Cond.selects (⟨"ConstructionLedgerModel", "sees", "()I"⟩ : MethodName).cls ⟨"ConstructionLedgerModel", "sees", "()I"⟩ ⟨"ConstructionLedgerModel", "sees", "()I"⟩ ∈ zG := zH_2 (q := (⟨"ConstructionLedgerModel", "sees", "()I"⟩, 17)) 12 rfl
theorem zv_29 : Cond.selects (⟨"ConstructionLedgerModel", "fails", "(II)V"⟩ : MethodName).cls ⟨"ConstructionLedgerModel", "fails", "(II)V"⟩ ⟨"ConstructionLedgerModel", "fails", "(II)V"⟩ ∈ zG := zH_2 (q := (⟨"ConstructionLedgerModel", "fails", "(II)V"⟩, 17)) 13 rfl
theorem zv_30 : Cond.selects (⟨"ConstructionLedgerModel", "reads", "(II)I"⟩ : MethodName).cls ⟨"ConstructionLedgerModel", "reads", "(II)I"⟩ ⟨"ConstructionLedgerModel", "reads", "(II)I"⟩ ∈ zG := zH_2 (q := (⟨"ConstructionLedgerModel", "reads", "(II)I"⟩, 17)) 14 rfl
theorem zv_31 : Cond.selects (⟨"ConstructionLedgerModel", "isDigit", "()Z"⟩ : MethodName).cls ⟨"ConstructionLedgerModel", "isDigit", "()Z"⟩ ⟨"ConstructionLedgerModel", "isDigit", "()Z"⟩ ∈ zG := zH_2 (q := (⟨"ConstructionLedgerModel", "isDigit", "()Z"⟩, 17)) 15 rfl
theorem zv_32 : Cond.selects (⟨"ConstructionLedgerModel", "wants", "(I)V"⟩ : MethodName).cls ⟨"ConstructionLedgerModel", "wants", "(I)V"⟩ ⟨"ConstructionLedgerModel", "wants", "(I)V"⟩ ∈ zG := zH_3 (q := (⟨"ConstructionLedgerModel", "wants", "(I)V"⟩, 17)) 0 rfl
theorem zv_33 : Cond.selects (⟨"ConstructionLedgerModel", "terms", "(I)V"⟩ : MethodName).cls ⟨"ConstructionLedgerModel", "terms", "(I)V"⟩ ⟨"ConstructionLedgerModel", "terms", "(I)V"⟩ ∈ zG := zH_3 (q := (⟨"ConstructionLedgerModel", "terms", "(I)V"⟩, 17)) 1 rfl
theorem zv_34 : Cond.selects (⟨"ConstructionLedgerModel", "statement", "()V"⟩ : MethodName).cls ⟨"ConstructionLedgerModel", "statement", "()V"⟩ ⟨"ConstructionLedgerModel", "statement", "()V"⟩ ∈ zG := zH_3 (q := (⟨"ConstructionLedgerModel", "statement", "()V"⟩, 17)) 2 rfl
theorem zv_35 : Cond.selects (⟨"ConstructionLedgerModel", "subLine", "(I)V"⟩ : MethodName).cls ⟨"ConstructionLedgerModel", "subLine", "(I)V"⟩ ⟨"ConstructionLedgerModel", "subLine", "(I)V"⟩ ∈ zG := zH_3 (q := (⟨"ConstructionLedgerModel", "subLine", "(I)V"⟩, 17)) 3 rfl
theorem zv_36 : Cond.selects (⟨"ConstructionLedgerModel", "itemLine", "()V"⟩ : MethodName).cls ⟨"ConstructionLedgerModel", "itemLine", "()V"⟩ ⟨"ConstructionLedgerModel", "itemLine", "()V"⟩ ∈ zG := zH_3 (q := (⟨"ConstructionLedgerModel", "itemLine", "()V"⟩, 17)) 4 rfl
theorem zv_37 : Cond.selects (⟨"ConstructionLedgerModel", "first", "(II)Z"⟩ : MethodName).cls ⟨"ConstructionLedgerModel", "first", "(II)Z"⟩ ⟨"ConstructionLedgerModel", "first", "(II)Z"⟩ ∈ zG := zH_3 (q := (⟨"ConstructionLedgerModel", "first", "(II)Z"⟩, 17)) 5 rfl
theorem zv_38 : Cond.selects (⟨"ConstructionLedgerModel", "sum", "()V"⟩ : MethodName).cls ⟨"ConstructionLedgerModel", "sum", "()V"⟩ ⟨"ConstructionLedgerModel", "sum", "()V"⟩ ∈ zG := zH_3 (q := (⟨"ConstructionLedgerModel", "sum", "()V"⟩, 17)) 6 rfl
theorem zv_39 : Cond.selects (⟨"ConstructionLedgerModel", "term", "()V"⟩ : MethodName).cls ⟨"ConstructionLedgerModel", "term", "()V"⟩ ⟨"ConstructionLedgerModel", "term", "()V"⟩ ∈ zG := zH_3 (q := (⟨"ConstructionLedgerModel", "term", "()V"⟩, 17)) 7 rfl
theorem zv_40 : Cond.selects (⟨"ConstructionLedgerModel", "factor", "()V"⟩ : MethodName).cls ⟨"ConstructionLedgerModel", "factor", "()V"⟩ ⟨"ConstructionLedgerModel", "factor", "()V"⟩ ∈ zG := zH_3 (q := (⟨"ConstructionLedgerModel", "factor", "()V"⟩, 17)) 8 rfl
theorem zv_41 : Cond.selects (⟨"ConstructionLedgerModel", "codes", "(II)V"⟩ : MethodName).cls ⟨"ConstructionLedgerModel", "codes", "(II)V"⟩ ⟨"ConstructionLedgerModel", "codes", "(II)V"⟩ ∈ zG := zH_3 (q := (⟨"ConstructionLedgerModel", "codes", "(II)V"⟩, 17)) 9 rfl
theorem zv_42 : Cond.selects (⟨"ConstructionLedgerModel", "change", "()V"⟩ : MethodName).cls ⟨"ConstructionLedgerModel", "change", "()V"⟩ ⟨"ConstructionLedgerModel", "change", "()V"⟩ ∈ zG := zH_3 (q := (⟨"ConstructionLedgerModel", "change", "()V"⟩, 17)) 10 rfl
theorem zv_43 : Cond.selects (⟨"ConstructionLedgerModel", "get", "(I)J"⟩ : MethodName).cls ⟨"ConstructionLedgerModel", "get", "(I)J"⟩ ⟨"ConstructionLedgerModel", "get", "(I)J"⟩ ∈ zG := zH_3 (q := (⟨"ConstructionLedgerModel", "get", "(I)J"⟩, 17)) 11 rfl
theorem zv_44 : Cond.selects (⟨"ConstructionLedgerModel", "put", "(IJ)V"⟩ : MethodName).cls ⟨"ConstructionLedgerModel", "put", "(IJ)V"⟩ ⟨"ConstructionLedgerModel", "put", "(IJ)V"⟩ ∈ zG := zH_3 (q := (⟨"ConstructionLedgerModel", "put", "(IJ)V"⟩, 17)) 12 rfl
theorem zv_45 : Cond.selects (⟨"ConstructionLedgerModel", "small", "(I)I"⟩ : MethodName).cls ⟨"ConstructionLedgerModel", "small", "(I)I"⟩ ⟨"ConstructionLedgerModel", "small", "(I)I"⟩ ∈ zG := zH_3 (q := (⟨"ConstructionLedgerModel", "small", "(I)I"⟩, 17)) 13 rfl
theorem zv_46 : Cond.selects (⟨"ConstructionLedgerModel", "isContract", "(I)Z"⟩ : MethodName).cls ⟨"ConstructionLedgerModel", "isContract", "(I)Z"⟩ ⟨"ConstructionLedgerModel", "isContract", "(I)Z"⟩ ∈ zG := zH_3 (q := (⟨"ConstructionLedgerModel", "isContract", "(I)Z"⟩, 17)) 14 rfl
theorem zv_47 : Cond.selects (⟨"ConstructionLedgerModel", "at", "(I)I"⟩ : MethodName).cls ⟨"ConstructionLedgerModel", "at", "(I)I"⟩ ⟨"ConstructionLedgerModel", "at", "(I)I"⟩ ∈ zG := zH_3 (q := (⟨"ConstructionLedgerModel", "at", "(I)I"⟩, 17)) 15 rfl
theorem zv_48 : Cond.selects (⟨"ConstructionLedgerModel", "isItem", "(II)Z"⟩ : MethodName).cls ⟨"ConstructionLedgerModel", "isItem", "(II)Z"⟩ ⟨"ConstructionLedgerModel", "isItem", "(II)Z"⟩ ∈ zG := zH_4 (q := (⟨"ConstructionLedgerModel", "isItem", "(II)Z"⟩, 17)) 0 rfl
theorem zv_49 : Cond.selects (⟨"ConstructionLedgerModel", "quantityOf", "(II)J"⟩ : MethodName).cls ⟨"ConstructionLedgerModel", "quantityOf", "(II)J"⟩ ⟨"ConstructionLedgerModel", "quantityOf", "(II)J"⟩ ∈ zG := zH_4 (q := (⟨"ConstructionLedgerModel", "quantityOf", "(II)J"⟩, 17)) 1 rfl
theorem zv_50 : Cond.selects (⟨"ConstructionLedgerModel", "itemAt", "(II)I"⟩ : MethodName).cls ⟨"ConstructionLedgerModel", "itemAt", "(II)I"⟩ ⟨"ConstructionLedgerModel", "itemAt", "(II)I"⟩ ∈ zG := zH_4 (q := (⟨"ConstructionLedgerModel", "itemAt", "(II)I"⟩, 17)) 2 rfl
theorem zv_51 : Cond.selects (⟨"ConstructionLedgerModel", "rateBy", "(IIJ)J"⟩ : MethodName).cls ⟨"ConstructionLedgerModel", "rateBy", "(IIJ)J"⟩ ⟨"ConstructionLedgerModel", "rateBy", "(IIJ)J"⟩ ∈ zG := zH_4 (q := (⟨"ConstructionLedgerModel", "rateBy", "(IIJ)J"⟩, 17)) 3 rfl
theorem zv_52 : Cond.selects (⟨"ConstructionLedgerModel", "boundOf", "(II)J"⟩ : MethodName).cls ⟨"ConstructionLedgerModel", "boundOf", "(II)J"⟩ ⟨"ConstructionLedgerModel", "boundOf", "(II)J"⟩ ∈ zG := zH_4 (q := (⟨"ConstructionLedgerModel", "boundOf", "(II)J"⟩, 17)) 4 rfl
theorem zv_53 : Cond.selects (⟨"ConstructionLedgerModel", "rateOf", "(JJJ)J"⟩ : MethodName).cls ⟨"ConstructionLedgerModel", "rateOf", "(JJJ)J"⟩ ⟨"ConstructionLedgerModel", "rateOf", "(JJJ)J"⟩ ∈ zG := zH_4 (q := (⟨"ConstructionLedgerModel", "rateOf", "(JJJ)J"⟩, 17)) 5 rfl
theorem zv_54 : Cond.selects (⟨"ConstructionLedgerModel", "valueOf", "(II)J"⟩ : MethodName).cls ⟨"ConstructionLedgerModel", "valueOf", "(II)J"⟩ ⟨"ConstructionLedgerModel", "valueOf", "(II)J"⟩ ∈ zG := zH_4 (q := (⟨"ConstructionLedgerModel", "valueOf", "(II)J"⟩, 17)) 6 rfl
theorem zv_55 : Cond.selects (⟨"ConstructionLedgerModel", "fullBy", "(IIJ)J"⟩ : MethodName).cls ⟨"ConstructionLedgerModel", "fullBy", "(IIJ)J"⟩ ⟨"ConstructionLedgerModel", "fullBy", "(IIJ)J"⟩ ∈ zG := zH_4 (q := (⟨"ConstructionLedgerModel", "fullBy", "(IIJ)J"⟩, 17)) 7 rfl
theorem zv_56 : Cond.selects (⟨"ConstructionLedgerModel", "firstOf", "(I)J"⟩ : MethodName).cls ⟨"ConstructionLedgerModel", "firstOf", "(I)J"⟩ ⟨"ConstructionLedgerModel", "firstOf", "(I)J"⟩ ∈ zG := zH_4 (q := (⟨"ConstructionLedgerModel", "firstOf", "(I)J"⟩, 17)) 8 rfl
theorem zv_57 : Cond.selects (⟨"ConstructionLedgerModel", "presentOf", "(I)J"⟩ : MethodName).cls ⟨"ConstructionLedgerModel", "presentOf", "(I)J"⟩ ⟨"ConstructionLedgerModel", "presentOf", "(I)J"⟩ ∈ zG := zH_4 (q := (⟨"ConstructionLedgerModel", "presentOf", "(I)J"⟩, 17)) 9 rfl
theorem zv_58 : Cond.selects (⟨"ConstructionLedgerModel", "grossOf", "(I)J"⟩ : MethodName).cls ⟨"ConstructionLedgerModel", "grossOf", "(I)J"⟩ ⟨"ConstructionLedgerModel", "grossOf", "(I)J"⟩ ∈ zG := zH_4 (q := (⟨"ConstructionLedgerModel", "grossOf", "(I)J"⟩, 17)) 10 rfl
theorem zv_59 : Cond.selects (⟨"ConstructionLedgerModel", "heldOf", "(I)J"⟩ : MethodName).cls ⟨"ConstructionLedgerModel", "heldOf", "(I)J"⟩ ⟨"ConstructionLedgerModel", "heldOf", "(I)J"⟩ ∈ zG := zH_4 (q := (⟨"ConstructionLedgerModel", "heldOf", "(I)J"⟩, 17)) 11 rfl
theorem zv_60 : Cond.selects (⟨"ConstructionLedgerModel", "certifiedOf", "(I)J"⟩ : MethodName).cls ⟨"ConstructionLedgerModel", "certifiedOf", "(I)J"⟩ ⟨"ConstructionLedgerModel", "certifiedOf", "(I)J"⟩ ∈ zG := zH_4 (q := (⟨"ConstructionLedgerModel", "certifiedOf", "(I)J"⟩, 17)) 12 rfl
theorem zv_61 : Cond.selects (⟨"ConstructionLedgerModel", "unpaidOf", "(I)J"⟩ : MethodName).cls ⟨"ConstructionLedgerModel", "unpaidOf", "(I)J"⟩ ⟨"ConstructionLedgerModel", "unpaidOf", "(I)J"⟩ ∈ zG := zH_4 (q := (⟨"ConstructionLedgerModel", "unpaidOf", "(I)J"⟩, 17)) 13 rfl
theorem zv_62 : Cond.selects (⟨"ConstructionLedgerModel", "openBefore", "(IJ)J"⟩ : MethodName).cls ⟨"ConstructionLedgerModel", "openBefore", "(IJ)J"⟩ ⟨"ConstructionLedgerModel", "openBefore", "(IJ)J"⟩ ∈ zG := zH_4 (q := (⟨"ConstructionLedgerModel", "openBefore", "(IJ)J"⟩, 17)) 14 rfl
theorem zv_63 : Cond.selects (⟨"ConstructionLedgerModel", "openOf", "(I)J"⟩ : MethodName).cls ⟨"ConstructionLedgerModel", "openOf", "(I)J"⟩ ⟨"ConstructionLedgerModel", "openOf", "(I)J"⟩ ∈ zG := zH_4 (q := (⟨"ConstructionLedgerModel", "openOf", "(I)J"⟩, 17)) 15 rfl
theorem zv_64 : Cond.selects (⟨"ConstructionLedgerModel", "isBill", "(I)Z"⟩ : MethodName).cls ⟨"ConstructionLedgerModel", "isBill", "(I)Z"⟩ ⟨"ConstructionLedgerModel", "isBill", "(I)Z"⟩ ∈ zG := zH_5 (q := (⟨"ConstructionLedgerModel", "isBill", "(I)Z"⟩, 17)) 0 rfl
theorem zv_65 : Cond.selects (⟨"ConstructionLedgerModel", "isHeld", "(I)Z"⟩ : MethodName).cls ⟨"ConstructionLedgerModel", "isHeld", "(I)Z"⟩ ⟨"ConstructionLedgerModel", "isHeld", "(I)Z"⟩ ∈ zG := zH_5 (q := (⟨"ConstructionLedgerModel", "isHeld", "(I)Z"⟩, 17)) 1 rfl
theorem zv_66 : Cond.selects (⟨"ConstructionLedgerModel", "settles", "()J"⟩ : MethodName).cls ⟨"ConstructionLedgerModel", "settles", "()J"⟩ ⟨"ConstructionLedgerModel", "settles", "()J"⟩ ∈ zG := zH_5 (q := (⟨"ConstructionLedgerModel", "settles", "()J"⟩, 17)) 2 rfl
theorem zv_67 : Cond.selects (⟨"ConstructionLedgerModel", "dueNext", "(JIJ)I"⟩ : MethodName).cls ⟨"ConstructionLedgerModel", "dueNext", "(JIJ)I"⟩ ⟨"ConstructionLedgerModel", "dueNext", "(JIJ)I"⟩ ∈ zG := zH_5 (q := (⟨"ConstructionLedgerModel", "dueNext", "(JIJ)I"⟩, 17)) 3 rfl
theorem zv_68 : Cond.selects (⟨"ConstructionLedgerModel", "payerOf", "(I)I"⟩ : MethodName).cls ⟨"ConstructionLedgerModel", "payerOf", "(I)I"⟩ ⟨"ConstructionLedgerModel", "payerOf", "(I)I"⟩ ∈ zG := zH_5 (q := (⟨"ConstructionLedgerModel", "payerOf", "(I)I"⟩, 17)) 4 rfl
theorem zv_69 : Cond.selects (⟨"ConstructionLedgerModel", "pays", "(IJ)V"⟩ : MethodName).cls ⟨"ConstructionLedgerModel", "pays", "(IJ)V"⟩ ⟨"ConstructionLedgerModel", "pays", "(IJ)V"⟩ ∈ zG := zH_5 (q := (⟨"ConstructionLedgerModel", "pays", "(IJ)V"⟩, 17)) 5 rfl
theorem zv_70 : Cond.selects (⟨"ConstructionLedgerModel", "isVariation", "(I)Z"⟩ : MethodName).cls ⟨"ConstructionLedgerModel", "isVariation", "(I)Z"⟩ ⟨"ConstructionLedgerModel", "isVariation", "(I)Z"⟩ ∈ zG := zH_5 (q := (⟨"ConstructionLedgerModel", "isVariation", "(I)Z"⟩, 17)) 6 rfl
theorem zv_71 : Cond.selects (⟨"ConstructionLedgerModel", "quantityBy", "(I)J"⟩ : MethodName).cls ⟨"ConstructionLedgerModel", "quantityBy", "(I)J"⟩ ⟨"ConstructionLedgerModel", "quantityBy", "(I)J"⟩ ∈ zG := zH_5 (q := (⟨"ConstructionLedgerModel", "quantityBy", "(I)J"⟩, 17)) 7 rfl
theorem zv_72 : Cond.selects (⟨"ConstructionLedgerModel", "isLien", "(I)Z"⟩ : MethodName).cls ⟨"ConstructionLedgerModel", "isLien", "(I)Z"⟩ ⟨"ConstructionLedgerModel", "isLien", "(I)Z"⟩ ∈ zG := zH_5 (q := (⟨"ConstructionLedgerModel", "isLien", "(I)Z"⟩, 17)) 8 rfl
theorem zv_73 : Cond.selects (⟨"ConstructionLedgerModel", "claimOf", "(I)J"⟩ : MethodName).cls ⟨"ConstructionLedgerModel", "claimOf", "(I)J"⟩ ⟨"ConstructionLedgerModel", "claimOf", "(I)J"⟩ ∈ zG := zH_5 (q := (⟨"ConstructionLedgerModel", "claimOf", "(I)J"⟩, 17)) 9 rfl
theorem zv_74 : Cond.selects (⟨"ConstructionLedgerModel", "placeOf", "(I)I"⟩ : MethodName).cls ⟨"ConstructionLedgerModel", "placeOf", "(I)I"⟩ ⟨"ConstructionLedgerModel", "placeOf", "(I)I"⟩ ∈ zG := zH_5 (q := (⟨"ConstructionLedgerModel", "placeOf", "(I)I"⟩, 17)) 10 rfl
theorem zv_75 : Cond.selects (⟨"ConstructionLedgerModel", "isAhead", "(II)Z"⟩ : MethodName).cls ⟨"ConstructionLedgerModel", "isAhead", "(II)Z"⟩ ⟨"ConstructionLedgerModel", "isAhead", "(II)Z"⟩ ∈ zG := zH_5 (q := (⟨"ConstructionLedgerModel", "isAhead", "(II)Z"⟩, 17)) 11 rfl
theorem zv_76 : Cond.selects (⟨"ConstructionLedgerModel", "rankOf", "(I)J"⟩ : MethodName).cls ⟨"ConstructionLedgerModel", "rankOf", "(I)J"⟩ ⟨"ConstructionLedgerModel", "rankOf", "(I)J"⟩ ∈ zG := zH_5 (q := (⟨"ConstructionLedgerModel", "rankOf", "(I)J"⟩, 17)) 12 rfl
theorem zv_77 : Cond.selects (⟨"ConstructionLedgerModel", "claimsOf", "(J)J"⟩ : MethodName).cls ⟨"ConstructionLedgerModel", "claimsOf", "(J)J"⟩ ⟨"ConstructionLedgerModel", "claimsOf", "(J)J"⟩ ∈ zG := zH_5 (q := (⟨"ConstructionLedgerModel", "claimsOf", "(J)J"⟩, 17)) 13 rfl
theorem zv_78 : Cond.selects (⟨"ConstructionLedgerModel", "partsOf", "(JJJ)J"⟩ : MethodName).cls ⟨"ConstructionLedgerModel", "partsOf", "(JJJ)J"⟩ ⟨"ConstructionLedgerModel", "partsOf", "(JJJ)J"⟩ ∈ zG := zH_5 (q := (⟨"ConstructionLedgerModel", "partsOf", "(JJJ)J"⟩, 17)) 14 rfl
theorem zv_79 : Cond.selects (⟨"ConstructionLedgerModel", "aheadWith", "(IJJ)J"⟩ : MethodName).cls ⟨"ConstructionLedgerModel", "aheadWith", "(IJJ)J"⟩ ⟨"ConstructionLedgerModel", "aheadWith", "(IJJ)J"⟩ ∈ zG := zH_5 (q := (⟨"ConstructionLedgerModel", "aheadWith", "(IJJ)J"⟩, 17)) 15 rfl
theorem zv_80 : Cond.selects (⟨"ConstructionLedgerModel", "isDone", "(I)Z"⟩ : MethodName).cls ⟨"ConstructionLedgerModel", "isDone", "(I)Z"⟩ ⟨"ConstructionLedgerModel", "isDone", "(I)Z"⟩ ∈ zG := zH_6 (q := (⟨"ConstructionLedgerModel", "isDone", "(I)Z"⟩, 17)) 0 rfl
theorem zv_81 : Cond.selects (⟨"ConstructionLedgerModel", "hasClaim", "(I)Z"⟩ : MethodName).cls ⟨"ConstructionLedgerModel", "hasClaim", "(I)Z"⟩ ⟨"ConstructionLedgerModel", "hasClaim", "(I)Z"⟩ ∈ zG := zH_6 (q := (⟨"ConstructionLedgerModel", "hasClaim", "(I)Z"⟩, 17)) 1 rfl
theorem zw_0 : (Jvm.Cond.initialized "ConstructionLedgerLaw") ∈ zG := zK_1 0 rfl rfl
theorem zw_1 : (Jvm.Cond.initialized "ConstructionLedger") ∈ zG := zK_1 1 rfl rfl
theorem zw_2 : (Jvm.Cond.initialized "ConstructionLedger$SetupReader") ∈ zG := zK_1 2 rfl rfl
theorem zw_3 : (Jvm.Cond.initialized "ConstructionLedger$Project") ∈ zG := zK_1 3 rfl rfl
theorem zw_4 : (Jvm.Cond.initialized "ConstructionLedger$Contracts") ∈ zG := zK_1 4 rfl rfl
theorem zw_5 : (Jvm.Cond.initialized "ConstructionLedger$Pricing") ∈ zG := zK_1 5 rfl rfl
theorem zw_6 : (Jvm.Cond.initialized "java/lang/Math") ∈ zG := zK_1 6 rfl rfl
theorem zw_7 : (Jvm.Cond.initialized "ConstructionLedger$Items") ∈ zG := zK_1 7 rfl rfl
theorem zw_8 : (Jvm.Cond.initialized "ConstructionLedger$Variations") ∈ zG := zK_1 8 rfl rfl
theorem zw_9 : (Jvm.Cond.initialized "ConstructionLedger$Certificates") ∈ zG := zK_1 9 rfl rfl
theorem zw_10 : (Jvm.Cond.initialized "ConstructionLedger$Liens") ∈ zG := zK_1 10 rfl rfl
theorem zw_11 : (Jvm.Cond.initialized "ConstructionLedgerModel") ∈ zG := zK_1 11 rfl rfl
theorem zw_12 : (Jvm.Cond.initialized "java/lang/Throwable") ∈ zG := zK_1 12 rfl rfl
theorem zw_13 : (Jvm.Cond.initialized "java/lang/Exception") ∈ zG := zK_1 13 rfl rfl
theorem zw_14 : (Jvm.Cond.initialized "java/lang/RuntimeException") ∈ zG := zK_1 14 rfl rfl
theorem zw_15 : (Jvm.Cond.initialized "java/lang/IllegalArgumentException") ∈ zG := zK_1 15 rfl rfl
theorem zw_16 : (Jvm.Cond.initialized "java/lang/String") ∈ zG := zK_1 16 rfl rfl
theorem zw_17 : (Jvm.Cond.initialized "java/lang/StringLatin1") ∈ zG := zK_1 17 rfl rfl
theorem zw_18 : (Jvm.Cond.initialized "jdk/internal/util/Preconditions") ∈ zG := zK_1 18 rfl rfl
theorem zw_19 : (Jvm.Cond.initialized "java/lang/StringUTF16") ∈ zG := zK_1 19 rfl rfl
theorem zw_20 : (Jvm.Cond.initialized "java/lang/System") ∈ zG := zK_1 20 rfl rfl
theorem zw_21 : (Jvm.Cond.initialized "java/lang/IndexOutOfBoundsException") ∈ zG := zK_1 21 rfl rfl
theorem zw_22 : (Jvm.Cond.initialized "java/lang/IllegalStateException") ∈ zG := zK_1 22 rfl rfl
theorem zw_23 : (Jvm.Cond.classLink "ConstructionLedgerLaw" (8 : Nat) "ConstructionLedger") ∈ zG := zK_1 23 rfl rfl
theorem zw_24 : (Jvm.Cond.instantiable "ConstructionLedger" (5 : Nat)) ∈ zG := zK_1 24 rfl rfl
theorem zw_25 : (Jvm.Cond.methodLink "ConstructionLedgerLaw" (135 : Nat) ({ cls := "ConstructionLedger", name := "<init>", desc := "()V" } : Jvm.MethodName)) ∈ zG := zK_1 25 rfl rfl
theorem zw_26 : (Jvm.Cond.instanceMethod ({ cls := "ConstructionLedger", name := "<init>", desc := "()V" } : Jvm.MethodName)) ∈ zG := zK_1 26 rfl rfl
theorem zw_27 : (Jvm.Cond.code ({ cls := "ConstructionLedger", name := "<init>", desc := "()V" } : Jvm.MethodName) prog_1_method_1_code (2 : Nat) (Option.none : Option Jvm.ClassFile.FieldType)) ∈ zG := zK_1 27 rfl rfl
theorem zw_28 : (Jvm.Cond.methodLink "ConstructionLedger" (3 : Nat) ({ cls := "java/lang/Object", name := "<init>", desc := "()V" } : Jvm.MethodName)) ∈ zG := zK_1 28 rfl rfl
theorem zw_29 : (Jvm.Cond.instanceMethod ({ cls := "java/lang/Object", name := "<init>", desc := "()V" } : Jvm.MethodName)) ∈ zG := zK_1 29 rfl rfl
theorem zw_30 : (Jvm.Cond.code ({ cls := "java/lang/Object", name := "<init>", desc := "()V" } : Jvm.MethodName) object_method_1_code (1 : Nat) (Option.none : Option Jvm.ClassFile.FieldType)) ∈ zG := zK_1 30 rfl rfl
theorem zw_31 : (Jvm.Cond.classLink "ConstructionLedger" (9 : Nat) "ConstructionLedger$SetupReader") ∈ zG := zK_1 31 rfl rfl
theorem zw_32 : (Jvm.Cond.instantiable "ConstructionLedger$SetupReader" (12 : Nat)) ∈ zG := zK_1 32 rfl rfl
theorem zw_34 : (Jvm.Cond.instanceMethod ({ cls := "ConstructionLedger$SetupReader", name := "<init>", desc := "()V" } : Jvm.MethodName)) ∈ zG := zK_1 34 rfl rfl
theorem zw_35 : (Jvm.Cond.code ({ cls := "ConstructionLedger$SetupReader", name := "<init>", desc := "()V" } : Jvm.MethodName) prog_8_method_1_code (1 : Nat) (Option.none : Option Jvm.ClassFile.FieldType)) ∈ zG := zK_1 35 rfl rfl
theorem zw_36 : (Jvm.Cond.methodLink "ConstructionLedger$SetupReader" (3 : Nat) ({ cls := "java/lang/Object", name := "<init>", desc := "()V" } : Jvm.MethodName)) ∈ zG := zK_1 36 rfl rfl
theorem zw_37 : (Jvm.Cond.classLink "ConstructionLedger$SetupReader" (19 : Nat) "ConstructionLedger$Project") ∈ zG := zK_1 37 rfl rfl
theorem zw_38 : (Jvm.Cond.instantiable "ConstructionLedger$Project" (9 : Nat)) ∈ zG := zK_1 38 rfl rfl
theorem zw_40 : (Jvm.Cond.instanceMethod ({ cls := "ConstructionLedger$Project", name := "<init>", desc := "()V" } : Jvm.MethodName)) ∈ zG := zK_1 40 rfl rfl
theorem zw_41 : (Jvm.Cond.code ({ cls := "ConstructionLedger$Project", name := "<init>", desc := "()V" } : Jvm.MethodName) prog_7_method_1_code (1 : Nat) (Option.none : Option Jvm.ClassFile.FieldType)) ∈ zG := zK_1 41 rfl rfl
theorem zw_42 : (Jvm.Cond.methodLink "ConstructionLedger$Project" (3 : Nat) ({ cls := "java/lang/Object", name := "<init>", desc := "()V" } : Jvm.MethodName)) ∈ zG := zK_1 42 rfl rfl
theorem zw_43 : (Jvm.Cond.classLink "ConstructionLedger$Project" (19 : Nat) "ConstructionLedger$Contracts") ∈ zG := zK_1 43 rfl rfl
theorem zw_44 : (Jvm.Cond.instantiable "ConstructionLedger$Contracts" (8 : Nat)) ∈ zG := zK_1 44 rfl rfl
theorem zw_46 : (Jvm.Cond.instanceMethod ({ cls := "ConstructionLedger$Contracts", name := "<init>", desc := "()V" } : Jvm.MethodName)) ∈ zG := zK_1 46 rfl rfl
theorem zw_47 : (Jvm.Cond.code ({ cls := "ConstructionLedger$Contracts", name := "<init>", desc := "()V" } : Jvm.MethodName) prog_3_method_1_code (1 : Nat) (Option.none : Option Jvm.ClassFile.FieldType)) ∈ zG := zK_1 47 rfl rfl
theorem zw_48 : (Jvm.Cond.methodLink "ConstructionLedger$Contracts" (3 : Nat) ({ cls := "java/lang/Object", name := "<init>", desc := "()V" } : Jvm.MethodName)) ∈ zG := zK_1 48 rfl rfl
theorem zw_49 : (Jvm.Cond.fieldLink "ConstructionLedger$Contracts" (9 : Nat) "ConstructionLedger$Contracts" "count" "I") ∈ zG := zK_1 49 rfl rfl
theorem zw_50 : (Jvm.Cond.fieldLink "ConstructionLedger$Project" (67 : Nat) "ConstructionLedger$Contracts" "count" "I") ∈ zG := zK_1 50 rfl rfl
theorem zw_51 : (Jvm.Cond.fieldLink "ConstructionLedger" (64 : Nat) "ConstructionLedger$Contracts" "count" "I") ∈ zG := zK_1 51 rfl rfl
theorem zw_52 : (Jvm.Cond.fieldLink "ConstructionLedger$SetupReader" (135 : Nat) "ConstructionLedger$Contracts" "count" "I") ∈ zG := zK_1 52 rfl rfl
theorem zw_53 : (Jvm.Cond.fieldLink "ConstructionLedger$Contracts" (15 : Nat) "ConstructionLedger$Contracts" "parent" "[I") ∈ zG := zK_1 53 rfl rfl
theorem zw_54 : (Jvm.Cond.fieldLink "ConstructionLedger" (81 : Nat) "ConstructionLedger$Contracts" "parent" "[I") ∈ zG := zK_1 54 rfl rfl
theorem zw_55 : (Jvm.Cond.fieldLink "ConstructionLedger$Project" (151 : Nat) "ConstructionLedger$Contracts" "parent" "[I") ∈ zG := zK_1 55 rfl rfl
theorem zw_56 : (Jvm.Cond.fieldLink "ConstructionLedger$Contracts" (19 : Nat) "ConstructionLedger$Contracts" "retentionPercent" "[I") ∈ zG := zK_1 56 rfl rfl
theorem zw_57 : (Jvm.Cond.fieldLink "ConstructionLedger$Project" (115 : Nat) "ConstructionLedger$Contracts" "retentionPercent" "[I") ∈ zG := zK_1 57 rfl rfl
theorem zw_58 : (Jvm.Cond.fieldLink "ConstructionLedger$Contracts" (22 : Nat) "ConstructionLedger$Contracts" "limitPercent" "[I") ∈ zG := zK_1 58 rfl rfl
theorem zw_59 : (Jvm.Cond.fieldLink "ConstructionLedger$Project" (124 : Nat) "ConstructionLedger$Contracts" "limitPercent" "[I") ∈ zG := zK_1 59 rfl rfl
theorem zw_60 : (Jvm.Cond.fieldLink "ConstructionLedger$Contracts" (25 : Nat) "ConstructionLedger$Contracts" "paymentDays" "[I") ∈ zG := zK_1 60 rfl rfl
theorem zw_61 : (Jvm.Cond.fieldLink "ConstructionLedger" (251 : Nat) "ConstructionLedger$Contracts" "paymentDays" "[I") ∈ zG := zK_1 61 rfl rfl
theorem zw_62 : (Jvm.Cond.fieldLink "ConstructionLedger$Contracts" (28 : Nat) "ConstructionLedger$Contracts" "rank" "[I") ∈ zG := zK_1 62 rfl rfl
theorem zw_63 : (Jvm.Cond.fieldLink "ConstructionLedger$Project" (232 : Nat) "ConstructionLedger$Contracts" "rank" "[I") ∈ zG := zK_1 63 rfl rfl
theorem zw_64 : (Jvm.Cond.fieldLink "ConstructionLedger$Contracts" (31 : Nat) "ConstructionLedger$Contracts" "linked" "[Z") ∈ zG := zK_1 64 rfl rfl
theorem zw_65 : (Jvm.Cond.fieldLink "ConstructionLedger$Project" (175 : Nat) "ConstructionLedger$Contracts" "linked" "[Z") ∈ zG := zK_1 65 rfl rfl
theorem zw_66 : (Jvm.Cond.fieldLink "ConstructionLedger$Contracts" (35 : Nat) "ConstructionLedger$Contracts" "stage" "[I") ∈ zG := zK_1 66 rfl rfl
theorem zw_67 : (Jvm.Cond.fieldLink "ConstructionLedger$Project" (133 : Nat) "ConstructionLedger$Contracts" "stage" "[I") ∈ zG := zK_1 67 rfl rfl
theorem zw_68 : (Jvm.Cond.fieldLink "ConstructionLedger" (145 : Nat) "ConstructionLedger$Contracts" "stage" "[I") ∈ zG := zK_1 68 rfl rfl
theorem zw_69 : (Jvm.Cond.lays "ConstructionLedger$Contracts" "ConstructionLedger$Contracts" "count" "I") ∈ zG := zK_1 69 rfl rfl
theorem zw_71 : (Jvm.Cond.laysFinal "ConstructionLedger$Contracts" "ConstructionLedger$Contracts" "parent" "[I") ∈ zG := zK_1 71 rfl rfl
theorem zw_73 : (Jvm.Cond.laysFinal "ConstructionLedger$Contracts" "ConstructionLedger$Contracts" "retentionPercent" "[I") ∈ zG := zK_1 73 rfl rfl
theorem zw_75 : (Jvm.Cond.laysFinal "ConstructionLedger$Contracts" "ConstructionLedger$Contracts" "limitPercent" "[I") ∈ zG := zK_1 75 rfl rfl
theorem zw_77 : (Jvm.Cond.laysFinal "ConstructionLedger$Contracts" "ConstructionLedger$Contracts" "paymentDays" "[I") ∈ zG := zK_1 77 rfl rfl
theorem zw_79 : (Jvm.Cond.laysFinal "ConstructionLedger$Contracts" "ConstructionLedger$Contracts" "rank" "[I") ∈ zG := zK_1 79 rfl rfl
theorem zw_81 : (Jvm.Cond.laysFinal "ConstructionLedger$Contracts" "ConstructionLedger$Contracts" "linked" "[Z") ∈ zG := zK_1 81 rfl rfl
theorem zw_83 : (Jvm.Cond.laysFinal "ConstructionLedger$Contracts" "ConstructionLedger$Contracts" "stage" "[I") ∈ zG := zK_1 83 rfl rfl
theorem zw_86 : (Jvm.Cond.arrayClass Jvm.ClassFile.FieldType.byte) ∈ zG := zK_1 86 rfl rfl
theorem zw_87 : (Jvm.Cond.arrayClass Jvm.ClassFile.FieldType.long) ∈ zG := zK_1 87 rfl rfl
theorem zw_88 : (Jvm.Cond.arrayClass Jvm.ClassFile.FieldType.int) ∈ zG := zK_1 88 rfl rfl
theorem zw_89 : (Jvm.Cond.arrayClass Jvm.ClassFile.FieldType.boolean) ∈ zG := zK_1 89 rfl rfl
theorem zw_90 : (Jvm.Cond.classLink "ConstructionLedger$Project" (26 : Nat) "ConstructionLedger$Pricing") ∈ zG := zK_1 90 rfl rfl
theorem zw_91 : (Jvm.Cond.instantiable "ConstructionLedger$Pricing" (4 : Nat)) ∈ zG := zK_1 91 rfl rfl
theorem zw_92 : (Jvm.Cond.methodLink "ConstructionLedger$Project" (28 : Nat) ({ cls := "ConstructionLedger$Pricing", name := "<init>", desc := "(I)V" } : Jvm.MethodName)) ∈ zG := zK_1 92 rfl rfl
theorem zw_93 : (Jvm.Cond.instanceMethod ({ cls := "ConstructionLedger$Pricing", name := "<init>", desc := "(I)V" } : Jvm.MethodName)) ∈ zG := zK_1 93 rfl rfl
theorem zw_94 : (Jvm.Cond.code ({ cls := "ConstructionLedger$Pricing", name := "<init>", desc := "(I)V" } : Jvm.MethodName) prog_6_method_1_code (2 : Nat) (Option.none : Option Jvm.ClassFile.FieldType)) ∈ zG := zK_1 94 rfl rfl
theorem zw_95 : (Jvm.Cond.methodLink "ConstructionLedger$Pricing" (3 : Nat) ({ cls := "java/lang/Object", name := "<init>", desc := "()V" } : Jvm.MethodName)) ∈ zG := zK_1 95 rfl rfl
theorem zw_96 : (Jvm.Cond.methodLink "ConstructionLedger$Pricing" (22 : Nat) ({ cls := "java/lang/Math", name := "min", desc := "(II)I" } : Jvm.MethodName)) ∈ zG := zK_1 96 rfl rfl
theorem zw_97 : (Jvm.Cond.static ({ cls := "java/lang/Math", name := "min", desc := "(II)I" } : Jvm.MethodName)) ∈ zG := zK_1 97 rfl rfl
theorem zw_98 : (Jvm.Cond.code ({ cls := "java/lang/Math", name := "min", desc := "(II)I" } : Jvm.MethodName) prog_16_method_69_code (2 : Nat) (Option.some Jvm.ClassFile.FieldType.int)) ∈ zG := zK_1 98 rfl rfl
theorem zw_99 : (Jvm.Cond.methodLink "ConstructionLedger$Pricing" (28 : Nat) ({ cls := "java/lang/Math", name := "max", desc := "(II)I" } : Jvm.MethodName)) ∈ zG := zK_1 99 rfl rfl
theorem zw_100 : (Jvm.Cond.static ({ cls := "java/lang/Math", name := "max", desc := "(II)I" } : Jvm.MethodName)) ∈ zG := zK_1 100 rfl rfl
theorem zw_101 : (Jvm.Cond.code ({ cls := "java/lang/Math", name := "max", desc := "(II)I" } : Jvm.MethodName) prog_16_method_65_code (2 : Nat) (Option.some Jvm.ClassFile.FieldType.int)) ∈ zG := zK_1 101 rfl rfl
theorem zw_102 : (Jvm.Cond.fieldLink "ConstructionLedger$Pricing" (11 : Nat) "ConstructionLedger$Pricing" "threshold" "I") ∈ zG := zK_1 102 rfl rfl
theorem zw_103 : (Jvm.Cond.fieldLink "ConstructionLedger$SetupReader" (122 : Nat) "ConstructionLedger$Pricing" "threshold" "I") ∈ zG := zK_1 103 rfl rfl
theorem zw_104 : (Jvm.Cond.fieldLink "ConstructionLedger$Pricing" (15 : Nat) "ConstructionLedger$Pricing" "length" "I") ∈ zG := zK_1 104 rfl rfl
theorem zw_105 : (Jvm.Cond.fieldLink "ConstructionLedger$Pricing" (31 : Nat) "ConstructionLedger$Pricing" "code" "[I") ∈ zG := zK_1 105 rfl rfl
theorem zw_106 : (Jvm.Cond.fieldLink "ConstructionLedger$Pricing" (18 : Nat) "ConstructionLedger$Pricing" "stack" "[I") ∈ zG := zK_1 106 rfl rfl
theorem zw_107 : (Jvm.Cond.lays "ConstructionLedger$Pricing" "ConstructionLedger$Pricing" "threshold" "I") ∈ zG := zK_1 107 rfl rfl
theorem zw_109 : (Jvm.Cond.lays "ConstructionLedger$Pricing" "ConstructionLedger$Pricing" "length" "I") ∈ zG := zK_1 109 rfl rfl
theorem zw_111 : (Jvm.Cond.laysFinal "ConstructionLedger$Pricing" "ConstructionLedger$Pricing" "code" "[I") ∈ zG := zK_1 111 rfl rfl
theorem zw_113 : (Jvm.Cond.laysFinal "ConstructionLedger$Pricing" "ConstructionLedger$Pricing" "stack" "[I") ∈ zG := zK_1 113 rfl rfl
theorem zw_116 : (Jvm.Cond.classLink "ConstructionLedger$Project" (35 : Nat) "ConstructionLedger$Items") ∈ zG := zK_1 116 rfl rfl
theorem zw_117 : (Jvm.Cond.instantiable "ConstructionLedger$Items" (5 : Nat)) ∈ zG := zK_1 117 rfl rfl
theorem zw_119 : (Jvm.Cond.instanceMethod ({ cls := "ConstructionLedger$Items", name := "<init>", desc := "()V" } : Jvm.MethodName)) ∈ zG := zK_1 119 rfl rfl
theorem zw_120 : (Jvm.Cond.code ({ cls := "ConstructionLedger$Items", name := "<init>", desc := "()V" } : Jvm.MethodName) prog_4_method_1_code (1 : Nat) (Option.none : Option Jvm.ClassFile.FieldType)) ∈ zG := zK_1 120 rfl rfl
theorem zw_121 : (Jvm.Cond.methodLink "ConstructionLedger$Items" (3 : Nat) ({ cls := "java/lang/Object", name := "<init>", desc := "()V" } : Jvm.MethodName)) ∈ zG := zK_1 121 rfl rfl
theorem zw_122 : (Jvm.Cond.fieldLink "ConstructionLedger$Items" (9 : Nat) "ConstructionLedger$Items" "count" "[I") ∈ zG := zK_1 122 rfl rfl
theorem zw_123 : (Jvm.Cond.fieldLink "ConstructionLedger$Project" (98 : Nat) "ConstructionLedger$Items" "count" "[I") ∈ zG := zK_1 123 rfl rfl
theorem zw_124 : (Jvm.Cond.fieldLink "ConstructionLedger$SetupReader" (144 : Nat) "ConstructionLedger$Items" "count" "[I") ∈ zG := zK_1 124 rfl rfl
theorem zw_125 : (Jvm.Cond.fieldLink "ConstructionLedger" (89 : Nat) "ConstructionLedger$Items" "count" "[I") ∈ zG := zK_1 125 rfl rfl
theorem zw_126 : (Jvm.Cond.fieldLink "ConstructionLedger$Items" (15 : Nat) "ConstructionLedger$Items" "first" "[I") ∈ zG := zK_1 126 rfl rfl
theorem zw_127 : (Jvm.Cond.fieldLink "ConstructionLedger$Items" (18 : Nat) "ConstructionLedger$Items" "price" "[I") ∈ zG := zK_1 127 rfl rfl
theorem zw_128 : (Jvm.Cond.fieldLink "ConstructionLedger$Items" (21 : Nat) "ConstructionLedger$Items" "quantity" "[I") ∈ zG := zK_1 128 rfl rfl
theorem zw_129 : (Jvm.Cond.fieldLink "ConstructionLedger$Project" (104 : Nat) "ConstructionLedger$Items" "quantity" "[I") ∈ zG := zK_1 129 rfl rfl
theorem zw_130 : (Jvm.Cond.fieldLink "ConstructionLedger" (97 : Nat) "ConstructionLedger$Items" "quantity" "[I") ∈ zG := zK_1 130 rfl rfl
theorem zw_131 : (Jvm.Cond.fieldLink "ConstructionLedger$Items" (24 : Nat) "ConstructionLedger$Items" "progress" "[I") ∈ zG := zK_1 131 rfl rfl
theorem zw_132 : (Jvm.Cond.fieldLink "ConstructionLedger" (225 : Nat) "ConstructionLedger$Items" "progress" "[I") ∈ zG := zK_1 132 rfl rfl
theorem zw_133 : (Jvm.Cond.laysFinal "ConstructionLedger$Items" "ConstructionLedger$Items" "count" "[I") ∈ zG := zK_1 133 rfl rfl
theorem zw_135 : (Jvm.Cond.laysFinal "ConstructionLedger$Items" "ConstructionLedger$Items" "first" "[I") ∈ zG := zK_1 135 rfl rfl
theorem zw_137 : (Jvm.Cond.laysFinal "ConstructionLedger$Items" "ConstructionLedger$Items" "price" "[I") ∈ zG := zK_1 137 rfl rfl
theorem zw_139 : (Jvm.Cond.laysFinal "ConstructionLedger$Items" "ConstructionLedger$Items" "quantity" "[I") ∈ zG := zK_1 139 rfl rfl
theorem zw_141 : (Jvm.Cond.laysFinal "ConstructionLedger$Items" "ConstructionLedger$Items" "progress" "[I") ∈ zG := zK_1 141 rfl rfl
theorem zw_144 : (Jvm.Cond.classLink "ConstructionLedger$Project" (42 : Nat) "ConstructionLedger$Variations") ∈ zG := zK_1 144 rfl rfl
theorem zw_145 : (Jvm.Cond.instantiable "ConstructionLedger$Variations" (4 : Nat)) ∈ zG := zK_1 145 rfl rfl
theorem zw_147 : (Jvm.Cond.instanceMethod ({ cls := "ConstructionLedger$Variations", name := "<init>", desc := "()V" } : Jvm.MethodName)) ∈ zG := zK_1 147 rfl rfl
theorem zw_148 : (Jvm.Cond.code ({ cls := "ConstructionLedger$Variations", name := "<init>", desc := "()V" } : Jvm.MethodName) prog_9_method_1_code (1 : Nat) (Option.none : Option Jvm.ClassFile.FieldType)) ∈ zG := zK_1 148 rfl rfl
theorem zw_149 : (Jvm.Cond.methodLink "ConstructionLedger$Variations" (3 : Nat) ({ cls := "java/lang/Object", name := "<init>", desc := "()V" } : Jvm.MethodName)) ∈ zG := zK_1 149 rfl rfl
theorem zw_150 : (Jvm.Cond.fieldLink "ConstructionLedger$Variations" (9 : Nat) "ConstructionLedger$Variations" "count" "I") ∈ zG := zK_1 150 rfl rfl
theorem zw_151 : (Jvm.Cond.fieldLink "ConstructionLedger$Project" (73 : Nat) "ConstructionLedger$Variations" "count" "I") ∈ zG := zK_1 151 rfl rfl
theorem zw_152 : (Jvm.Cond.fieldLink "ConstructionLedger" (192 : Nat) "ConstructionLedger$Variations" "count" "I") ∈ zG := zK_1 152 rfl rfl
theorem zw_153 : (Jvm.Cond.fieldLink "ConstructionLedger$Variations" (15 : Nat) "ConstructionLedger$Variations" "slot" "[I") ∈ zG := zK_1 153 rfl rfl
theorem zw_154 : (Jvm.Cond.fieldLink "ConstructionLedger$Project" (158 : Nat) "ConstructionLedger$Variations" "slot" "[I") ∈ zG := zK_1 154 rfl rfl
theorem zw_155 : (Jvm.Cond.fieldLink "ConstructionLedger" (245 : Nat) "ConstructionLedger$Variations" "slot" "[I") ∈ zG := zK_1 155 rfl rfl
theorem zw_156 : (Jvm.Cond.fieldLink "ConstructionLedger$Variations" (19 : Nat) "ConstructionLedger$Variations" "change" "[I") ∈ zG := zK_1 156 rfl rfl
theorem zw_157 : (Jvm.Cond.fieldLink "ConstructionLedger$Project" (161 : Nat) "ConstructionLedger$Variations" "change" "[I") ∈ zG := zK_1 157 rfl rfl
theorem zw_158 : (Jvm.Cond.fieldLink "ConstructionLedger$Variations" (22 : Nat) "ConstructionLedger$Variations" "approved" "[Z") ∈ zG := zK_1 158 rfl rfl
theorem zw_159 : (Jvm.Cond.fieldLink "ConstructionLedger$Project" (168 : Nat) "ConstructionLedger$Variations" "approved" "[Z") ∈ zG := zK_1 159 rfl rfl
theorem zw_160 : (Jvm.Cond.fieldLink "ConstructionLedger" (198 : Nat) "ConstructionLedger$Variations" "approved" "[Z") ∈ zG := zK_1 160 rfl rfl
theorem zw_161 : (Jvm.Cond.lays "ConstructionLedger$Variations" "ConstructionLedger$Variations" "count" "I") ∈ zG := zK_1 161 rfl rfl
theorem zw_163 : (Jvm.Cond.laysFinal "ConstructionLedger$Variations" "ConstructionLedger$Variations" "slot" "[I") ∈ zG := zK_1 163 rfl rfl
theorem zw_165 : (Jvm.Cond.laysFinal "ConstructionLedger$Variations" "ConstructionLedger$Variations" "change" "[I") ∈ zG := zK_1 165 rfl rfl
theorem zw_167 : (Jvm.Cond.laysFinal "ConstructionLedger$Variations" "ConstructionLedger$Variations" "approved" "[Z") ∈ zG := zK_1 167 rfl rfl
theorem zw_170 : (Jvm.Cond.classLink "ConstructionLedger$Project" (49 : Nat) "ConstructionLedger$Certificates") ∈ zG := zK_1 170 rfl rfl
theorem zw_171 : (Jvm.Cond.instantiable "ConstructionLedger$Certificates" (6 : Nat)) ∈ zG := zK_1 171 rfl rfl
theorem zw_173 : (Jvm.Cond.instanceMethod ({ cls := "ConstructionLedger$Certificates", name := "<init>", desc := "()V" } : Jvm.MethodName)) ∈ zG := zK_1 173 rfl rfl
theorem zw_174 : (Jvm.Cond.code ({ cls := "ConstructionLedger$Certificates", name := "<init>", desc := "()V" } : Jvm.MethodName) prog_2_method_1_code (1 : Nat) (Option.none : Option Jvm.ClassFile.FieldType)) ∈ zG := zK_1 174 rfl rfl
theorem zw_175 : (Jvm.Cond.methodLink "ConstructionLedger$Certificates" (3 : Nat) ({ cls := "java/lang/Object", name := "<init>", desc := "()V" } : Jvm.MethodName)) ∈ zG := zK_1 175 rfl rfl
theorem zw_176 : (Jvm.Cond.fieldLink "ConstructionLedger$Certificates" (9 : Nat) "ConstructionLedger$Certificates" "count" "I") ∈ zG := zK_1 176 rfl rfl
theorem zw_177 : (Jvm.Cond.fieldLink "ConstructionLedger$Project" (74 : Nat) "ConstructionLedger$Certificates" "count" "I") ∈ zG := zK_1 177 rfl rfl
theorem zw_178 : (Jvm.Cond.fieldLink "ConstructionLedger" (158 : Nat) "ConstructionLedger$Certificates" "count" "I") ∈ zG := zK_1 178 rfl rfl
theorem zw_179 : (Jvm.Cond.fieldLink "ConstructionLedger$Certificates" (15 : Nat) "ConstructionLedger$Certificates" "contract" "[I") ∈ zG := zK_1 179 rfl rfl
theorem zw_180 : (Jvm.Cond.fieldLink "ConstructionLedger$Project" (172 : Nat) "ConstructionLedger$Certificates" "contract" "[I") ∈ zG := zK_1 180 rfl rfl
theorem zw_181 : (Jvm.Cond.fieldLink "ConstructionLedger" (162 : Nat) "ConstructionLedger$Certificates" "contract" "[I") ∈ zG := zK_1 181 rfl rfl
theorem zw_182 : (Jvm.Cond.fieldLink "ConstructionLedger$Certificates" (19 : Nat) "ConstructionLedger$Certificates" "amount" "[J") ∈ zG := zK_1 182 rfl rfl
theorem zw_183 : (Jvm.Cond.fieldLink "ConstructionLedger" (165 : Nat) "ConstructionLedger$Certificates" "amount" "[J") ∈ zG := zK_1 183 rfl rfl
theorem zw_184 : (Jvm.Cond.fieldLink "ConstructionLedger$Certificates" (23 : Nat) "ConstructionLedger$Certificates" "open" "[J") ∈ zG := zK_1 184 rfl rfl
theorem zw_185 : (Jvm.Cond.fieldLink "ConstructionLedger$Project" (185 : Nat) "ConstructionLedger$Certificates" "open" "[J") ∈ zG := zK_1 185 rfl rfl
theorem zw_186 : (Jvm.Cond.fieldLink "ConstructionLedger" (168 : Nat) "ConstructionLedger$Certificates" "open" "[J") ∈ zG := zK_1 186 rfl rfl
theorem zw_187 : (Jvm.Cond.fieldLink "ConstructionLedger$Certificates" (26 : Nat) "ConstructionLedger$Certificates" "issued" "[I") ∈ zG := zK_1 187 rfl rfl
theorem zw_188 : (Jvm.Cond.fieldLink "ConstructionLedger$Project" (178 : Nat) "ConstructionLedger$Certificates" "issued" "[I") ∈ zG := zK_1 188 rfl rfl
theorem zw_189 : (Jvm.Cond.fieldLink "ConstructionLedger$Certificates" (29 : Nat) "ConstructionLedger$Certificates" "due" "[I") ∈ zG := zK_1 189 rfl rfl
theorem zw_190 : (Jvm.Cond.fieldLink "ConstructionLedger$Project" (203 : Nat) "ConstructionLedger$Certificates" "due" "[I") ∈ zG := zK_1 190 rfl rfl
theorem zw_191 : (Jvm.Cond.fieldLink "ConstructionLedger" (171 : Nat) "ConstructionLedger$Certificates" "due" "[I") ∈ zG := zK_1 191 rfl rfl
theorem zw_192 : (Jvm.Cond.lays "ConstructionLedger$Certificates" "ConstructionLedger$Certificates" "count" "I") ∈ zG := zK_1 192 rfl rfl
theorem zw_194 : (Jvm.Cond.laysFinal "ConstructionLedger$Certificates" "ConstructionLedger$Certificates" "contract" "[I") ∈ zG := zK_1 194 rfl rfl
theorem zw_196 : (Jvm.Cond.laysFinal "ConstructionLedger$Certificates" "ConstructionLedger$Certificates" "amount" "[J") ∈ zG := zK_1 196 rfl rfl
theorem zw_198 : (Jvm.Cond.laysFinal "ConstructionLedger$Certificates" "ConstructionLedger$Certificates" "open" "[J") ∈ zG := zK_1 198 rfl rfl
theorem zw_200 : (Jvm.Cond.laysFinal "ConstructionLedger$Certificates" "ConstructionLedger$Certificates" "issued" "[I") ∈ zG := zK_1 200 rfl rfl
theorem zw_202 : (Jvm.Cond.laysFinal "ConstructionLedger$Certificates" "ConstructionLedger$Certificates" "due" "[I") ∈ zG := zK_1 202 rfl rfl
theorem zw_205 : (Jvm.Cond.classLink "ConstructionLedger$Project" (56 : Nat) "ConstructionLedger$Liens") ∈ zG := zK_1 205 rfl rfl
theorem zw_206 : (Jvm.Cond.instantiable "ConstructionLedger$Liens" (5 : Nat)) ∈ zG := zK_1 206 rfl rfl
theorem zw_208 : (Jvm.Cond.instanceMethod ({ cls := "ConstructionLedger$Liens", name := "<init>", desc := "()V" } : Jvm.MethodName)) ∈ zG := zK_1 208 rfl rfl
theorem zw_209 : (Jvm.Cond.code ({ cls := "ConstructionLedger$Liens", name := "<init>", desc := "()V" } : Jvm.MethodName) prog_5_method_1_code (1 : Nat) (Option.none : Option Jvm.ClassFile.FieldType)) ∈ zG := zK_1 209 rfl rfl
theorem zw_210 : (Jvm.Cond.methodLink "ConstructionLedger$Liens" (3 : Nat) ({ cls := "java/lang/Object", name := "<init>", desc := "()V" } : Jvm.MethodName)) ∈ zG := zK_1 210 rfl rfl
theorem zw_211 : (Jvm.Cond.fieldLink "ConstructionLedger$Liens" (9 : Nat) "ConstructionLedger$Liens" "count" "I") ∈ zG := zK_1 211 rfl rfl
theorem zw_212 : (Jvm.Cond.fieldLink "ConstructionLedger$Project" (75 : Nat) "ConstructionLedger$Liens" "count" "I") ∈ zG := zK_1 212 rfl rfl
theorem zw_213 : (Jvm.Cond.fieldLink "ConstructionLedger" (209 : Nat) "ConstructionLedger$Liens" "count" "I") ∈ zG := zK_1 213 rfl rfl
theorem zw_214 : (Jvm.Cond.fieldLink "ConstructionLedger$Liens" (15 : Nat) "ConstructionLedger$Liens" "contract" "[I") ∈ zG := zK_1 214 rfl rfl
theorem zw_215 : (Jvm.Cond.fieldLink "ConstructionLedger$Project" (225 : Nat) "ConstructionLedger$Liens" "contract" "[I") ∈ zG := zK_1 215 rfl rfl
theorem zw_216 : (Jvm.Cond.fieldLink "ConstructionLedger$Liens" (19 : Nat) "ConstructionLedger$Liens" "amount" "[J") ∈ zG := zK_1 216 rfl rfl
theorem zw_217 : (Jvm.Cond.fieldLink "ConstructionLedger$Project" (222 : Nat) "ConstructionLedger$Liens" "amount" "[J") ∈ zG := zK_1 217 rfl rfl
theorem zw_218 : (Jvm.Cond.fieldLink "ConstructionLedger$Liens" (23 : Nat) "ConstructionLedger$Liens" "filed" "[I") ∈ zG := zK_1 218 rfl rfl
theorem zw_219 : (Jvm.Cond.fieldLink "ConstructionLedger$Project" (238 : Nat) "ConstructionLedger$Liens" "filed" "[I") ∈ zG := zK_1 219 rfl rfl
theorem zw_220 : (Jvm.Cond.fieldLink "ConstructionLedger$Liens" (26 : Nat) "ConstructionLedger$Liens" "withdrawn" "[Z") ∈ zG := zK_1 220 rfl rfl
theorem zw_221 : (Jvm.Cond.fieldLink "ConstructionLedger$Project" (219 : Nat) "ConstructionLedger$Liens" "withdrawn" "[Z") ∈ zG := zK_1 221 rfl rfl
theorem zw_222 : (Jvm.Cond.fieldLink "ConstructionLedger" (282 : Nat) "ConstructionLedger$Liens" "withdrawn" "[Z") ∈ zG := zK_1 222 rfl rfl
theorem zw_223 : (Jvm.Cond.lays "ConstructionLedger$Liens" "ConstructionLedger$Liens" "count" "I") ∈ zG := zK_1 223 rfl rfl
theorem zw_225 : (Jvm.Cond.laysFinal "ConstructionLedger$Liens" "ConstructionLedger$Liens" "contract" "[I") ∈ zG := zK_1 225 rfl rfl
theorem zw_227 : (Jvm.Cond.laysFinal "ConstructionLedger$Liens" "ConstructionLedger$Liens" "amount" "[J") ∈ zG := zK_1 227 rfl rfl
theorem zw_229 : (Jvm.Cond.laysFinal "ConstructionLedger$Liens" "ConstructionLedger$Liens" "filed" "[I") ∈ zG := zK_1 229 rfl rfl
theorem zw_231 : (Jvm.Cond.laysFinal "ConstructionLedger$Liens" "ConstructionLedger$Liens" "withdrawn" "[Z") ∈ zG := zK_1 231 rfl rfl
theorem zw_234 : (Jvm.Cond.fieldLink "ConstructionLedger$Project" (9 : Nat) "ConstructionLedger$Project" "day" "I") ∈ zG := zK_1 234 rfl rfl
theorem zw_235 : (Jvm.Cond.fieldLink "ConstructionLedger" (75 : Nat) "ConstructionLedger$Project" "day" "I") ∈ zG := zK_1 235 rfl rfl
theorem zw_236 : (Jvm.Cond.fieldLink "ConstructionLedger$Project" (15 : Nat) "ConstructionLedger$Project" "accounts" "[J") ∈ zG := zK_1 236 rfl rfl
theorem zw_237 : (Jvm.Cond.fieldLink "ConstructionLedger$SetupReader" (88 : Nat) "ConstructionLedger$Project" "accounts" "[J") ∈ zG := zK_1 237 rfl rfl
theorem zw_238 : (Jvm.Cond.fieldLink "ConstructionLedger" (154 : Nat) "ConstructionLedger$Project" "accounts" "[J") ∈ zG := zK_1 238 rfl rfl
theorem zw_239 : (Jvm.Cond.fieldLink "ConstructionLedger$Project" (22 : Nat) "ConstructionLedger$Project" "contracts" "LConstructionLedger$Contracts;") ∈ zG := zK_1 239 rfl rfl
theorem zw_240 : (Jvm.Cond.fieldLink "ConstructionLedger" (60 : Nat) "ConstructionLedger$Project" "contracts" "LConstructionLedger$Contracts;") ∈ zG := zK_2 0 rfl rfl
theorem zw_241 : (Jvm.Cond.fieldLink "ConstructionLedger$SetupReader" (92 : Nat) "ConstructionLedger$Project" "contracts" "LConstructionLedger$Contracts;") ∈ zG := zK_2 1 rfl rfl
theorem zw_242 : (Jvm.Cond.fieldLink "ConstructionLedger$Project" (31 : Nat) "ConstructionLedger$Project" "pricing" "LConstructionLedger$Pricing;") ∈ zG := zK_2 2 rfl rfl
theorem zw_243 : (Jvm.Cond.fieldLink "ConstructionLedger$SetupReader" (118 : Nat) "ConstructionLedger$Project" "pricing" "LConstructionLedger$Pricing;") ∈ zG := zK_2 3 rfl rfl
theorem zw_244 : (Jvm.Cond.fieldLink "ConstructionLedger" (104 : Nat) "ConstructionLedger$Project" "pricing" "LConstructionLedger$Pricing;") ∈ zG := zK_2 4 rfl rfl
theorem zw_245 : (Jvm.Cond.fieldLink "ConstructionLedger$Project" (38 : Nat) "ConstructionLedger$Project" "items" "LConstructionLedger$Items;") ∈ zG := zK_2 5 rfl rfl
theorem zw_246 : (Jvm.Cond.fieldLink "ConstructionLedger$SetupReader" (140 : Nat) "ConstructionLedger$Project" "items" "LConstructionLedger$Items;") ∈ zG := zK_2 6 rfl rfl
theorem zw_247 : (Jvm.Cond.fieldLink "ConstructionLedger" (85 : Nat) "ConstructionLedger$Project" "items" "LConstructionLedger$Items;") ∈ zG := zK_2 7 rfl rfl
theorem zw_248 : (Jvm.Cond.fieldLink "ConstructionLedger$Project" (45 : Nat) "ConstructionLedger$Project" "variations" "LConstructionLedger$Variations;") ∈ zG := zK_2 8 rfl rfl
theorem zw_249 : (Jvm.Cond.fieldLink "ConstructionLedger" (188 : Nat) "ConstructionLedger$Project" "variations" "LConstructionLedger$Variations;") ∈ zG := zK_2 9 rfl rfl
theorem zw_250 : (Jvm.Cond.fieldLink "ConstructionLedger$Project" (52 : Nat) "ConstructionLedger$Project" "certificates" "LConstructionLedger$Certificates;") ∈ zG := zK_2 10 rfl rfl
theorem zw_251 : (Jvm.Cond.fieldLink "ConstructionLedger" (130 : Nat) "ConstructionLedger$Project" "certificates" "LConstructionLedger$Certificates;") ∈ zG := zK_2 11 rfl rfl
theorem zw_252 : (Jvm.Cond.fieldLink "ConstructionLedger$Project" (59 : Nat) "ConstructionLedger$Project" "liens" "LConstructionLedger$Liens;") ∈ zG := zK_2 12 rfl rfl
theorem zw_253 : (Jvm.Cond.fieldLink "ConstructionLedger" (205 : Nat) "ConstructionLedger$Project" "liens" "LConstructionLedger$Liens;") ∈ zG := zK_2 13 rfl rfl
theorem zw_254 : (Jvm.Cond.fieldLink "ConstructionLedger$Project" (63 : Nat) "ConstructionLedger$Project" "order" "[I") ∈ zG := zK_2 14 rfl rfl
theorem zw_255 : (Jvm.Cond.lays "ConstructionLedger$Project" "ConstructionLedger$Project" "day" "I") ∈ zG := zK_2 15 rfl rfl
theorem zw_257 : (Jvm.Cond.laysFinal "ConstructionLedger$Project" "ConstructionLedger$Project" "accounts" "[J") ∈ zG := zK_2 17 rfl rfl
theorem zw_259 : (Jvm.Cond.laysFinal "ConstructionLedger$Project" "ConstructionLedger$Project" "contracts" "LConstructionLedger$Contracts;") ∈ zG := zK_2 19 rfl rfl
theorem zw_261 : (Jvm.Cond.lays "ConstructionLedger$Project" "ConstructionLedger$Project" "pricing" "LConstructionLedger$Pricing;") ∈ zG := zK_2 21 rfl rfl
theorem zw_263 : (Jvm.Cond.laysFinal "ConstructionLedger$Project" "ConstructionLedger$Project" "items" "LConstructionLedger$Items;") ∈ zG := zK_2 23 rfl rfl
theorem zw_265 : (Jvm.Cond.laysFinal "ConstructionLedger$Project" "ConstructionLedger$Project" "variations" "LConstructionLedger$Variations;") ∈ zG := zK_2 25 rfl rfl
theorem zw_267 : (Jvm.Cond.laysFinal "ConstructionLedger$Project" "ConstructionLedger$Project" "certificates" "LConstructionLedger$Certificates;") ∈ zG := zK_2 27 rfl rfl
theorem zw_269 : (Jvm.Cond.laysFinal "ConstructionLedger$Project" "ConstructionLedger$Project" "liens" "LConstructionLedger$Liens;") ∈ zG := zK_2 29 rfl rfl
theorem zw_271 : (Jvm.Cond.laysFinal "ConstructionLedger$Project" "ConstructionLedger$Project" "order" "[I") ∈ zG := zK_2 31 rfl rfl
theorem zw_274 : (Jvm.Cond.fieldLink "ConstructionLedger$SetupReader" (9 : Nat) "ConstructionLedger$SetupReader" "text" "[B") ∈ zG := zK_2 34 rfl rfl
theorem zw_275 : (Jvm.Cond.fieldLink "ConstructionLedger$SetupReader" (15 : Nat) "ConstructionLedger$SetupReader" "filled" "I") ∈ zG := zK_2 35 rfl rfl
theorem zw_276 : (Jvm.Cond.fieldLink "ConstructionLedger" (34 : Nat) "ConstructionLedger$SetupReader" "filled" "I") ∈ zG := zK_2 36 rfl rfl
theorem zw_277 : (Jvm.Cond.fieldLink "ConstructionLedger$SetupReader" (22 : Nat) "ConstructionLedger$SetupReader" "draft" "LConstructionLedger$Project;") ∈ zG := zK_2 37 rfl rfl
theorem zw_278 : (Jvm.Cond.fieldLink "ConstructionLedger" (53 : Nat) "ConstructionLedger$SetupReader" "draft" "LConstructionLedger$Project;") ∈ zG := zK_2 38 rfl rfl
theorem zw_279 : (Jvm.Cond.fieldLink "ConstructionLedger$SetupReader" (26 : Nat) "ConstructionLedger$SetupReader" "length" "I") ∈ zG := zK_2 39 rfl rfl
theorem zw_280 : (Jvm.Cond.fieldLink "ConstructionLedger$SetupReader" (29 : Nat) "ConstructionLedger$SetupReader" "at" "I") ∈ zG := zK_2 40 rfl rfl
theorem zw_281 : (Jvm.Cond.fieldLink "ConstructionLedger$SetupReader" (32 : Nat) "ConstructionLedger$SetupReader" "kind" "I") ∈ zG := zK_2 41 rfl rfl
theorem zw_282 : (Jvm.Cond.fieldLink "ConstructionLedger$SetupReader" (35 : Nat) "ConstructionLedger$SetupReader" "start" "I") ∈ zG := zK_2 42 rfl rfl
theorem zw_283 : (Jvm.Cond.fieldLink "ConstructionLedger$SetupReader" (38 : Nat) "ConstructionLedger$SetupReader" "value" "I") ∈ zG := zK_2 43 rfl rfl
theorem zw_284 : (Jvm.Cond.fieldLink "ConstructionLedger$SetupReader" (41 : Nat) "ConstructionLedger$SetupReader" "error" "I") ∈ zG := zK_2 44 rfl rfl
theorem zw_285 : (Jvm.Cond.fieldLink "ConstructionLedger$SetupReader" (44 : Nat) "ConstructionLedger$SetupReader" "errorAt" "I") ∈ zG := zK_2 45 rfl rfl
theorem zw_286 : (Jvm.Cond.fieldLink "ConstructionLedger" (69 : Nat) "ConstructionLedger$SetupReader" "errorAt" "I") ∈ zG := zK_2 46 rfl rfl
theorem zw_287 : (Jvm.Cond.fieldLink "ConstructionLedger$SetupReader" (47 : Nat) "ConstructionLedger$SetupReader" "hasThreshold" "Z") ∈ zG := zK_2 47 rfl rfl
theorem zw_288 : (Jvm.Cond.fieldLink "ConstructionLedger$SetupReader" (51 : Nat) "ConstructionLedger$SetupReader" "hasRate" "Z") ∈ zG := zK_2 48 rfl rfl
theorem zw_289 : (Jvm.Cond.laysFinal "ConstructionLedger$SetupReader" "ConstructionLedger$SetupReader" "text" "[B") ∈ zG := zK_2 49 rfl rfl
theorem zw_291 : (Jvm.Cond.lays "ConstructionLedger$SetupReader" "ConstructionLedger$SetupReader" "filled" "I") ∈ zG := zK_2 51 rfl rfl
theorem zw_293 : (Jvm.Cond.laysFinal "ConstructionLedger$SetupReader" "ConstructionLedger$SetupReader" "draft" "LConstructionLedger$Project;") ∈ zG := zK_2 53 rfl rfl
theorem zw_295 : (Jvm.Cond.lays "ConstructionLedger$SetupReader" "ConstructionLedger$SetupReader" "length" "I") ∈ zG := zK_2 55 rfl rfl
theorem zw_297 : (Jvm.Cond.lays "ConstructionLedger$SetupReader" "ConstructionLedger$SetupReader" "at" "I") ∈ zG := zK_2 57 rfl rfl
theorem zw_299 : (Jvm.Cond.lays "ConstructionLedger$SetupReader" "ConstructionLedger$SetupReader" "kind" "I") ∈ zG := zK_2 59 rfl rfl
theorem zw_301 : (Jvm.Cond.lays "ConstructionLedger$SetupReader" "ConstructionLedger$SetupReader" "start" "I") ∈ zG := zK_2 61 rfl rfl
theorem zw_303 : (Jvm.Cond.lays "ConstructionLedger$SetupReader" "ConstructionLedger$SetupReader" "value" "I") ∈ zG := zK_2 63 rfl rfl
theorem zw_305 : (Jvm.Cond.lays "ConstructionLedger$SetupReader" "ConstructionLedger$SetupReader" "error" "I") ∈ zG := zK_2 65 rfl rfl
theorem zw_307 : (Jvm.Cond.lays "ConstructionLedger$SetupReader" "ConstructionLedger$SetupReader" "errorAt" "I") ∈ zG := zK_2 67 rfl rfl
theorem zw_309 : (Jvm.Cond.lays "ConstructionLedger$SetupReader" "ConstructionLedger$SetupReader" "hasThreshold" "Z") ∈ zG := zK_2 69 rfl rfl
theorem zw_311 : (Jvm.Cond.lays "ConstructionLedger$SetupReader" "ConstructionLedger$SetupReader" "hasRate" "Z") ∈ zG := zK_2 71 rfl rfl
theorem zw_314 : (Jvm.Cond.classLink "ConstructionLedger" (16 : Nat) "ConstructionLedger$Project") ∈ zG := zK_2 74 rfl rfl
theorem zw_317 : (Jvm.Cond.fieldLink "ConstructionLedger" (12 : Nat) "ConstructionLedger" "reader" "LConstructionLedger$SetupReader;") ∈ zG := zK_2 77 rfl rfl
theorem zw_318 : (Jvm.Cond.fieldLink "ConstructionLedger" (18 : Nat) "ConstructionLedger" "states" "[LConstructionLedger$Project;") ∈ zG := zK_2 78 rfl rfl
theorem zw_319 : (Jvm.Cond.fieldLink "ConstructionLedger" (22 : Nat) "ConstructionLedger" "present" "I") ∈ zG := zK_2 79 rfl rfl
theorem zw_320 : (Jvm.Cond.fieldLink "ConstructionLedger" (26 : Nat) "ConstructionLedger" "undoSteps" "I") ∈ zG := zK_2 80 rfl rfl
theorem zw_321 : (Jvm.Cond.fieldLink "ConstructionLedger" (30 : Nat) "ConstructionLedger" "forecast" "LConstructionLedger$Project;") ∈ zG := zK_2 81 rfl rfl
theorem zw_322 : (Jvm.Cond.laysFinal "ConstructionLedger" "ConstructionLedger" "reader" "LConstructionLedger$SetupReader;") ∈ zG := zK_2 82 rfl rfl
theorem zw_324 : (Jvm.Cond.laysFinal "ConstructionLedger" "ConstructionLedger" "states" "[LConstructionLedger$Project;") ∈ zG := zK_2 84 rfl rfl
theorem zw_326 : (Jvm.Cond.lays "ConstructionLedger" "ConstructionLedger" "present" "I") ∈ zG := zK_2 86 rfl rfl
theorem zw_328 : (Jvm.Cond.lays "ConstructionLedger" "ConstructionLedger" "undoSteps" "I") ∈ zG := zK_2 88 rfl rfl
theorem zw_330 : (Jvm.Cond.laysFinal "ConstructionLedger" "ConstructionLedger" "forecast" "LConstructionLedger$Project;") ∈ zG := zK_2 90 rfl rfl
theorem zw_333 : (Jvm.Cond.methodLink "ConstructionLedgerLaw" (139 : Nat) ({ cls := "ConstructionLedger", name := "append", desc := "(IIIII)I" } : Jvm.MethodName)) ∈ zG := zK_2 93 rfl rfl
theorem zw_334 : (Jvm.Cond.instanceMethod ({ cls := "ConstructionLedger", name := "append", desc := "(IIIII)I" } : Jvm.MethodName)) ∈ zG := zK_2 94 rfl rfl
theorem zw_335 : (Jvm.Cond.selects "ConstructionLedger" ({ cls := "ConstructionLedger", name := "append", desc := "(IIIII)I" } : Jvm.MethodName) ({ cls := "ConstructionLedger", name := "append", desc := "(IIIII)I" } : Jvm.MethodName)) ∈ zG := zK_2 95 rfl rfl
theorem zw_336 : (Jvm.Cond.code ({ cls := "ConstructionLedger", name := "append", desc := "(IIIII)I" } : Jvm.MethodName) prog_1_method_2_code (6 : Nat) (Option.some Jvm.ClassFile.FieldType.int)) ∈ zG := zK_2 96 rfl rfl
theorem zw_337 : (Jvm.Cond.methodLink "ConstructionLedger" (37 : Nat) ({ cls := "ConstructionLedger$SetupReader", name := "addBytes", desc := "(I)V" } : Jvm.MethodName)) ∈ zG := zK_2 97 rfl rfl
theorem zw_338 : (Jvm.Cond.instanceMethod ({ cls := "ConstructionLedger$SetupReader", name := "addBytes", desc := "(I)V" } : Jvm.MethodName)) ∈ zG := zK_2 98 rfl rfl
theorem zw_339 : (Jvm.Cond.selects "ConstructionLedger$SetupReader" ({ cls := "ConstructionLedger$SetupReader", name := "addBytes", desc := "(I)V" } : Jvm.MethodName) ({ cls := "ConstructionLedger$SetupReader", name := "addBytes", desc := "(I)V" } : Jvm.MethodName)) ∈ zG := zK_2 99 rfl rfl
theorem zw_340 : (Jvm.Cond.code ({ cls := "ConstructionLedger$SetupReader", name := "addBytes", desc := "(I)V" } : Jvm.MethodName) prog_8_method_2_code (3 : Nat) (Option.none : Option Jvm.ClassFile.FieldType)) ∈ zG := zK_2 100 rfl rfl
theorem zw_341 : (Jvm.Cond.methodLink "ConstructionLedgerLaw" (154 : Nat) ({ cls := "ConstructionLedger", name := "errorOffset", desc := "()I" } : Jvm.MethodName)) ∈ zG := zK_2 101 rfl rfl
theorem zw_342 : (Jvm.Cond.instanceMethod ({ cls := "ConstructionLedger", name := "errorOffset", desc := "()I" } : Jvm.MethodName)) ∈ zG := zK_2 102 rfl rfl
theorem zw_343 : (Jvm.Cond.selects "ConstructionLedger" ({ cls := "ConstructionLedger", name := "errorOffset", desc := "()I" } : Jvm.MethodName) ({ cls := "ConstructionLedger", name := "errorOffset", desc := "()I" } : Jvm.MethodName)) ∈ zG := zK_2 103 rfl rfl
theorem zw_344 : (Jvm.Cond.code ({ cls := "ConstructionLedger", name := "errorOffset", desc := "()I" } : Jvm.MethodName) prog_1_method_4_code (1 : Nat) (Option.some Jvm.ClassFile.FieldType.int)) ∈ zG := zK_2 104 rfl rfl
theorem zw_345 : (Jvm.Cond.methodLink "ConstructionLedgerLaw" (158 : Nat) ({ cls := "ConstructionLedger", name := "day", desc := "()I" } : Jvm.MethodName)) ∈ zG := zK_2 105 rfl rfl
theorem zw_346 : (Jvm.Cond.instanceMethod ({ cls := "ConstructionLedger", name := "day", desc := "()I" } : Jvm.MethodName)) ∈ zG := zK_2 106 rfl rfl
theorem zw_347 : (Jvm.Cond.selects "ConstructionLedger" ({ cls := "ConstructionLedger", name := "day", desc := "()I" } : Jvm.MethodName) ({ cls := "ConstructionLedger", name := "day", desc := "()I" } : Jvm.MethodName)) ∈ zG := zK_2 107 rfl rfl
theorem zw_348 : (Jvm.Cond.code ({ cls := "ConstructionLedger", name := "day", desc := "()I" } : Jvm.MethodName) prog_1_method_5_code (1 : Nat) (Option.some Jvm.ClassFile.FieldType.int)) ∈ zG := zK_2 108 rfl rfl
theorem zw_349 : (Jvm.Cond.methodLink "ConstructionLedger" (72 : Nat) ({ cls := "ConstructionLedger", name := "project", desc := "()LConstructionLedger$Project;" } : Jvm.MethodName)) ∈ zG := zK_2 109 rfl rfl
theorem zw_351 : (Jvm.Cond.instanceMethod ({ cls := "ConstructionLedger", name := "project", desc := "()LConstructionLedger$Project;" } : Jvm.MethodName)) ∈ zG := zK_2 111 rfl rfl
theorem zw_352 : (Jvm.Cond.code ({ cls := "ConstructionLedger", name := "project", desc := "()LConstructionLedger$Project;" } : Jvm.MethodName) prog_1_method_50_code (1 : Nat) (Option.some (Jvm.ClassFile.FieldType.object "ConstructionLedger$Project"))) ∈ zG := zK_2 112 rfl rfl
theorem zw_353 : (Jvm.Cond.methodLink "ConstructionLedgerLaw" (162 : Nat) ({ cls := "ConstructionLedger", name := "contractCount", desc := "()I" } : Jvm.MethodName)) ∈ zG := zK_2 113 rfl rfl
theorem zw_354 : (Jvm.Cond.instanceMethod ({ cls := "ConstructionLedger", name := "contractCount", desc := "()I" } : Jvm.MethodName)) ∈ zG := zK_2 114 rfl rfl
theorem zw_355 : (Jvm.Cond.selects "ConstructionLedger" ({ cls := "ConstructionLedger", name := "contractCount", desc := "()I" } : Jvm.MethodName) ({ cls := "ConstructionLedger", name := "contractCount", desc := "()I" } : Jvm.MethodName)) ∈ zG := zK_2 115 rfl rfl
theorem zw_356 : (Jvm.Cond.code ({ cls := "ConstructionLedger", name := "contractCount", desc := "()I" } : Jvm.MethodName) prog_1_method_6_code (1 : Nat) (Option.some Jvm.ClassFile.FieldType.int)) ∈ zG := zK_2 116 rfl rfl
theorem zw_357 : (Jvm.Cond.methodLink "ConstructionLedgerLaw" (212 : Nat) ({ cls := "ConstructionLedger", name := "certificateCount", desc := "()I" } : Jvm.MethodName)) ∈ zG := zK_2 117 rfl rfl
theorem zw_358 : (Jvm.Cond.instanceMethod ({ cls := "ConstructionLedger", name := "certificateCount", desc := "()I" } : Jvm.MethodName)) ∈ zG := zK_2 118 rfl rfl
theorem zw_359 : (Jvm.Cond.selects "ConstructionLedger" ({ cls := "ConstructionLedger", name := "certificateCount", desc := "()I" } : Jvm.MethodName) ({ cls := "ConstructionLedger", name := "certificateCount", desc := "()I" } : Jvm.MethodName)) ∈ zG := zK_2 119 rfl rfl
theorem zw_360 : (Jvm.Cond.code ({ cls := "ConstructionLedger", name := "certificateCount", desc := "()I" } : Jvm.MethodName) prog_1_method_22_code (1 : Nat) (Option.some Jvm.ClassFile.FieldType.int)) ∈ zG := zK_2 120 rfl rfl
theorem zw_361 : (Jvm.Cond.methodLink "ConstructionLedgerLaw" (231 : Nat) ({ cls := "ConstructionLedger", name := "dueBetween", desc := "(II)J" } : Jvm.MethodName)) ∈ zG := zK_2 121 rfl rfl
theorem zw_362 : (Jvm.Cond.instanceMethod ({ cls := "ConstructionLedger", name := "dueBetween", desc := "(II)J" } : Jvm.MethodName)) ∈ zG := zK_2 122 rfl rfl
theorem zw_363 : (Jvm.Cond.selects "ConstructionLedger" ({ cls := "ConstructionLedger", name := "dueBetween", desc := "(II)J" } : Jvm.MethodName) ({ cls := "ConstructionLedger", name := "dueBetween", desc := "(II)J" } : Jvm.MethodName)) ∈ zG := zK_2 123 rfl rfl
theorem zw_364 : (Jvm.Cond.code ({ cls := "ConstructionLedger", name := "dueBetween", desc := "(II)J" } : Jvm.MethodName) prog_1_method_28_code (3 : Nat) (Option.some Jvm.ClassFile.FieldType.long)) ∈ zG := zK_2 124 rfl rfl
theorem zw_365 : (Jvm.Cond.methodLink "ConstructionLedger" (178 : Nat) ({ cls := "ConstructionLedger$Certificates", name := "openDueBetween", desc := "(II)J" } : Jvm.MethodName)) ∈ zG := zK_2 125 rfl rfl
theorem zw_366 : (Jvm.Cond.instanceMethod ({ cls := "ConstructionLedger$Certificates", name := "openDueBetween", desc := "(II)J" } : Jvm.MethodName)) ∈ zG := zK_2 126 rfl rfl
theorem zw_367 : (Jvm.Cond.selects "ConstructionLedger$Certificates" ({ cls := "ConstructionLedger$Certificates", name := "openDueBetween", desc := "(II)J" } : Jvm.MethodName) ({ cls := "ConstructionLedger$Certificates", name := "openDueBetween", desc := "(II)J" } : Jvm.MethodName)) ∈ zG := zK_2 127 rfl rfl
theorem zw_368 : (Jvm.Cond.code ({ cls := "ConstructionLedger$Certificates", name := "openDueBetween", desc := "(II)J" } : Jvm.MethodName) prog_2_method_7_code (6 : Nat) (Option.some Jvm.ClassFile.FieldType.long)) ∈ zG := zK_2 128 rfl rfl
theorem zw_369 : (Jvm.Cond.methodLink "ConstructionLedgerLaw" (238 : Nat) ({ cls := "ConstructionLedger", name := "variationCount", desc := "()I" } : Jvm.MethodName)) ∈ zG := zK_2 129 rfl rfl
theorem zw_370 : (Jvm.Cond.instanceMethod ({ cls := "ConstructionLedger", name := "variationCount", desc := "()I" } : Jvm.MethodName)) ∈ zG := zK_2 130 rfl rfl
theorem zw_371 : (Jvm.Cond.selects "ConstructionLedger" ({ cls := "ConstructionLedger", name := "variationCount", desc := "()I" } : Jvm.MethodName) ({ cls := "ConstructionLedger", name := "variationCount", desc := "()I" } : Jvm.MethodName)) ∈ zG := zK_2 131 rfl rfl
theorem zw_372 : (Jvm.Cond.code ({ cls := "ConstructionLedger", name := "variationCount", desc := "()I" } : Jvm.MethodName) prog_1_method_30_code (1 : Nat) (Option.some Jvm.ClassFile.FieldType.int)) ∈ zG := zK_2 132 rfl rfl
theorem zw_373 : (Jvm.Cond.methodLink "ConstructionLedgerLaw" (248 : Nat) ({ cls := "ConstructionLedger", name := "lienCount", desc := "()I" } : Jvm.MethodName)) ∈ zG := zK_2 133 rfl rfl
theorem zw_374 : (Jvm.Cond.instanceMethod ({ cls := "ConstructionLedger", name := "lienCount", desc := "()I" } : Jvm.MethodName)) ∈ zG := zK_2 134 rfl rfl
theorem zw_375 : (Jvm.Cond.selects "ConstructionLedger" ({ cls := "ConstructionLedger", name := "lienCount", desc := "()I" } : Jvm.MethodName) ({ cls := "ConstructionLedger", name := "lienCount", desc := "()I" } : Jvm.MethodName)) ∈ zG := zK_2 135 rfl rfl
theorem zw_376 : (Jvm.Cond.code ({ cls := "ConstructionLedger", name := "lienCount", desc := "()I" } : Jvm.MethodName) prog_1_method_33_code (1 : Nat) (Option.some Jvm.ClassFile.FieldType.int)) ∈ zG := zK_2 136 rfl rfl
theorem zw_377 : (Jvm.Cond.methodLink "ConstructionLedgerLaw" (295 : Nat) ({ cls := "ConstructionLedger", name := "undo", desc := "()I" } : Jvm.MethodName)) ∈ zG := zK_2 137 rfl rfl
theorem zw_378 : (Jvm.Cond.instanceMethod ({ cls := "ConstructionLedger", name := "undo", desc := "()I" } : Jvm.MethodName)) ∈ zG := zK_2 138 rfl rfl
theorem zw_379 : (Jvm.Cond.selects "ConstructionLedger" ({ cls := "ConstructionLedger", name := "undo", desc := "()I" } : Jvm.MethodName) ({ cls := "ConstructionLedger", name := "undo", desc := "()I" } : Jvm.MethodName)) ∈ zG := zK_2 139 rfl rfl
theorem zw_380 : (Jvm.Cond.code ({ cls := "ConstructionLedger", name := "undo", desc := "()I" } : Jvm.MethodName) prog_1_method_48_code (1 : Nat) (Option.some Jvm.ClassFile.FieldType.int)) ∈ zG := zK_2 140 rfl rfl
theorem zw_381 : (Jvm.Cond.methodLink "ConstructionLedgerLaw" (299 : Nat) ({ cls := "ConstructionLedger", name := "checksum", desc := "()J" } : Jvm.MethodName)) ∈ zG := zK_2 141 rfl rfl
theorem zw_382 : (Jvm.Cond.instanceMethod ({ cls := "ConstructionLedger", name := "checksum", desc := "()J" } : Jvm.MethodName)) ∈ zG := zK_2 142 rfl rfl
theorem zw_383 : (Jvm.Cond.selects "ConstructionLedger" ({ cls := "ConstructionLedger", name := "checksum", desc := "()J" } : Jvm.MethodName) ({ cls := "ConstructionLedger", name := "checksum", desc := "()J" } : Jvm.MethodName)) ∈ zG := zK_2 143 rfl rfl
theorem zw_384 : (Jvm.Cond.code ({ cls := "ConstructionLedger", name := "checksum", desc := "()J" } : Jvm.MethodName) prog_1_method_49_code (1 : Nat) (Option.some Jvm.ClassFile.FieldType.long)) ∈ zG := zK_2 144 rfl rfl
theorem zw_385 : (Jvm.Cond.methodLink "ConstructionLedger" (285 : Nat) ({ cls := "ConstructionLedger$Project", name := "checksumOfAll", desc := "()J" } : Jvm.MethodName)) ∈ zG := zK_2 145 rfl rfl
theorem zw_386 : (Jvm.Cond.instanceMethod ({ cls := "ConstructionLedger$Project", name := "checksumOfAll", desc := "()J" } : Jvm.MethodName)) ∈ zG := zK_2 146 rfl rfl
theorem zw_387 : (Jvm.Cond.selects "ConstructionLedger$Project" ({ cls := "ConstructionLedger$Project", name := "checksumOfAll", desc := "()J" } : Jvm.MethodName) ({ cls := "ConstructionLedger$Project", name := "checksumOfAll", desc := "()J" } : Jvm.MethodName)) ∈ zG := zK_2 147 rfl rfl
theorem zw_388 : (Jvm.Cond.code ({ cls := "ConstructionLedger$Project", name := "checksumOfAll", desc := "()J" } : Jvm.MethodName) prog_7_method_26_code (4 : Nat) (Option.some Jvm.ClassFile.FieldType.long)) ∈ zG := zK_2 148 rfl rfl
theorem zw_389 : (Jvm.Cond.constantLong "ConstructionLedger$Project" (251 : Nat) (31 : Int64)) ∈ zG := zK_2 149 rfl rfl
theorem zw_390 : (Jvm.Cond.methodLink "ConstructionLedger$Project" (138 : Nat) ({ cls := "ConstructionLedger$Project", name := "grossOf", desc := "(I)J" } : Jvm.MethodName)) ∈ zG := zK_2 150 rfl rfl
theorem zw_391 : (Jvm.Cond.instanceMethod ({ cls := "ConstructionLedger$Project", name := "grossOf", desc := "(I)J" } : Jvm.MethodName)) ∈ zG := zK_2 151 rfl rfl
theorem zw_392 : (Jvm.Cond.selects "ConstructionLedger$Project" ({ cls := "ConstructionLedger$Project", name := "grossOf", desc := "(I)J" } : Jvm.MethodName) ({ cls := "ConstructionLedger$Project", name := "grossOf", desc := "(I)J" } : Jvm.MethodName)) ∈ zG := zK_2 152 rfl rfl
theorem zw_393 : (Jvm.Cond.code ({ cls := "ConstructionLedger$Project", name := "grossOf", desc := "(I)J" } : Jvm.MethodName) prog_7_method_5_code (5 : Nat) (Option.some Jvm.ClassFile.FieldType.long)) ∈ zG := zK_2 153 rfl rfl
theorem zw_394 : (Jvm.Cond.methodLink "ConstructionLedger$Project" (100 : Nat) ({ cls := "ConstructionLedger$Items", name := "slotOf", desc := "(II)I" } : Jvm.MethodName)) ∈ zG := zK_2 154 rfl rfl
theorem zw_395 : (Jvm.Cond.static ({ cls := "ConstructionLedger$Items", name := "slotOf", desc := "(II)I" } : Jvm.MethodName)) ∈ zG := zK_2 155 rfl rfl
theorem zw_396 : (Jvm.Cond.code ({ cls := "ConstructionLedger$Items", name := "slotOf", desc := "(II)I" } : Jvm.MethodName) prog_4_method_2_code (2 : Nat) (Option.some Jvm.ClassFile.FieldType.int)) ∈ zG := zK_2 156 rfl rfl
theorem zw_397 : (Jvm.Cond.methodLink "ConstructionLedger$Project" (111 : Nat) ({ cls := "ConstructionLedger$Items", name := "valueOf", desc := "(ILConstructionLedger$Pricing;)J" } : Jvm.MethodName)) ∈ zG := zK_2 157 rfl rfl
theorem zw_398 : (Jvm.Cond.instanceMethod ({ cls := "ConstructionLedger$Items", name := "valueOf", desc := "(ILConstructionLedger$Pricing;)J" } : Jvm.MethodName)) ∈ zG := zK_2 158 rfl rfl
theorem zw_399 : (Jvm.Cond.selects "ConstructionLedger$Items" ({ cls := "ConstructionLedger$Items", name := "valueOf", desc := "(ILConstructionLedger$Pricing;)J" } : Jvm.MethodName) ({ cls := "ConstructionLedger$Items", name := "valueOf", desc := "(ILConstructionLedger$Pricing;)J" } : Jvm.MethodName)) ∈ zG := zK_2 159 rfl rfl
theorem zw_400 : (Jvm.Cond.code ({ cls := "ConstructionLedger$Items", name := "valueOf", desc := "(ILConstructionLedger$Pricing;)J" } : Jvm.MethodName) prog_4_method_8_code (5 : Nat) (Option.some Jvm.ClassFile.FieldType.long)) ∈ zG := zK_2 160 rfl rfl
theorem zw_401 : (Jvm.Cond.methodLink "ConstructionLedger$Items" (46 : Nat) ({ cls := "ConstructionLedger$Pricing", name := "fullValue", desc := "(III)J" } : Jvm.MethodName)) ∈ zG := zK_2 161 rfl rfl
theorem zw_402 : (Jvm.Cond.instanceMethod ({ cls := "ConstructionLedger$Pricing", name := "fullValue", desc := "(III)J" } : Jvm.MethodName)) ∈ zG := zK_2 162 rfl rfl
theorem zw_403 : (Jvm.Cond.selects "ConstructionLedger$Pricing" ({ cls := "ConstructionLedger$Pricing", name := "fullValue", desc := "(III)J" } : Jvm.MethodName) ({ cls := "ConstructionLedger$Pricing", name := "fullValue", desc := "(III)J" } : Jvm.MethodName)) ∈ zG := zK_2 163 rfl rfl
theorem zw_404 : (Jvm.Cond.code ({ cls := "ConstructionLedger$Pricing", name := "fullValue", desc := "(III)J" } : Jvm.MethodName) prog_6_method_3_code (8 : Nat) (Option.some Jvm.ClassFile.FieldType.long)) ∈ zG := zK_2 164 rfl rfl
theorem zw_405 : (Jvm.Cond.methodLink "ConstructionLedger$Pricing" (34 : Nat) ({ cls := "ConstructionLedger$Pricing", name := "boundOf", desc := "(I)I" } : Jvm.MethodName)) ∈ zG := zK_2 165 rfl rfl
theorem zw_406 : (Jvm.Cond.instanceMethod ({ cls := "ConstructionLedger$Pricing", name := "boundOf", desc := "(I)I" } : Jvm.MethodName)) ∈ zG := zK_2 166 rfl rfl
theorem zw_407 : (Jvm.Cond.selects "ConstructionLedger$Pricing" ({ cls := "ConstructionLedger$Pricing", name := "boundOf", desc := "(I)I" } : Jvm.MethodName) ({ cls := "ConstructionLedger$Pricing", name := "boundOf", desc := "(I)I" } : Jvm.MethodName)) ∈ zG := zK_2 167 rfl rfl
theorem zw_408 : (Jvm.Cond.code ({ cls := "ConstructionLedger$Pricing", name := "boundOf", desc := "(I)I" } : Jvm.MethodName) prog_6_method_5_code (2 : Nat) (Option.some Jvm.ClassFile.FieldType.int)) ∈ zG := zK_2 168 rfl rfl
theorem zw_409 : (Jvm.Cond.methodLink "ConstructionLedger$Pricing" (38 : Nat) ({ cls := "ConstructionLedger$Pricing", name := "rate", desc := "(III)I" } : Jvm.MethodName)) ∈ zG := zK_2 169 rfl rfl
theorem zw_410 : (Jvm.Cond.instanceMethod ({ cls := "ConstructionLedger$Pricing", name := "rate", desc := "(III)I" } : Jvm.MethodName)) ∈ zG := zK_2 170 rfl rfl
theorem zw_411 : (Jvm.Cond.selects "ConstructionLedger$Pricing" ({ cls := "ConstructionLedger$Pricing", name := "rate", desc := "(III)I" } : Jvm.MethodName) ({ cls := "ConstructionLedger$Pricing", name := "rate", desc := "(III)I" } : Jvm.MethodName)) ∈ zG := zK_2 171 rfl rfl
theorem zw_412 : (Jvm.Cond.code ({ cls := "ConstructionLedger$Pricing", name := "rate", desc := "(III)I" } : Jvm.MethodName) prog_6_method_6_code (7 : Nat) (Option.some Jvm.ClassFile.FieldType.int)) ∈ zG := zK_2 172 rfl rfl
theorem zw_413 : (Jvm.Cond.methodLink "ConstructionLedger$Pricing" (42 : Nat) ({ cls := "ConstructionLedger$Pricing", name := "operand", desc := "(IIII)I" } : Jvm.MethodName)) ∈ zG := zK_2 173 rfl rfl
theorem zw_414 : (Jvm.Cond.static ({ cls := "ConstructionLedger$Pricing", name := "operand", desc := "(IIII)I" } : Jvm.MethodName)) ∈ zG := zK_2 174 rfl rfl
theorem zw_415 : (Jvm.Cond.code ({ cls := "ConstructionLedger$Pricing", name := "operand", desc := "(IIII)I" } : Jvm.MethodName) prog_6_method_7_code (4 : Nat) (Option.some Jvm.ClassFile.FieldType.int)) ∈ zG := zK_2 175 rfl rfl
theorem zw_416 : (Jvm.Cond.methodLink "ConstructionLedger$Pricing" (46 : Nat) ({ cls := "ConstructionLedger$Pricing", name := "result", desc := "(III)I" } : Jvm.MethodName)) ∈ zG := zK_2 176 rfl rfl
theorem zw_417 : (Jvm.Cond.static ({ cls := "ConstructionLedger$Pricing", name := "result", desc := "(III)I" } : Jvm.MethodName)) ∈ zG := zK_2 177 rfl rfl
theorem zw_418 : (Jvm.Cond.code ({ cls := "ConstructionLedger$Pricing", name := "result", desc := "(III)I" } : Jvm.MethodName) prog_6_method_8_code (5 : Nat) (Option.some Jvm.ClassFile.FieldType.int)) ∈ zG := zK_2 178 rfl rfl
theorem zw_419 : (Jvm.Cond.constantLong "ConstructionLedger$Pricing" (50 : Nat) (-1000000 : Int64)) ∈ zG := zK_2 179 rfl rfl
theorem zw_420 : (Jvm.Cond.constantLong "ConstructionLedger$Pricing" (52 : Nat) (1000000 : Int64)) ∈ zG := zK_2 180 rfl rfl
theorem zw_421 : (Jvm.Cond.methodLink "ConstructionLedger$Pricing" (54 : Nat) ({ cls := "java/lang/Math", name := "min", desc := "(JJ)J" } : Jvm.MethodName)) ∈ zG := zK_2 181 rfl rfl
theorem zw_422 : (Jvm.Cond.static ({ cls := "java/lang/Math", name := "min", desc := "(JJ)J" } : Jvm.MethodName)) ∈ zG := zK_2 182 rfl rfl
theorem zw_423 : (Jvm.Cond.code ({ cls := "java/lang/Math", name := "min", desc := "(JJ)J" } : Jvm.MethodName) prog_16_method_70_code (4 : Nat) (Option.some Jvm.ClassFile.FieldType.long)) ∈ zG := zK_2 183 rfl rfl
theorem zw_424 : (Jvm.Cond.methodLink "ConstructionLedger$Pricing" (57 : Nat) ({ cls := "java/lang/Math", name := "max", desc := "(JJ)J" } : Jvm.MethodName)) ∈ zG := zK_2 184 rfl rfl
theorem zw_425 : (Jvm.Cond.static ({ cls := "java/lang/Math", name := "max", desc := "(JJ)J" } : Jvm.MethodName)) ∈ zG := zK_2 185 rfl rfl
theorem zw_426 : (Jvm.Cond.code ({ cls := "java/lang/Math", name := "max", desc := "(JJ)J" } : Jvm.MethodName) prog_16_method_66_code (4 : Nat) (Option.some Jvm.ClassFile.FieldType.long)) ∈ zG := zK_2 186 rfl rfl
theorem zw_427 : (Jvm.Cond.constant "ConstructionLedger$Pricing" (49 : Nat) (99999 : Int32)) ∈ zG := zK_2 187 rfl rfl
theorem zw_428 : (Jvm.Cond.constantLong "ConstructionLedger$Items" (50 : Nat) (100 : Int64)) ∈ zG := zK_2 188 rfl rfl
theorem zw_429 : (Jvm.Cond.methodLink "ConstructionLedger$Project" (145 : Nat) ({ cls := "ConstructionLedger$Certificates", name := "certifiedOf", desc := "(I)J" } : Jvm.MethodName)) ∈ zG := zK_2 189 rfl rfl
theorem zw_430 : (Jvm.Cond.instanceMethod ({ cls := "ConstructionLedger$Certificates", name := "certifiedOf", desc := "(I)J" } : Jvm.MethodName)) ∈ zG := zK_2 190 rfl rfl
theorem zw_431 : (Jvm.Cond.selects "ConstructionLedger$Certificates" ({ cls := "ConstructionLedger$Certificates", name := "certifiedOf", desc := "(I)J" } : Jvm.MethodName) ({ cls := "ConstructionLedger$Certificates", name := "certifiedOf", desc := "(I)J" } : Jvm.MethodName)) ∈ zG := zK_2 191 rfl rfl
theorem zw_432 : (Jvm.Cond.code ({ cls := "ConstructionLedger$Certificates", name := "certifiedOf", desc := "(I)J" } : Jvm.MethodName) prog_2_method_4_code (5 : Nat) (Option.some Jvm.ClassFile.FieldType.long)) ∈ zG := zK_2 192 rfl rfl
theorem zw_433 : (Jvm.Cond.methodLink "ConstructionLedger$Project" (229 : Nat) ({ cls := "ConstructionLedger$Project", name := "claimOf", desc := "(I)J" } : Jvm.MethodName)) ∈ zG := zK_2 193 rfl rfl
theorem zw_434 : (Jvm.Cond.instanceMethod ({ cls := "ConstructionLedger$Project", name := "claimOf", desc := "(I)J" } : Jvm.MethodName)) ∈ zG := zK_2 194 rfl rfl
theorem zw_435 : (Jvm.Cond.selects "ConstructionLedger$Project" ({ cls := "ConstructionLedger$Project", name := "claimOf", desc := "(I)J" } : Jvm.MethodName) ({ cls := "ConstructionLedger$Project", name := "claimOf", desc := "(I)J" } : Jvm.MethodName)) ∈ zG := zK_2 195 rfl rfl
theorem zw_436 : (Jvm.Cond.code ({ cls := "ConstructionLedger$Project", name := "claimOf", desc := "(I)J" } : Jvm.MethodName) prog_7_method_18_code (2 : Nat) (Option.some Jvm.ClassFile.FieldType.long)) ∈ zG := zK_2 196 rfl rfl
theorem zw_437 : (Jvm.Cond.methodLink "ConstructionLedger$Project" (226 : Nat) ({ cls := "ConstructionLedger$Certificates", name := "unpaidOf", desc := "(I)J" } : Jvm.MethodName)) ∈ zG := zK_2 197 rfl rfl
theorem zw_438 : (Jvm.Cond.instanceMethod ({ cls := "ConstructionLedger$Certificates", name := "unpaidOf", desc := "(I)J" } : Jvm.MethodName)) ∈ zG := zK_2 198 rfl rfl
theorem zw_439 : (Jvm.Cond.selects "ConstructionLedger$Certificates" ({ cls := "ConstructionLedger$Certificates", name := "unpaidOf", desc := "(I)J" } : Jvm.MethodName) ({ cls := "ConstructionLedger$Certificates", name := "unpaidOf", desc := "(I)J" } : Jvm.MethodName)) ∈ zG := zK_2 199 rfl rfl
theorem zw_440 : (Jvm.Cond.code ({ cls := "ConstructionLedger$Certificates", name := "unpaidOf", desc := "(I)J" } : Jvm.MethodName) prog_2_method_5_code (5 : Nat) (Option.some Jvm.ClassFile.FieldType.long)) ∈ zG := zK_2 200 rfl rfl
theorem zw_441 : (Jvm.Cond.methodLink "ConstructionLedger$Project" (127 : Nat) ({ cls := "java/lang/Math", name := "min", desc := "(JJ)J" } : Jvm.MethodName)) ∈ zG := zK_2 201 rfl rfl
theorem zw_442 : (Jvm.Cond.methodLink "ConstructionLedgerLaw" (144 : Nat) ({ cls := "ConstructionLedgerLaw", name := "load", desc := "(LConstructionLedger;I[J)I" } : Jvm.MethodName)) ∈ zG := zK_2 202 rfl rfl
theorem zw_443 : (Jvm.Cond.static ({ cls := "ConstructionLedgerLaw", name := "load", desc := "(LConstructionLedger;I[J)I" } : Jvm.MethodName)) ∈ zG := zK_2 203 rfl rfl
theorem zw_444 : (Jvm.Cond.codeWith ({ cls := "ConstructionLedgerLaw", name := "load", desc := "(LConstructionLedger;I[J)I" } : Jvm.MethodName) method_3_code (4 : Nat) (Option.some Jvm.ClassFile.FieldType.int) [((0 : Nat), (9 : Nat), (12 : Nat), (13 : Nat))]) ∈ zG := zK_2 204 rfl rfl
theorem zw_445 : (Jvm.Cond.classLink "ConstructionLedgerLaw" (13 : Nat) "java/lang/IllegalArgumentException") ∈ zG := zK_2 205 rfl rfl
theorem zw_446 : (Jvm.Cond.methodLink "ConstructionLedgerLaw" (7 : Nat) ({ cls := "ConstructionLedger", name := "load", desc := "(I)I" } : Jvm.MethodName)) ∈ zG := zK_2 206 rfl rfl
theorem zw_447 : (Jvm.Cond.instanceMethod ({ cls := "ConstructionLedger", name := "load", desc := "(I)I" } : Jvm.MethodName)) ∈ zG := zK_2 207 rfl rfl
theorem zw_448 : (Jvm.Cond.selects "ConstructionLedger" ({ cls := "ConstructionLedger", name := "load", desc := "(I)I" } : Jvm.MethodName) ({ cls := "ConstructionLedger", name := "load", desc := "(I)I" } : Jvm.MethodName)) ∈ zG := zK_2 208 rfl rfl
theorem zw_449 : (Jvm.Cond.code ({ cls := "ConstructionLedger", name := "load", desc := "(I)I" } : Jvm.MethodName) prog_1_method_3_code (4 : Nat) (Option.some Jvm.ClassFile.FieldType.int)) ∈ zG := zK_2 209 rfl rfl
theorem zw_450 : (Jvm.Cond.methodLink "ConstructionLedger" (41 : Nat) ({ cls := "ConstructionLedger", name := "checkRange", desc := "(III)V" } : Jvm.MethodName)) ∈ zG := zK_2 210 rfl rfl
theorem zw_451 : (Jvm.Cond.static ({ cls := "ConstructionLedger", name := "checkRange", desc := "(III)V" } : Jvm.MethodName)) ∈ zG := zK_2 211 rfl rfl
theorem zw_452 : (Jvm.Cond.code ({ cls := "ConstructionLedger", name := "checkRange", desc := "(III)V" } : Jvm.MethodName) prog_1_method_59_code (3 : Nat) (Option.none : Option Jvm.ClassFile.FieldType)) ∈ zG := zK_2 212 rfl rfl
theorem zw_453 : (Jvm.Cond.classLink "ConstructionLedger" (228 : Nat) "java/lang/IllegalArgumentException") ∈ zG := zK_2 213 rfl rfl
theorem zw_454 : (Jvm.Cond.instantiable "java/lang/IllegalArgumentException" (6 : Nat)) ∈ zG := zK_2 214 rfl rfl
theorem zw_462 : (Jvm.Cond.selects "java/lang/IllegalArgumentException" ({ cls := "java/lang/Throwable", name := "fillInStackTrace", desc := "(I)Ljava/lang/Throwable;" } : Jvm.MethodName) ({ cls := "java/lang/Throwable", name := "fillInStackTrace", desc := "(I)Ljava/lang/Throwable;" } : Jvm.MethodName)) ∈ zG := zK_2 222 rfl rfl
theorem zw_463 : (Jvm.Cond.selects "java/lang/IllegalArgumentException" ({ cls := "java/lang/Throwable", name := "fillInStackTrace", desc := "()Ljava/lang/Throwable;" } : Jvm.MethodName) ({ cls := "java/lang/Throwable", name := "fillInStackTrace", desc := "()Ljava/lang/Throwable;" } : Jvm.MethodName)) ∈ zG := zK_2 223 rfl rfl
theorem zw_464 : (Jvm.Cond.lays "java/lang/IllegalArgumentException" "java/lang/Throwable" "cause" "Ljava/lang/Throwable;") ∈ zG := zK_2 224 rfl rfl
theorem zw_465 : (Jvm.Cond.lays "java/lang/Throwable" "java/lang/Throwable" "cause" "Ljava/lang/Throwable;") ∈ zG := zK_2 225 rfl rfl
theorem zw_466 : (Jvm.Cond.lays "java/lang/IllegalArgumentException" "java/lang/Throwable" "stackTrace" "[Ljava/lang/StackTraceElement;") ∈ zG := zK_2 226 rfl rfl
theorem zw_467 : (Jvm.Cond.lays "java/lang/Throwable" "java/lang/Throwable" "stackTrace" "[Ljava/lang/StackTraceElement;") ∈ zG := zK_2 227 rfl rfl
theorem zw_468 : (Jvm.Cond.lays "java/lang/IllegalArgumentException" "java/lang/Throwable" "suppressedExceptions" "Ljava/util/List;") ∈ zG := zK_2 228 rfl rfl
theorem zw_469 : (Jvm.Cond.lays "java/lang/Throwable" "java/lang/Throwable" "suppressedExceptions" "Ljava/util/List;") ∈ zG := zK_2 229 rfl rfl
theorem zw_470 : (Jvm.Cond.lays "java/lang/IllegalArgumentException" "java/lang/Throwable" "detailMessage" "Ljava/lang/String;") ∈ zG := zK_2 230 rfl rfl
theorem zw_471 : (Jvm.Cond.lays "java/lang/Throwable" "java/lang/Throwable" "detailMessage" "Ljava/lang/String;") ∈ zG := zK_2 231 rfl rfl
theorem zw_472 : (Jvm.Cond.lays "java/lang/IllegalArgumentException" "java/lang/Throwable" "backtrace" "Ljava/lang/Object;") ∈ zG := zK_2 232 rfl rfl
theorem zw_473 : (Jvm.Cond.lays "java/lang/Throwable" "java/lang/Throwable" "backtrace" "Ljava/lang/Object;") ∈ zG := zK_2 233 rfl rfl
theorem zw_474 : (Jvm.Cond.fieldLink "java/lang/Throwable" (198 : Nat) "java/lang/Throwable" "backtrace" "Ljava/lang/Object;") ∈ zG := zK_2 234 rfl rfl
theorem zw_476 : (Jvm.Cond.instanceMethod ({ cls := "java/lang/Throwable", name := "<init>", desc := "()V" } : Jvm.MethodName)) ∈ zG := zK_2 236 rfl rfl
theorem zw_477 : (Jvm.Cond.code ({ cls := "java/lang/Throwable", name := "<init>", desc := "()V" } : Jvm.MethodName) prog_22_method_1_code (1 : Nat) (Option.none : Option Jvm.ClassFile.FieldType)) ∈ zG := zK_2 237 rfl rfl
theorem zw_478 : (Jvm.Cond.methodLink "java/lang/Throwable" (1 : Nat) ({ cls := "java/lang/Object", name := "<init>", desc := "()V" } : Jvm.MethodName)) ∈ zG := zK_2 238 rfl rfl
theorem zw_479 : (Jvm.Cond.fieldLink "java/lang/Throwable" (13 : Nat) "java/lang/Throwable" "UNASSIGNED_STACK" "[Ljava/lang/StackTraceElement;") ∈ zG := zK_2 239 rfl rfl
theorem zw_481 : (Jvm.Cond.fieldLink "java/lang/Throwable" (20 : Nat) "java/lang/Throwable" "SUPPRESSED_SENTINEL" "Ljava/util/List;") ∈ zG := zK_3 1 rfl rfl
theorem zw_483 : (Jvm.Cond.methodLink "java/lang/Throwable" (27 : Nat) ({ cls := "java/lang/Throwable", name := "fillInStackTrace", desc := "()Ljava/lang/Throwable;" } : Jvm.MethodName)) ∈ zG := zK_3 3 rfl rfl
theorem zw_484 : (Jvm.Cond.instanceMethod ({ cls := "java/lang/Throwable", name := "fillInStackTrace", desc := "()Ljava/lang/Throwable;" } : Jvm.MethodName)) ∈ zG := zK_3 4 rfl rfl
theorem zw_486 : (Jvm.Cond.selects "java/lang/IllegalStateException" ({ cls := "java/lang/Throwable", name := "fillInStackTrace", desc := "()Ljava/lang/Throwable;" } : Jvm.MethodName) ({ cls := "java/lang/Throwable", name := "fillInStackTrace", desc := "()Ljava/lang/Throwable;" } : Jvm.MethodName)) ∈ zG := zK_3 6 rfl rfl
theorem zw_487 : (Jvm.Cond.selects "java/lang/IndexOutOfBoundsException" ({ cls := "java/lang/Throwable", name := "fillInStackTrace", desc := "()Ljava/lang/Throwable;" } : Jvm.MethodName) ({ cls := "java/lang/Throwable", name := "fillInStackTrace", desc := "()Ljava/lang/Throwable;" } : Jvm.MethodName)) ∈ zG := zK_3 7 rfl rfl
theorem zw_489 : (Jvm.Cond.methodLink "java/lang/Throwable" (202 : Nat) ({ cls := "java/lang/Throwable", name := "fillInStackTrace", desc := "(I)Ljava/lang/Throwable;" } : Jvm.MethodName)) ∈ zG := zK_3 9 rfl rfl
theorem zw_491 : (Jvm.Cond.instanceMethod ({ cls := "java/lang/Throwable", name := "fillInStackTrace", desc := "(I)Ljava/lang/Throwable;" } : Jvm.MethodName)) ∈ zG := zK_3 11 rfl rfl
theorem zw_492 : (Jvm.Cond.instantiable "java/lang/Throwable" (6 : Nat)) ∈ zG := zK_3 12 rfl rfl
theorem zw_493 : (Jvm.Cond.native ({ cls := "java/lang/Throwable", name := "fillInStackTrace", desc := "(I)Ljava/lang/Throwable;" } : Jvm.MethodName)) ∈ zG := zK_3 13 rfl rfl
theorem zw_495 : (Jvm.Cond.methodLink "ConstructionLedger" (232 : Nat) ({ cls := "java/lang/IllegalArgumentException", name := "<init>", desc := "(Ljava/lang/String;)V" } : Jvm.MethodName)) ∈ zG := zK_3 15 rfl rfl
theorem zw_496 : (Jvm.Cond.instanceMethod ({ cls := "java/lang/IllegalArgumentException", name := "<init>", desc := "(Ljava/lang/String;)V" } : Jvm.MethodName)) ∈ zG := zK_3 16 rfl rfl
theorem zw_497 : (Jvm.Cond.code ({ cls := "java/lang/IllegalArgumentException", name := "<init>", desc := "(Ljava/lang/String;)V" } : Jvm.MethodName) prog_13_method_2_code (2 : Nat) (Option.none : Option Jvm.ClassFile.FieldType)) ∈ zG := zK_3 17 rfl rfl
theorem zw_498 : (Jvm.Cond.methodLink "java/lang/IllegalArgumentException" (7 : Nat) ({ cls := "java/lang/RuntimeException", name := "<init>", desc := "(Ljava/lang/String;)V" } : Jvm.MethodName)) ∈ zG := zK_3 18 rfl rfl
theorem zw_499 : (Jvm.Cond.instanceMethod ({ cls := "java/lang/RuntimeException", name := "<init>", desc := "(Ljava/lang/String;)V" } : Jvm.MethodName)) ∈ zG := zK_3 19 rfl rfl
theorem zw_500 : (Jvm.Cond.code ({ cls := "java/lang/RuntimeException", name := "<init>", desc := "(Ljava/lang/String;)V" } : Jvm.MethodName) prog_17_method_2_code (2 : Nat) (Option.none : Option Jvm.ClassFile.FieldType)) ∈ zG := zK_3 20 rfl rfl
theorem zw_501 : (Jvm.Cond.methodLink "java/lang/RuntimeException" (7 : Nat) ({ cls := "java/lang/Exception", name := "<init>", desc := "(Ljava/lang/String;)V" } : Jvm.MethodName)) ∈ zG := zK_3 21 rfl rfl
theorem zw_502 : (Jvm.Cond.instanceMethod ({ cls := "java/lang/Exception", name := "<init>", desc := "(Ljava/lang/String;)V" } : Jvm.MethodName)) ∈ zG := zK_3 22 rfl rfl
theorem zw_503 : (Jvm.Cond.code ({ cls := "java/lang/Exception", name := "<init>", desc := "(Ljava/lang/String;)V" } : Jvm.MethodName) prog_12_method_2_code (2 : Nat) (Option.none : Option Jvm.ClassFile.FieldType)) ∈ zG := zK_3 23 rfl rfl
theorem zw_504 : (Jvm.Cond.methodLink "java/lang/Exception" (7 : Nat) ({ cls := "java/lang/Throwable", name := "<init>", desc := "(Ljava/lang/String;)V" } : Jvm.MethodName)) ∈ zG := zK_3 24 rfl rfl
theorem zw_505 : (Jvm.Cond.instanceMethod ({ cls := "java/lang/Throwable", name := "<init>", desc := "(Ljava/lang/String;)V" } : Jvm.MethodName)) ∈ zG := zK_3 25 rfl rfl
theorem zw_506 : (Jvm.Cond.code ({ cls := "java/lang/Throwable", name := "<init>", desc := "(Ljava/lang/String;)V" } : Jvm.MethodName) prog_22_method_2_code (2 : Nat) (Option.none : Option Jvm.ClassFile.FieldType)) ∈ zG := zK_3 26 rfl rfl
theorem zw_507 : (Jvm.Cond.fieldLink "java/lang/Throwable" (198 : Nat) "java/lang/Throwable" "backtrace" "Ljava/lang/Object;") ∈ zG := zK_3 27 rfl rfl
theorem zw_508 : (Jvm.Cond.fieldLink "java/lang/Throwable" (31 : Nat) "java/lang/Throwable" "detailMessage" "Ljava/lang/String;") ∈ zG := zK_3 28 rfl rfl
theorem zw_509 : (Jvm.Cond.fieldLink "java/lang/Throwable" (7 : Nat) "java/lang/Throwable" "cause" "Ljava/lang/Throwable;") ∈ zG := zK_3 29 rfl rfl
theorem zw_510 : (Jvm.Cond.fieldLink "java/lang/Throwable" (17 : Nat) "java/lang/Throwable" "stackTrace" "[Ljava/lang/StackTraceElement;") ∈ zG := zK_3 30 rfl rfl
theorem zw_511 : (Jvm.Cond.fieldLink "java/lang/Throwable" (24 : Nat) "java/lang/Throwable" "suppressedExceptions" "Ljava/util/List;") ∈ zG := zK_3 31 rfl rfl
theorem zw_516 : (Jvm.Cond.lays "java/lang/IllegalArgumentException" "java/lang/Throwable" "depth" "I") ∈ zG := zK_3 36 rfl rfl
theorem zw_520 : (Jvm.Cond.methodLink "ConstructionLedger" (45 : Nat) ({ cls := "ConstructionLedger$SetupReader", name := "read", desc := "(I)I" } : Jvm.MethodName)) ∈ zG := zK_3 40 rfl rfl
theorem zw_521 : (Jvm.Cond.instanceMethod ({ cls := "ConstructionLedger$SetupReader", name := "read", desc := "(I)I" } : Jvm.MethodName)) ∈ zG := zK_3 41 rfl rfl
theorem zw_522 : (Jvm.Cond.selects "ConstructionLedger$SetupReader" ({ cls := "ConstructionLedger$SetupReader", name := "read", desc := "(I)I" } : Jvm.MethodName) ({ cls := "ConstructionLedger$SetupReader", name := "read", desc := "(I)I" } : Jvm.MethodName)) ∈ zG := zK_3 42 rfl rfl
theorem zw_523 : (Jvm.Cond.code ({ cls := "ConstructionLedger$SetupReader", name := "read", desc := "(I)I" } : Jvm.MethodName) prog_8_method_3_code (3 : Nat) (Option.some Jvm.ClassFile.FieldType.int)) ∈ zG := zK_3 43 rfl rfl
theorem zw_524 : (Jvm.Cond.methodLink "ConstructionLedger$SetupReader" (54 : Nat) ({ cls := "java/lang/Math", name := "min", desc := "(II)I" } : Jvm.MethodName)) ∈ zG := zK_3 44 rfl rfl
theorem zw_525 : (Jvm.Cond.methodLink "ConstructionLedger$SetupReader" (60 : Nat) ({ cls := "ConstructionLedger$Project", name := "clear", desc := "(I)V" } : Jvm.MethodName)) ∈ zG := zK_3 45 rfl rfl
theorem zw_526 : (Jvm.Cond.instanceMethod ({ cls := "ConstructionLedger$Project", name := "clear", desc := "(I)V" } : Jvm.MethodName)) ∈ zG := zK_3 46 rfl rfl
theorem zw_527 : (Jvm.Cond.selects "ConstructionLedger$Project" ({ cls := "ConstructionLedger$Project", name := "clear", desc := "(I)V" } : Jvm.MethodName) ({ cls := "ConstructionLedger$Project", name := "clear", desc := "(I)V" } : Jvm.MethodName)) ∈ zG := zK_3 47 rfl rfl
theorem zw_528 : (Jvm.Cond.code ({ cls := "ConstructionLedger$Project", name := "clear", desc := "(I)V" } : Jvm.MethodName) prog_7_method_2_code (3 : Nat) (Option.none : Option Jvm.ClassFile.FieldType)) ∈ zG := zK_3 48 rfl rfl
theorem zw_529 : (Jvm.Cond.methodLink "ConstructionLedger$Project" (70 : Nat) ({ cls := "ConstructionLedger$Items", name := "clear", desc := "()V" } : Jvm.MethodName)) ∈ zG := zK_3 49 rfl rfl
theorem zw_530 : (Jvm.Cond.instanceMethod ({ cls := "ConstructionLedger$Items", name := "clear", desc := "()V" } : Jvm.MethodName)) ∈ zG := zK_3 50 rfl rfl
theorem zw_531 : (Jvm.Cond.selects "ConstructionLedger$Items" ({ cls := "ConstructionLedger$Items", name := "clear", desc := "()V" } : Jvm.MethodName) ({ cls := "ConstructionLedger$Items", name := "clear", desc := "()V" } : Jvm.MethodName)) ∈ zG := zK_3 51 rfl rfl
theorem zw_532 : (Jvm.Cond.code ({ cls := "ConstructionLedger$Items", name := "clear", desc := "()V" } : Jvm.MethodName) prog_4_method_3_code (2 : Nat) (Option.none : Option Jvm.ClassFile.FieldType)) ∈ zG := zK_3 52 rfl rfl
theorem zw_533 : (Jvm.Cond.methodLink "ConstructionLedger$SetupReader" (64 : Nat) ({ cls := "ConstructionLedger$SetupReader", name := "advance", desc := "()V" } : Jvm.MethodName)) ∈ zG := zK_3 53 rfl rfl
theorem zw_535 : (Jvm.Cond.instanceMethod ({ cls := "ConstructionLedger$SetupReader", name := "advance", desc := "()V" } : Jvm.MethodName)) ∈ zG := zK_3 55 rfl rfl
theorem zw_536 : (Jvm.Cond.code ({ cls := "ConstructionLedger$SetupReader", name := "advance", desc := "()V" } : Jvm.MethodName) prog_8_method_17_code (2 : Nat) (Option.none : Option Jvm.ClassFile.FieldType)) ∈ zG := zK_3 56 rfl rfl
theorem zw_537 : (Jvm.Cond.constant "ConstructionLedger$SetupReader" (178 : Nat) (100000000 : Int32)) ∈ zG := zK_3 57 rfl rfl
theorem zw_538 : (Jvm.Cond.methodLink "ConstructionLedger$SetupReader" (67 : Nat) ({ cls := "ConstructionLedger$SetupReader", name := "readHead", desc := "()V" } : Jvm.MethodName)) ∈ zG := zK_3 58 rfl rfl
theorem zw_540 : (Jvm.Cond.instanceMethod ({ cls := "ConstructionLedger$SetupReader", name := "readHead", desc := "()V" } : Jvm.MethodName)) ∈ zG := zK_3 60 rfl rfl
theorem zw_541 : (Jvm.Cond.code ({ cls := "ConstructionLedger$SetupReader", name := "readHead", desc := "()V" } : Jvm.MethodName) prog_8_method_4_code (5 : Nat) (Option.none : Option Jvm.ClassFile.FieldType)) ∈ zG := zK_3 61 rfl rfl
theorem zw_543 : (Jvm.Cond.methodLink "ConstructionLedger$SetupReader" (78 : Nat) ({ cls := "ConstructionLedger$SetupReader", name := "takeWord", desc := "(Ljava/lang/String;)V" } : Jvm.MethodName)) ∈ zG := zK_3 63 rfl rfl
theorem zw_545 : (Jvm.Cond.instanceMethod ({ cls := "ConstructionLedger$SetupReader", name := "takeWord", desc := "(Ljava/lang/String;)V" } : Jvm.MethodName)) ∈ zG := zK_3 65 rfl rfl
theorem zw_546 : (Jvm.Cond.code ({ cls := "ConstructionLedger$SetupReader", name := "takeWord", desc := "(Ljava/lang/String;)V" } : Jvm.MethodName) prog_8_method_14_code (2 : Nat) (Option.none : Option Jvm.ClassFile.FieldType)) ∈ zG := zK_3 66 rfl rfl
theorem zw_547 : (Jvm.Cond.methodLink "ConstructionLedger$SetupReader" (104 : Nat) ({ cls := "ConstructionLedger$SetupReader", name := "isWord", desc := "(Ljava/lang/String;)Z" } : Jvm.MethodName)) ∈ zG := zK_3 67 rfl rfl
theorem zw_549 : (Jvm.Cond.instanceMethod ({ cls := "ConstructionLedger$SetupReader", name := "isWord", desc := "(Ljava/lang/String;)Z" } : Jvm.MethodName)) ∈ zG := zK_3 69 rfl rfl
theorem zw_550 : (Jvm.Cond.code ({ cls := "ConstructionLedger$SetupReader", name := "isWord", desc := "(Ljava/lang/String;)Z" } : Jvm.MethodName) prog_8_method_16_code (3 : Nat) (Option.some Jvm.ClassFile.FieldType.boolean)) ∈ zG := zK_3 70 rfl rfl
theorem zw_551 : (Jvm.Cond.methodLink "ConstructionLedger$SetupReader" (169 : Nat) ({ cls := "java/lang/String", name := "length", desc := "()I" } : Jvm.MethodName)) ∈ zG := zK_3 71 rfl rfl
theorem zw_552 : (Jvm.Cond.instanceMethod ({ cls := "java/lang/String", name := "length", desc := "()I" } : Jvm.MethodName)) ∈ zG := zK_3 72 rfl rfl
theorem zw_553 : (Jvm.Cond.selects "java/lang/String" ({ cls := "java/lang/String", name := "length", desc := "()I" } : Jvm.MethodName) ({ cls := "java/lang/String", name := "length", desc := "()I" } : Jvm.MethodName)) ∈ zG := zK_3 73 rfl rfl
theorem zw_554 : (Jvm.Cond.code ({ cls := "java/lang/String", name := "length", desc := "()I" } : Jvm.MethodName) prog_18_method_54_code (1 : Nat) (Option.some Jvm.ClassFile.FieldType.int)) ∈ zG := zK_3 74 rfl rfl
theorem zw_555 : (Jvm.Cond.methodLink "java/lang/String" (335 : Nat) ({ cls := "java/lang/String", name := "coder", desc := "()B" } : Jvm.MethodName)) ∈ zG := zK_3 75 rfl rfl
theorem zw_556 : (Jvm.Cond.instanceMethod ({ cls := "java/lang/String", name := "coder", desc := "()B" } : Jvm.MethodName)) ∈ zG := zK_3 76 rfl rfl
theorem zw_557 : (Jvm.Cond.selects "java/lang/String" ({ cls := "java/lang/String", name := "coder", desc := "()B" } : Jvm.MethodName) ({ cls := "java/lang/String", name := "coder", desc := "()B" } : Jvm.MethodName)) ∈ zG := zK_3 77 rfl rfl
theorem zw_558 : (Jvm.Cond.code ({ cls := "java/lang/String", name := "coder", desc := "()B" } : Jvm.MethodName) prog_18_method_152_code (1 : Nat) (Option.some Jvm.ClassFile.FieldType.byte)) ∈ zG := zK_3 78 rfl rfl
theorem zw_559 : (Jvm.Cond.fieldLink "java/lang/String" (38 : Nat) "java/lang/String" "COMPACT_STRINGS" "Z") ∈ zG := zK_3 79 rfl rfl
theorem zw_561 : (Jvm.Cond.methodLink "ConstructionLedger$SetupReader" (174 : Nat) ({ cls := "java/lang/String", name := "charAt", desc := "(I)C" } : Jvm.MethodName)) ∈ zG := zK_3 81 rfl rfl
theorem zw_562 : (Jvm.Cond.instanceMethod ({ cls := "java/lang/String", name := "charAt", desc := "(I)C" } : Jvm.MethodName)) ∈ zG := zK_3 82 rfl rfl
theorem zw_563 : (Jvm.Cond.selects "java/lang/String" ({ cls := "java/lang/String", name := "charAt", desc := "(I)C" } : Jvm.MethodName) ({ cls := "java/lang/String", name := "charAt", desc := "(I)C" } : Jvm.MethodName)) ∈ zG := zK_3 83 rfl rfl
theorem zw_564 : (Jvm.Cond.code ({ cls := "java/lang/String", name := "charAt", desc := "(I)C" } : Jvm.MethodName) prog_18_method_56_code (2 : Nat) (Option.some Jvm.ClassFile.FieldType.char)) ∈ zG := zK_3 84 rfl rfl
theorem zw_565 : (Jvm.Cond.methodLink "java/lang/String" (492 : Nat) ({ cls := "java/lang/String", name := "isLatin1", desc := "()Z" } : Jvm.MethodName)) ∈ zG := zK_3 85 rfl rfl
theorem zw_566 : (Jvm.Cond.instanceMethod ({ cls := "java/lang/String", name := "isLatin1", desc := "()Z" } : Jvm.MethodName)) ∈ zG := zK_3 86 rfl rfl
theorem zw_567 : (Jvm.Cond.selects "java/lang/String" ({ cls := "java/lang/String", name := "isLatin1", desc := "()Z" } : Jvm.MethodName) ({ cls := "java/lang/String", name := "isLatin1", desc := "()Z" } : Jvm.MethodName)) ∈ zG := zK_3 87 rfl rfl
theorem zw_568 : (Jvm.Cond.code ({ cls := "java/lang/String", name := "isLatin1", desc := "()Z" } : Jvm.MethodName) prog_18_method_154_code (1 : Nat) (Option.some Jvm.ClassFile.FieldType.boolean)) ∈ zG := zK_3 88 rfl rfl
theorem zw_569 : (Jvm.Cond.methodLink "java/lang/String" (495 : Nat) ({ cls := "java/lang/StringLatin1", name := "charAt", desc := "([BI)C" } : Jvm.MethodName)) ∈ zG := zK_3 89 rfl rfl
theorem zw_570 : (Jvm.Cond.static ({ cls := "java/lang/StringLatin1", name := "charAt", desc := "([BI)C" } : Jvm.MethodName)) ∈ zG := zK_3 90 rfl rfl
theorem zw_571 : (Jvm.Cond.code ({ cls := "java/lang/StringLatin1", name := "charAt", desc := "([BI)C" } : Jvm.MethodName) prog_19_method_2_code (2 : Nat) (Option.some Jvm.ClassFile.FieldType.char)) ∈ zG := zK_3 91 rfl rfl
theorem zw_572 : (Jvm.Cond.methodLink "java/lang/StringLatin1" (9 : Nat) ({ cls := "java/lang/String", name := "checkIndex", desc := "(II)V" } : Jvm.MethodName)) ∈ zG := zK_3 92 rfl rfl
theorem zw_573 : (Jvm.Cond.static ({ cls := "java/lang/String", name := "checkIndex", desc := "(II)V" } : Jvm.MethodName)) ∈ zG := zK_3 93 rfl rfl
theorem zw_574 : (Jvm.Cond.code ({ cls := "java/lang/String", name := "checkIndex", desc := "(II)V" } : Jvm.MethodName) prog_18_method_155_code (2 : Nat) (Option.none : Option Jvm.ClassFile.FieldType)) ∈ zG := zK_3 94 rfl rfl
theorem zw_575 : (Jvm.Cond.fieldLink "java/lang/String" (1053 : Nat) "jdk/internal/util/Preconditions" "SIOOBE_FORMATTER" "Ljava/util/function/BiFunction;") ∈ zG := zK_3 95 rfl rfl
theorem zw_577 : (Jvm.Cond.methodLink "java/lang/String" (1059 : Nat) ({ cls := "jdk/internal/util/Preconditions", name := "checkIndex", desc := "(IILjava/util/function/BiFunction;)I" } : Jvm.MethodName)) ∈ zG := zK_3 97 rfl rfl
theorem zw_578 : (Jvm.Cond.static ({ cls := "jdk/internal/util/Preconditions", name := "checkIndex", desc := "(IILjava/util/function/BiFunction;)I" } : Jvm.MethodName)) ∈ zG := zK_3 98 rfl rfl
theorem zw_579 : (Jvm.Cond.code ({ cls := "jdk/internal/util/Preconditions", name := "checkIndex", desc := "(IILjava/util/function/BiFunction;)I" } : Jvm.MethodName) prog_23_method_11_code (3 : Nat) (Option.some Jvm.ClassFile.FieldType.int)) ∈ zG := zK_3 99 rfl rfl
theorem zw_580 : (Jvm.Cond.methodLink "java/lang/String" (498 : Nat) ({ cls := "java/lang/StringUTF16", name := "charAt", desc := "([BI)C" } : Jvm.MethodName)) ∈ zG := zK_3 100 rfl rfl
theorem zw_581 : (Jvm.Cond.static ({ cls := "java/lang/StringUTF16", name := "charAt", desc := "([BI)C" } : Jvm.MethodName)) ∈ zG := zK_3 101 rfl rfl
theorem zw_582 : (Jvm.Cond.code ({ cls := "java/lang/StringUTF16", name := "charAt", desc := "([BI)C" } : Jvm.MethodName) prog_20_method_83_code (2 : Nat) (Option.some Jvm.ClassFile.FieldType.char)) ∈ zG := zK_3 102 rfl rfl
theorem zw_583 : (Jvm.Cond.methodLink "java/lang/StringUTF16" (67 : Nat) ({ cls := "java/lang/StringUTF16", name := "checkIndex", desc := "(I[B)V" } : Jvm.MethodName)) ∈ zG := zK_3 103 rfl rfl
theorem zw_584 : (Jvm.Cond.static ({ cls := "java/lang/StringUTF16", name := "checkIndex", desc := "(I[B)V" } : Jvm.MethodName)) ∈ zG := zK_3 104 rfl rfl
theorem zw_585 : (Jvm.Cond.code ({ cls := "java/lang/StringUTF16", name := "checkIndex", desc := "(I[B)V" } : Jvm.MethodName) prog_20_method_91_code (2 : Nat) (Option.none : Option Jvm.ClassFile.FieldType)) ∈ zG := zK_3 105 rfl rfl
theorem zw_586 : (Jvm.Cond.methodLink "java/lang/StringUTF16" (48 : Nat) ({ cls := "java/lang/StringUTF16", name := "length", desc := "([B)I" } : Jvm.MethodName)) ∈ zG := zK_3 106 rfl rfl
theorem zw_587 : (Jvm.Cond.static ({ cls := "java/lang/StringUTF16", name := "length", desc := "([B)I" } : Jvm.MethodName)) ∈ zG := zK_3 107 rfl rfl
theorem zw_588 : (Jvm.Cond.code ({ cls := "java/lang/StringUTF16", name := "length", desc := "([B)I" } : Jvm.MethodName) prog_20_method_6_code (1 : Nat) (Option.some Jvm.ClassFile.FieldType.int)) ∈ zG := zK_3 108 rfl rfl
theorem zw_589 : (Jvm.Cond.methodLink "java/lang/StringUTF16" (414 : Nat) ({ cls := "java/lang/String", name := "checkIndex", desc := "(II)V" } : Jvm.MethodName)) ∈ zG := zK_3 109 rfl rfl
theorem zw_590 : (Jvm.Cond.methodLink "java/lang/StringUTF16" (71 : Nat) ({ cls := "java/lang/StringUTF16", name := "getChar", desc := "([BI)C" } : Jvm.MethodName)) ∈ zG := zK_3 110 rfl rfl
theorem zw_591 : (Jvm.Cond.static ({ cls := "java/lang/StringUTF16", name := "getChar", desc := "([BI)C" } : Jvm.MethodName)) ∈ zG := zK_3 111 rfl rfl
theorem zw_592 : (Jvm.Cond.code ({ cls := "java/lang/StringUTF16", name := "getChar", desc := "([BI)C" } : Jvm.MethodName) prog_20_method_5_code (2 : Nat) (Option.some Jvm.ClassFile.FieldType.char)) ∈ zG := zK_3 112 rfl rfl
theorem zw_593 : (Jvm.Cond.fieldLink "java/lang/StringUTF16" (44 : Nat) "java/lang/StringUTF16" "$assertionsDisabled" "Z") ∈ zG := zK_3 113 rfl rfl
theorem zw_595 : (Jvm.Cond.fieldLink "java/lang/StringUTF16" (59 : Nat) "java/lang/StringUTF16" "HI_BYTE_SHIFT" "I") ∈ zG := zK_3 115 rfl rfl
theorem zw_597 : (Jvm.Cond.fieldLink "java/lang/StringUTF16" (63 : Nat) "java/lang/StringUTF16" "LO_BYTE_SHIFT" "I") ∈ zG := zK_3 117 rfl rfl
theorem zw_599 : (Jvm.Cond.methodLink "ConstructionLedger$SetupReader" (131 : Nat) ({ cls := "ConstructionLedger$SetupReader", name := "failAt", desc := "(II)V" } : Jvm.MethodName)) ∈ zG := zK_3 119 rfl rfl
theorem zw_601 : (Jvm.Cond.instanceMethod ({ cls := "ConstructionLedger$SetupReader", name := "failAt", desc := "(II)V" } : Jvm.MethodName)) ∈ zG := zK_3 121 rfl rfl
theorem zw_602 : (Jvm.Cond.code ({ cls := "ConstructionLedger$SetupReader", name := "failAt", desc := "(II)V" } : Jvm.MethodName) prog_8_method_12_code (3 : Nat) (Option.none : Option Jvm.ClassFile.FieldType)) ∈ zG := zK_3 122 rfl rfl
theorem zw_603 : (Jvm.Cond.constant "ConstructionLedger$SetupReader" (82 : Nat) (9999999 : Int32)) ∈ zG := zK_3 123 rfl rfl
theorem zw_604 : (Jvm.Cond.methodLink "ConstructionLedger$SetupReader" (83 : Nat) ({ cls := "ConstructionLedger$SetupReader", name := "takeNumber", desc := "(II)I" } : Jvm.MethodName)) ∈ zG := zK_3 124 rfl rfl
theorem zw_606 : (Jvm.Cond.instanceMethod ({ cls := "ConstructionLedger$SetupReader", name := "takeNumber", desc := "(II)I" } : Jvm.MethodName)) ∈ zG := zK_3 126 rfl rfl
theorem zw_607 : (Jvm.Cond.code ({ cls := "ConstructionLedger$SetupReader", name := "takeNumber", desc := "(II)I" } : Jvm.MethodName) prog_8_method_15_code (4 : Nat) (Option.some Jvm.ClassFile.FieldType.int)) ∈ zG := zK_3 127 rfl rfl
theorem zw_608 : (Jvm.Cond.methodLink "ConstructionLedger$SetupReader" (73 : Nat) ({ cls := "ConstructionLedger$SetupReader", name := "take", desc := "(I)V" } : Jvm.MethodName)) ∈ zG := zK_3 128 rfl rfl
theorem zw_610 : (Jvm.Cond.instanceMethod ({ cls := "ConstructionLedger$SetupReader", name := "take", desc := "(I)V" } : Jvm.MethodName)) ∈ zG := zK_3 130 rfl rfl
theorem zw_611 : (Jvm.Cond.code ({ cls := "ConstructionLedger$SetupReader", name := "take", desc := "(I)V" } : Jvm.MethodName) prog_8_method_13_code (2 : Nat) (Option.none : Option Jvm.ClassFile.FieldType)) ∈ zG := zK_3 131 rfl rfl
theorem zw_613 : (Jvm.Cond.methodLink "ConstructionLedger$SetupReader" (96 : Nat) ({ cls := "ConstructionLedger$Contracts", name := "add", desc := "(IIIIIZ)V" } : Jvm.MethodName)) ∈ zG := zK_3 133 rfl rfl
theorem zw_614 : (Jvm.Cond.instanceMethod ({ cls := "ConstructionLedger$Contracts", name := "add", desc := "(IIIIIZ)V" } : Jvm.MethodName)) ∈ zG := zK_3 134 rfl rfl
theorem zw_615 : (Jvm.Cond.selects "ConstructionLedger$Contracts" ({ cls := "ConstructionLedger$Contracts", name := "add", desc := "(IIIIIZ)V" } : Jvm.MethodName) ({ cls := "ConstructionLedger$Contracts", name := "add", desc := "(IIIIIZ)V" } : Jvm.MethodName)) ∈ zG := zK_3 135 rfl rfl
theorem zw_616 : (Jvm.Cond.code ({ cls := "ConstructionLedger$Contracts", name := "add", desc := "(IIIIIZ)V" } : Jvm.MethodName) prog_3_method_2_code (7 : Nat) (Option.none : Option Jvm.ClassFile.FieldType)) ∈ zG := zK_3 136 rfl rfl
theorem zw_617 : (Jvm.Cond.methodLink "ConstructionLedger$SetupReader" (70 : Nat) ({ cls := "ConstructionLedger$SetupReader", name := "readStatement", desc := "()V" } : Jvm.MethodName)) ∈ zG := zK_3 137 rfl rfl
theorem zw_619 : (Jvm.Cond.instanceMethod ({ cls := "ConstructionLedger$SetupReader", name := "readStatement", desc := "()V" } : Jvm.MethodName)) ∈ zG := zK_3 139 rfl rfl
theorem zw_620 : (Jvm.Cond.code ({ cls := "ConstructionLedger$SetupReader", name := "readStatement", desc := "()V" } : Jvm.MethodName) prog_8_method_5_code (1 : Nat) (Option.none : Option Jvm.ClassFile.FieldType)) ∈ zG := zK_3 140 rfl rfl
theorem zw_622 : (Jvm.Cond.methodLink "ConstructionLedger$SetupReader" (108 : Nat) ({ cls := "ConstructionLedger$SetupReader", name := "readSub", desc := "()V" } : Jvm.MethodName)) ∈ zG := zK_3 142 rfl rfl
theorem zw_624 : (Jvm.Cond.instanceMethod ({ cls := "ConstructionLedger$SetupReader", name := "readSub", desc := "()V" } : Jvm.MethodName)) ∈ zG := zK_3 144 rfl rfl
theorem zw_625 : (Jvm.Cond.code ({ cls := "ConstructionLedger$SetupReader", name := "readSub", desc := "()V" } : Jvm.MethodName) prog_8_method_6_code (7 : Nat) (Option.none : Option Jvm.ClassFile.FieldType)) ∈ zG := zK_3 145 rfl rfl
theorem zw_628 : (Jvm.Cond.methodLink "ConstructionLedger$SetupReader" (113 : Nat) ({ cls := "ConstructionLedger$SetupReader", name := "readItem", desc := "()V" } : Jvm.MethodName)) ∈ zG := zK_3 148 rfl rfl
theorem zw_630 : (Jvm.Cond.instanceMethod ({ cls := "ConstructionLedger$SetupReader", name := "readItem", desc := "()V" } : Jvm.MethodName)) ∈ zG := zK_3 150 rfl rfl
theorem zw_631 : (Jvm.Cond.code ({ cls := "ConstructionLedger$SetupReader", name := "readItem", desc := "()V" } : Jvm.MethodName) prog_8_method_7_code (5 : Nat) (Option.none : Option Jvm.ClassFile.FieldType)) ∈ zG := zK_3 151 rfl rfl
theorem zw_632 : (Jvm.Cond.methodLink "ConstructionLedger$SetupReader" (149 : Nat) ({ cls := "ConstructionLedger$Items", name := "add", desc := "(III)V" } : Jvm.MethodName)) ∈ zG := zK_3 152 rfl rfl
theorem zw_633 : (Jvm.Cond.instanceMethod ({ cls := "ConstructionLedger$Items", name := "add", desc := "(III)V" } : Jvm.MethodName)) ∈ zG := zK_3 153 rfl rfl
theorem zw_634 : (Jvm.Cond.selects "ConstructionLedger$Items" ({ cls := "ConstructionLedger$Items", name := "add", desc := "(III)V" } : Jvm.MethodName) ({ cls := "ConstructionLedger$Items", name := "add", desc := "(III)V" } : Jvm.MethodName)) ∈ zG := zK_3 154 rfl rfl
theorem zw_635 : (Jvm.Cond.code ({ cls := "ConstructionLedger$Items", name := "add", desc := "(III)V" } : Jvm.MethodName) prog_4_method_4_code (5 : Nat) (Option.none : Option Jvm.ClassFile.FieldType)) ∈ zG := zK_3 155 rfl rfl
theorem zw_636 : (Jvm.Cond.methodLink "ConstructionLedger$Items" (27 : Nat) ({ cls := "ConstructionLedger$Items", name := "slotOf", desc := "(II)I" } : Jvm.MethodName)) ∈ zG := zK_3 156 rfl rfl
theorem zw_639 : (Jvm.Cond.methodLink "ConstructionLedger$SetupReader" (128 : Nat) ({ cls := "ConstructionLedger$SetupReader", name := "readSum", desc := "(I)V" } : Jvm.MethodName)) ∈ zG := zK_3 159 rfl rfl
theorem zw_641 : (Jvm.Cond.instanceMethod ({ cls := "ConstructionLedger$SetupReader", name := "readSum", desc := "(I)V" } : Jvm.MethodName)) ∈ zG := zK_3 161 rfl rfl
theorem zw_642 : (Jvm.Cond.code ({ cls := "ConstructionLedger$SetupReader", name := "readSum", desc := "(I)V" } : Jvm.MethodName) prog_8_method_8_code (4 : Nat) (Option.none : Option Jvm.ClassFile.FieldType)) ∈ zG := zK_3 162 rfl rfl
theorem zw_643 : (Jvm.Cond.methodLink "ConstructionLedger$SetupReader" (152 : Nat) ({ cls := "ConstructionLedger$SetupReader", name := "readTerm", desc := "(I)V" } : Jvm.MethodName)) ∈ zG := zK_3 163 rfl rfl
theorem zw_645 : (Jvm.Cond.instanceMethod ({ cls := "ConstructionLedger$SetupReader", name := "readTerm", desc := "(I)V" } : Jvm.MethodName)) ∈ zG := zK_3 165 rfl rfl
theorem zw_646 : (Jvm.Cond.code ({ cls := "ConstructionLedger$SetupReader", name := "readTerm", desc := "(I)V" } : Jvm.MethodName) prog_8_method_9_code (4 : Nat) (Option.none : Option Jvm.ClassFile.FieldType)) ∈ zG := zK_3 166 rfl rfl
theorem zw_647 : (Jvm.Cond.methodLink "ConstructionLedger$SetupReader" (157 : Nat) ({ cls := "ConstructionLedger$SetupReader", name := "readFactor", desc := "(I)V" } : Jvm.MethodName)) ∈ zG := zK_3 167 rfl rfl
theorem zw_649 : (Jvm.Cond.instanceMethod ({ cls := "ConstructionLedger$SetupReader", name := "readFactor", desc := "(I)V" } : Jvm.MethodName)) ∈ zG := zK_3 169 rfl rfl
theorem zw_650 : (Jvm.Cond.code ({ cls := "ConstructionLedger$SetupReader", name := "readFactor", desc := "(I)V" } : Jvm.MethodName) prog_8_method_10_code (2 : Nat) (Option.none : Option Jvm.ClassFile.FieldType)) ∈ zG := zK_3 170 rfl rfl
theorem zw_652 : (Jvm.Cond.methodLink "ConstructionLedger$SetupReader" (162 : Nat) ({ cls := "ConstructionLedger$SetupReader", name := "addOperand", desc := "(I)V" } : Jvm.MethodName)) ∈ zG := zK_3 172 rfl rfl
theorem zw_654 : (Jvm.Cond.instanceMethod ({ cls := "ConstructionLedger$SetupReader", name := "addOperand", desc := "(I)V" } : Jvm.MethodName)) ∈ zG := zK_3 174 rfl rfl
theorem zw_655 : (Jvm.Cond.code ({ cls := "ConstructionLedger$SetupReader", name := "addOperand", desc := "(I)V" } : Jvm.MethodName) prog_8_method_11_code (2 : Nat) (Option.none : Option Jvm.ClassFile.FieldType)) ∈ zG := zK_3 175 rfl rfl
theorem zw_656 : (Jvm.Cond.methodLink "ConstructionLedger$SetupReader" (155 : Nat) ({ cls := "ConstructionLedger$Pricing", name := "add", desc := "(I)V" } : Jvm.MethodName)) ∈ zG := zK_3 176 rfl rfl
theorem zw_657 : (Jvm.Cond.instanceMethod ({ cls := "ConstructionLedger$Pricing", name := "add", desc := "(I)V" } : Jvm.MethodName)) ∈ zG := zK_3 177 rfl rfl
theorem zw_658 : (Jvm.Cond.selects "ConstructionLedger$Pricing" ({ cls := "ConstructionLedger$Pricing", name := "add", desc := "(I)V" } : Jvm.MethodName) ({ cls := "ConstructionLedger$Pricing", name := "add", desc := "(I)V" } : Jvm.MethodName)) ∈ zG := zK_3 178 rfl rfl
theorem zw_659 : (Jvm.Cond.code ({ cls := "ConstructionLedger$Pricing", name := "add", desc := "(I)V" } : Jvm.MethodName) prog_6_method_2_code (2 : Nat) (Option.none : Option Jvm.ClassFile.FieldType)) ∈ zG := zK_3 179 rfl rfl
theorem zw_662 : (Jvm.Cond.methodLink "ConstructionLedger" (49 : Nat) ({ cls := "ConstructionLedger", name := "beginChange", desc := "()LConstructionLedger$Project;" } : Jvm.MethodName)) ∈ zG := zK_3 182 rfl rfl
theorem zw_664 : (Jvm.Cond.instanceMethod ({ cls := "ConstructionLedger", name := "beginChange", desc := "()LConstructionLedger$Project;" } : Jvm.MethodName)) ∈ zG := zK_3 184 rfl rfl
theorem zw_665 : (Jvm.Cond.code ({ cls := "ConstructionLedger", name := "beginChange", desc := "()LConstructionLedger$Project;" } : Jvm.MethodName) prog_1_method_51_code (2 : Nat) (Option.some (Jvm.ClassFile.FieldType.object "ConstructionLedger$Project"))) ∈ zG := zK_3 185 rfl rfl
theorem zw_666 : (Jvm.Cond.methodLink "ConstructionLedger" (289 : Nat) ({ cls := "java/lang/Math", name := "min", desc := "(II)I" } : Jvm.MethodName)) ∈ zG := zK_3 186 rfl rfl
theorem zw_667 : (Jvm.Cond.methodLink "ConstructionLedger" (56 : Nat) ({ cls := "ConstructionLedger$Project", name := "copyFrom", desc := "(LConstructionLedger$Project;)V" } : Jvm.MethodName)) ∈ zG := zK_3 187 rfl rfl
theorem zw_668 : (Jvm.Cond.instanceMethod ({ cls := "ConstructionLedger$Project", name := "copyFrom", desc := "(LConstructionLedger$Project;)V" } : Jvm.MethodName)) ∈ zG := zK_3 188 rfl rfl
theorem zw_669 : (Jvm.Cond.selects "ConstructionLedger$Project" ({ cls := "ConstructionLedger$Project", name := "copyFrom", desc := "(LConstructionLedger$Project;)V" } : Jvm.MethodName) ({ cls := "ConstructionLedger$Project", name := "copyFrom", desc := "(LConstructionLedger$Project;)V" } : Jvm.MethodName)) ∈ zG := zK_3 189 rfl rfl
theorem zw_670 : (Jvm.Cond.code ({ cls := "ConstructionLedger$Project", name := "copyFrom", desc := "(LConstructionLedger$Project;)V" } : Jvm.MethodName) prog_7_method_3_code (2 : Nat) (Option.none : Option Jvm.ClassFile.FieldType)) ∈ zG := zK_3 190 rfl rfl
theorem zw_671 : (Jvm.Cond.methodLink "ConstructionLedger$Project" (76 : Nat) ({ cls := "java/lang/System", name := "arraycopy", desc := "(Ljava/lang/Object;ILjava/lang/Object;II)V" } : Jvm.MethodName)) ∈ zG := zK_3 191 rfl rfl
theorem zw_672 : (Jvm.Cond.static ({ cls := "java/lang/System", name := "arraycopy", desc := "(Ljava/lang/Object;ILjava/lang/Object;II)V" } : Jvm.MethodName)) ∈ zG := zK_3 192 rfl rfl
theorem zw_673 : (Jvm.Cond.native ({ cls := "java/lang/System", name := "arraycopy", desc := "(Ljava/lang/Object;ILjava/lang/Object;II)V" } : Jvm.MethodName)) ∈ zG := zK_3 193 rfl rfl
theorem zw_674 : (Jvm.Cond.methodLink "ConstructionLedger$Project" (82 : Nat) ({ cls := "ConstructionLedger$Contracts", name := "copyFrom", desc := "(LConstructionLedger$Contracts;)V" } : Jvm.MethodName)) ∈ zG := zK_3 194 rfl rfl
theorem zw_675 : (Jvm.Cond.instanceMethod ({ cls := "ConstructionLedger$Contracts", name := "copyFrom", desc := "(LConstructionLedger$Contracts;)V" } : Jvm.MethodName)) ∈ zG := zK_3 195 rfl rfl
theorem zw_676 : (Jvm.Cond.selects "ConstructionLedger$Contracts" ({ cls := "ConstructionLedger$Contracts", name := "copyFrom", desc := "(LConstructionLedger$Contracts;)V" } : Jvm.MethodName) ({ cls := "ConstructionLedger$Contracts", name := "copyFrom", desc := "(LConstructionLedger$Contracts;)V" } : Jvm.MethodName)) ∈ zG := zK_3 196 rfl rfl
theorem zw_677 : (Jvm.Cond.code ({ cls := "ConstructionLedger$Contracts", name := "copyFrom", desc := "(LConstructionLedger$Contracts;)V" } : Jvm.MethodName) prog_3_method_3_code (3 : Nat) (Option.none : Option Jvm.ClassFile.FieldType)) ∈ zG := zK_3 197 rfl rfl
theorem zw_678 : (Jvm.Cond.methodLink "ConstructionLedger$Contracts" (38 : Nat) ({ cls := "java/lang/System", name := "arraycopy", desc := "(Ljava/lang/Object;ILjava/lang/Object;II)V" } : Jvm.MethodName)) ∈ zG := zK_3 198 rfl rfl
theorem zw_679 : (Jvm.Cond.methodLink "ConstructionLedger$Project" (86 : Nat) ({ cls := "ConstructionLedger$Items", name := "copyFrom", desc := "(LConstructionLedger$Items;)V" } : Jvm.MethodName)) ∈ zG := zK_3 199 rfl rfl
theorem zw_680 : (Jvm.Cond.instanceMethod ({ cls := "ConstructionLedger$Items", name := "copyFrom", desc := "(LConstructionLedger$Items;)V" } : Jvm.MethodName)) ∈ zG := zK_3 200 rfl rfl
theorem zw_681 : (Jvm.Cond.selects "ConstructionLedger$Items" ({ cls := "ConstructionLedger$Items", name := "copyFrom", desc := "(LConstructionLedger$Items;)V" } : Jvm.MethodName) ({ cls := "ConstructionLedger$Items", name := "copyFrom", desc := "(LConstructionLedger$Items;)V" } : Jvm.MethodName)) ∈ zG := zK_3 201 rfl rfl
theorem zw_682 : (Jvm.Cond.code ({ cls := "ConstructionLedger$Items", name := "copyFrom", desc := "(LConstructionLedger$Items;)V" } : Jvm.MethodName) prog_4_method_5_code (2 : Nat) (Option.none : Option Jvm.ClassFile.FieldType)) ∈ zG := zK_3 202 rfl rfl
theorem zw_683 : (Jvm.Cond.methodLink "ConstructionLedger$Items" (31 : Nat) ({ cls := "java/lang/System", name := "arraycopy", desc := "(Ljava/lang/Object;ILjava/lang/Object;II)V" } : Jvm.MethodName)) ∈ zG := zK_3 203 rfl rfl
theorem zw_684 : (Jvm.Cond.methodLink "ConstructionLedger$Project" (89 : Nat) ({ cls := "ConstructionLedger$Variations", name := "copyFrom", desc := "(LConstructionLedger$Variations;)V" } : Jvm.MethodName)) ∈ zG := zK_3 204 rfl rfl
theorem zw_685 : (Jvm.Cond.instanceMethod ({ cls := "ConstructionLedger$Variations", name := "copyFrom", desc := "(LConstructionLedger$Variations;)V" } : Jvm.MethodName)) ∈ zG := zK_3 205 rfl rfl
theorem zw_686 : (Jvm.Cond.selects "ConstructionLedger$Variations" ({ cls := "ConstructionLedger$Variations", name := "copyFrom", desc := "(LConstructionLedger$Variations;)V" } : Jvm.MethodName) ({ cls := "ConstructionLedger$Variations", name := "copyFrom", desc := "(LConstructionLedger$Variations;)V" } : Jvm.MethodName)) ∈ zG := zK_3 206 rfl rfl
theorem zw_687 : (Jvm.Cond.code ({ cls := "ConstructionLedger$Variations", name := "copyFrom", desc := "(LConstructionLedger$Variations;)V" } : Jvm.MethodName) prog_9_method_3_code (3 : Nat) (Option.none : Option Jvm.ClassFile.FieldType)) ∈ zG := zK_3 207 rfl rfl
theorem zw_688 : (Jvm.Cond.methodLink "ConstructionLedger$Variations" (26 : Nat) ({ cls := "java/lang/System", name := "arraycopy", desc := "(Ljava/lang/Object;ILjava/lang/Object;II)V" } : Jvm.MethodName)) ∈ zG := zK_3 208 rfl rfl
theorem zw_689 : (Jvm.Cond.methodLink "ConstructionLedger$Project" (92 : Nat) ({ cls := "ConstructionLedger$Certificates", name := "copyFrom", desc := "(LConstructionLedger$Certificates;)V" } : Jvm.MethodName)) ∈ zG := zK_3 209 rfl rfl
theorem zw_690 : (Jvm.Cond.instanceMethod ({ cls := "ConstructionLedger$Certificates", name := "copyFrom", desc := "(LConstructionLedger$Certificates;)V" } : Jvm.MethodName)) ∈ zG := zK_3 210 rfl rfl
theorem zw_691 : (Jvm.Cond.selects "ConstructionLedger$Certificates" ({ cls := "ConstructionLedger$Certificates", name := "copyFrom", desc := "(LConstructionLedger$Certificates;)V" } : Jvm.MethodName) ({ cls := "ConstructionLedger$Certificates", name := "copyFrom", desc := "(LConstructionLedger$Certificates;)V" } : Jvm.MethodName)) ∈ zG := zK_3 211 rfl rfl
theorem zw_692 : (Jvm.Cond.code ({ cls := "ConstructionLedger$Certificates", name := "copyFrom", desc := "(LConstructionLedger$Certificates;)V" } : Jvm.MethodName) prog_2_method_3_code (2 : Nat) (Option.none : Option Jvm.ClassFile.FieldType)) ∈ zG := zK_3 212 rfl rfl
theorem zw_693 : (Jvm.Cond.methodLink "ConstructionLedger$Certificates" (32 : Nat) ({ cls := "java/lang/System", name := "arraycopy", desc := "(Ljava/lang/Object;ILjava/lang/Object;II)V" } : Jvm.MethodName)) ∈ zG := zK_3 213 rfl rfl
theorem zw_694 : (Jvm.Cond.methodLink "ConstructionLedger$Project" (95 : Nat) ({ cls := "ConstructionLedger$Liens", name := "copyFrom", desc := "(LConstructionLedger$Liens;)V" } : Jvm.MethodName)) ∈ zG := zK_3 214 rfl rfl
theorem zw_695 : (Jvm.Cond.instanceMethod ({ cls := "ConstructionLedger$Liens", name := "copyFrom", desc := "(LConstructionLedger$Liens;)V" } : Jvm.MethodName)) ∈ zG := zK_3 215 rfl rfl
theorem zw_696 : (Jvm.Cond.selects "ConstructionLedger$Liens" ({ cls := "ConstructionLedger$Liens", name := "copyFrom", desc := "(LConstructionLedger$Liens;)V" } : Jvm.MethodName) ({ cls := "ConstructionLedger$Liens", name := "copyFrom", desc := "(LConstructionLedger$Liens;)V" } : Jvm.MethodName)) ∈ zG := zK_3 216 rfl rfl
theorem zw_697 : (Jvm.Cond.code ({ cls := "ConstructionLedger$Liens", name := "copyFrom", desc := "(LConstructionLedger$Liens;)V" } : Jvm.MethodName) prog_5_method_3_code (3 : Nat) (Option.none : Option Jvm.ClassFile.FieldType)) ∈ zG := zK_3 217 rfl rfl
theorem zw_698 : (Jvm.Cond.methodLink "ConstructionLedger$Liens" (30 : Nat) ({ cls := "java/lang/System", name := "arraycopy", desc := "(Ljava/lang/Object;ILjava/lang/Object;II)V" } : Jvm.MethodName)) ∈ zG := zK_3 218 rfl rfl
theorem zw_699 : (Jvm.Cond.methodLink "ConstructionLedgerLaw" (166 : Nat) ({ cls := "ConstructionLedgerLaw", name := "parent", desc := "(LConstructionLedger;I[J)I" } : Jvm.MethodName)) ∈ zG := zK_3 219 rfl rfl
theorem zw_700 : (Jvm.Cond.static ({ cls := "ConstructionLedgerLaw", name := "parent", desc := "(LConstructionLedger;I[J)I" } : Jvm.MethodName)) ∈ zG := zK_3 220 rfl rfl
theorem zw_701 : (Jvm.Cond.codeWith ({ cls := "ConstructionLedgerLaw", name := "parent", desc := "(LConstructionLedger;I[J)I" } : Jvm.MethodName) method_4_code (4 : Nat) (Option.some Jvm.ClassFile.FieldType.int) [((0 : Nat), (9 : Nat), (12 : Nat), (18 : Nat))]) ∈ zG := zK_3 221 rfl rfl
theorem zw_702 : (Jvm.Cond.classLink "ConstructionLedgerLaw" (18 : Nat) "java/lang/IndexOutOfBoundsException") ∈ zG := zK_3 222 rfl rfl
theorem zw_703 : (Jvm.Cond.methodLink "ConstructionLedgerLaw" (15 : Nat) ({ cls := "ConstructionLedger", name := "parent", desc := "(I)I" } : Jvm.MethodName)) ∈ zG := zK_3 223 rfl rfl
theorem zw_704 : (Jvm.Cond.instanceMethod ({ cls := "ConstructionLedger", name := "parent", desc := "(I)I" } : Jvm.MethodName)) ∈ zG := zK_3 224 rfl rfl
theorem zw_705 : (Jvm.Cond.selects "ConstructionLedger" ({ cls := "ConstructionLedger", name := "parent", desc := "(I)I" } : Jvm.MethodName) ({ cls := "ConstructionLedger", name := "parent", desc := "(I)I" } : Jvm.MethodName)) ∈ zG := zK_3 225 rfl rfl
theorem zw_706 : (Jvm.Cond.code ({ cls := "ConstructionLedger", name := "parent", desc := "(I)I" } : Jvm.MethodName) prog_1_method_7_code (2 : Nat) (Option.some Jvm.ClassFile.FieldType.int)) ∈ zG := zK_3 226 rfl rfl
theorem zw_707 : (Jvm.Cond.methodLink "ConstructionLedger" (78 : Nat) ({ cls := "ConstructionLedger", name := "checkContract", desc := "(I)V" } : Jvm.MethodName)) ∈ zG := zK_3 227 rfl rfl
theorem zw_709 : (Jvm.Cond.instanceMethod ({ cls := "ConstructionLedger", name := "checkContract", desc := "(I)V" } : Jvm.MethodName)) ∈ zG := zK_3 229 rfl rfl
theorem zw_710 : (Jvm.Cond.code ({ cls := "ConstructionLedger", name := "checkContract", desc := "(I)V" } : Jvm.MethodName) prog_1_method_52_code (2 : Nat) (Option.none : Option Jvm.ClassFile.FieldType)) ∈ zG := zK_3 230 rfl rfl
theorem zw_711 : (Jvm.Cond.methodLink "ConstructionLedger" (151 : Nat) ({ cls := "ConstructionLedger", name := "checkIndex", desc := "(II)V" } : Jvm.MethodName)) ∈ zG := zK_3 231 rfl rfl
theorem zw_712 : (Jvm.Cond.static ({ cls := "ConstructionLedger", name := "checkIndex", desc := "(II)V" } : Jvm.MethodName)) ∈ zG := zK_3 232 rfl rfl
theorem zw_713 : (Jvm.Cond.code ({ cls := "ConstructionLedger", name := "checkIndex", desc := "(II)V" } : Jvm.MethodName) prog_1_method_58_code (2 : Nat) (Option.none : Option Jvm.ClassFile.FieldType)) ∈ zG := zK_3 233 rfl rfl
theorem zw_714 : (Jvm.Cond.classLink "ConstructionLedger" (294 : Nat) "java/lang/IndexOutOfBoundsException") ∈ zG := zK_3 234 rfl rfl
theorem zw_715 : (Jvm.Cond.instantiable "java/lang/IndexOutOfBoundsException" (6 : Nat)) ∈ zG := zK_3 235 rfl rfl
theorem zw_717 : (Jvm.Cond.selects "java/lang/IndexOutOfBoundsException" ({ cls := "java/lang/Throwable", name := "fillInStackTrace", desc := "(I)Ljava/lang/Throwable;" } : Jvm.MethodName) ({ cls := "java/lang/Throwable", name := "fillInStackTrace", desc := "(I)Ljava/lang/Throwable;" } : Jvm.MethodName)) ∈ zG := zK_3 237 rfl rfl
theorem zw_718 : (Jvm.Cond.lays "java/lang/IndexOutOfBoundsException" "java/lang/Throwable" "cause" "Ljava/lang/Throwable;") ∈ zG := zK_3 238 rfl rfl
theorem zw_719 : (Jvm.Cond.lays "java/lang/IndexOutOfBoundsException" "java/lang/Throwable" "stackTrace" "[Ljava/lang/StackTraceElement;") ∈ zG := zK_3 239 rfl rfl
theorem zw_720 : (Jvm.Cond.lays "java/lang/IndexOutOfBoundsException" "java/lang/Throwable" "suppressedExceptions" "Ljava/util/List;") ∈ zG := zK_4 0 rfl rfl
theorem zw_721 : (Jvm.Cond.lays "java/lang/IndexOutOfBoundsException" "java/lang/Throwable" "detailMessage" "Ljava/lang/String;") ∈ zG := zK_4 1 rfl rfl
theorem zw_722 : (Jvm.Cond.lays "java/lang/IndexOutOfBoundsException" "java/lang/Throwable" "backtrace" "Ljava/lang/Object;") ∈ zG := zK_4 2 rfl rfl
theorem zw_724 : (Jvm.Cond.methodLink "ConstructionLedger" (298 : Nat) ({ cls := "java/lang/IndexOutOfBoundsException", name := "<init>", desc := "(Ljava/lang/String;)V" } : Jvm.MethodName)) ∈ zG := zK_4 4 rfl rfl
theorem zw_725 : (Jvm.Cond.instanceMethod ({ cls := "java/lang/IndexOutOfBoundsException", name := "<init>", desc := "(Ljava/lang/String;)V" } : Jvm.MethodName)) ∈ zG := zK_4 5 rfl rfl
theorem zw_726 : (Jvm.Cond.code ({ cls := "java/lang/IndexOutOfBoundsException", name := "<init>", desc := "(Ljava/lang/String;)V" } : Jvm.MethodName) prog_15_method_2_code (2 : Nat) (Option.none : Option Jvm.ClassFile.FieldType)) ∈ zG := zK_4 6 rfl rfl
theorem zw_727 : (Jvm.Cond.methodLink "java/lang/IndexOutOfBoundsException" (7 : Nat) ({ cls := "java/lang/RuntimeException", name := "<init>", desc := "(Ljava/lang/String;)V" } : Jvm.MethodName)) ∈ zG := zK_4 7 rfl rfl
theorem zw_728 : (Jvm.Cond.lays "java/lang/IndexOutOfBoundsException" "java/lang/Throwable" "depth" "I") ∈ zG := zK_4 8 rfl rfl
theorem zw_730 : (Jvm.Cond.methodLink "ConstructionLedgerLaw" (169 : Nat) ({ cls := "ConstructionLedgerLaw", name := "itemCount", desc := "(LConstructionLedger;I[J)I" } : Jvm.MethodName)) ∈ zG := zK_4 10 rfl rfl
theorem zw_731 : (Jvm.Cond.static ({ cls := "ConstructionLedgerLaw", name := "itemCount", desc := "(LConstructionLedger;I[J)I" } : Jvm.MethodName)) ∈ zG := zK_4 11 rfl rfl
theorem zw_732 : (Jvm.Cond.codeWith ({ cls := "ConstructionLedgerLaw", name := "itemCount", desc := "(LConstructionLedger;I[J)I" } : Jvm.MethodName) method_5_code (4 : Nat) (Option.some Jvm.ClassFile.FieldType.int) [((0 : Nat), (9 : Nat), (12 : Nat), (18 : Nat))]) ∈ zG := zK_4 12 rfl rfl
theorem zw_733 : (Jvm.Cond.methodLink "ConstructionLedgerLaw" (20 : Nat) ({ cls := "ConstructionLedger", name := "itemCount", desc := "(I)I" } : Jvm.MethodName)) ∈ zG := zK_4 13 rfl rfl
theorem zw_734 : (Jvm.Cond.instanceMethod ({ cls := "ConstructionLedger", name := "itemCount", desc := "(I)I" } : Jvm.MethodName)) ∈ zG := zK_4 14 rfl rfl
theorem zw_735 : (Jvm.Cond.selects "ConstructionLedger" ({ cls := "ConstructionLedger", name := "itemCount", desc := "(I)I" } : Jvm.MethodName) ({ cls := "ConstructionLedger", name := "itemCount", desc := "(I)I" } : Jvm.MethodName)) ∈ zG := zK_4 15 rfl rfl
theorem zw_736 : (Jvm.Cond.code ({ cls := "ConstructionLedger", name := "itemCount", desc := "(I)I" } : Jvm.MethodName) prog_1_method_8_code (2 : Nat) (Option.some Jvm.ClassFile.FieldType.int)) ∈ zG := zK_4 16 rfl rfl
theorem zw_737 : (Jvm.Cond.methodLink "ConstructionLedgerLaw" (172 : Nat) ({ cls := "ConstructionLedgerLaw", name := "quantity", desc := "(LConstructionLedger;II[J)I" } : Jvm.MethodName)) ∈ zG := zK_4 17 rfl rfl
theorem zw_738 : (Jvm.Cond.static ({ cls := "ConstructionLedgerLaw", name := "quantity", desc := "(LConstructionLedger;II[J)I" } : Jvm.MethodName)) ∈ zG := zK_4 18 rfl rfl
theorem zw_739 : (Jvm.Cond.codeWith ({ cls := "ConstructionLedgerLaw", name := "quantity", desc := "(LConstructionLedger;II[J)I" } : Jvm.MethodName) method_6_code (5 : Nat) (Option.some Jvm.ClassFile.FieldType.int) [((0 : Nat), (10 : Nat), (13 : Nat), (18 : Nat))]) ∈ zG := zK_4 19 rfl rfl
theorem zw_740 : (Jvm.Cond.methodLink "ConstructionLedgerLaw" (23 : Nat) ({ cls := "ConstructionLedger", name := "quantity", desc := "(II)I" } : Jvm.MethodName)) ∈ zG := zK_4 20 rfl rfl
theorem zw_741 : (Jvm.Cond.instanceMethod ({ cls := "ConstructionLedger", name := "quantity", desc := "(II)I" } : Jvm.MethodName)) ∈ zG := zK_4 21 rfl rfl
theorem zw_742 : (Jvm.Cond.selects "ConstructionLedger" ({ cls := "ConstructionLedger", name := "quantity", desc := "(II)I" } : Jvm.MethodName) ({ cls := "ConstructionLedger", name := "quantity", desc := "(II)I" } : Jvm.MethodName)) ∈ zG := zK_4 22 rfl rfl
theorem zw_743 : (Jvm.Cond.code ({ cls := "ConstructionLedger", name := "quantity", desc := "(II)I" } : Jvm.MethodName) prog_1_method_9_code (3 : Nat) (Option.some Jvm.ClassFile.FieldType.int)) ∈ zG := zK_4 23 rfl rfl
theorem zw_744 : (Jvm.Cond.methodLink "ConstructionLedger" (93 : Nat) ({ cls := "ConstructionLedger", name := "checkItem", desc := "(II)V" } : Jvm.MethodName)) ∈ zG := zK_4 24 rfl rfl
theorem zw_746 : (Jvm.Cond.instanceMethod ({ cls := "ConstructionLedger", name := "checkItem", desc := "(II)V" } : Jvm.MethodName)) ∈ zG := zK_4 26 rfl rfl
theorem zw_747 : (Jvm.Cond.code ({ cls := "ConstructionLedger", name := "checkItem", desc := "(II)V" } : Jvm.MethodName) prog_1_method_53_code (3 : Nat) (Option.none : Option Jvm.ClassFile.FieldType)) ∈ zG := zK_4 27 rfl rfl
theorem zw_748 : (Jvm.Cond.methodLink "ConstructionLedger" (100 : Nat) ({ cls := "ConstructionLedger$Items", name := "slotOf", desc := "(II)I" } : Jvm.MethodName)) ∈ zG := zK_4 28 rfl rfl
theorem zw_749 : (Jvm.Cond.methodLink "ConstructionLedgerLaw" (176 : Nat) ({ cls := "ConstructionLedgerLaw", name := "specialRate", desc := "(LConstructionLedger;II[J)I" } : Jvm.MethodName)) ∈ zG := zK_4 29 rfl rfl
theorem zw_750 : (Jvm.Cond.static ({ cls := "ConstructionLedgerLaw", name := "specialRate", desc := "(LConstructionLedger;II[J)I" } : Jvm.MethodName)) ∈ zG := zK_4 30 rfl rfl
theorem zw_751 : (Jvm.Cond.codeWith ({ cls := "ConstructionLedgerLaw", name := "specialRate", desc := "(LConstructionLedger;II[J)I" } : Jvm.MethodName) method_7_code (5 : Nat) (Option.some Jvm.ClassFile.FieldType.int) [((0 : Nat), (10 : Nat), (13 : Nat), (18 : Nat))]) ∈ zG := zK_4 31 rfl rfl
theorem zw_752 : (Jvm.Cond.methodLink "ConstructionLedgerLaw" (27 : Nat) ({ cls := "ConstructionLedger", name := "specialRate", desc := "(II)I" } : Jvm.MethodName)) ∈ zG := zK_4 32 rfl rfl
theorem zw_753 : (Jvm.Cond.instanceMethod ({ cls := "ConstructionLedger", name := "specialRate", desc := "(II)I" } : Jvm.MethodName)) ∈ zG := zK_4 33 rfl rfl
theorem zw_754 : (Jvm.Cond.selects "ConstructionLedger" ({ cls := "ConstructionLedger", name := "specialRate", desc := "(II)I" } : Jvm.MethodName) ({ cls := "ConstructionLedger", name := "specialRate", desc := "(II)I" } : Jvm.MethodName)) ∈ zG := zK_4 34 rfl rfl
theorem zw_755 : (Jvm.Cond.code ({ cls := "ConstructionLedger", name := "specialRate", desc := "(II)I" } : Jvm.MethodName) prog_1_method_10_code (4 : Nat) (Option.some Jvm.ClassFile.FieldType.int)) ∈ zG := zK_4 35 rfl rfl
theorem zw_756 : (Jvm.Cond.methodLink "ConstructionLedger" (108 : Nat) ({ cls := "ConstructionLedger$Items", name := "specialRateOf", desc := "(ILConstructionLedger$Pricing;)I" } : Jvm.MethodName)) ∈ zG := zK_4 36 rfl rfl
theorem zw_757 : (Jvm.Cond.instanceMethod ({ cls := "ConstructionLedger$Items", name := "specialRateOf", desc := "(ILConstructionLedger$Pricing;)I" } : Jvm.MethodName)) ∈ zG := zK_4 37 rfl rfl
theorem zw_758 : (Jvm.Cond.selects "ConstructionLedger$Items" ({ cls := "ConstructionLedger$Items", name := "specialRateOf", desc := "(ILConstructionLedger$Pricing;)I" } : Jvm.MethodName) ({ cls := "ConstructionLedger$Items", name := "specialRateOf", desc := "(ILConstructionLedger$Pricing;)I" } : Jvm.MethodName)) ∈ zG := zK_4 38 rfl rfl
theorem zw_759 : (Jvm.Cond.code ({ cls := "ConstructionLedger$Items", name := "specialRateOf", desc := "(ILConstructionLedger$Pricing;)I" } : Jvm.MethodName) prog_4_method_6_code (4 : Nat) (Option.some Jvm.ClassFile.FieldType.int)) ∈ zG := zK_4 39 rfl rfl
theorem zw_760 : (Jvm.Cond.methodLink "ConstructionLedger$Items" (37 : Nat) ({ cls := "ConstructionLedger$Pricing", name := "excessOf", desc := "(II)I" } : Jvm.MethodName)) ∈ zG := zK_4 40 rfl rfl
theorem zw_761 : (Jvm.Cond.instanceMethod ({ cls := "ConstructionLedger$Pricing", name := "excessOf", desc := "(II)I" } : Jvm.MethodName)) ∈ zG := zK_4 41 rfl rfl
theorem zw_762 : (Jvm.Cond.selects "ConstructionLedger$Pricing" ({ cls := "ConstructionLedger$Pricing", name := "excessOf", desc := "(II)I" } : Jvm.MethodName) ({ cls := "ConstructionLedger$Pricing", name := "excessOf", desc := "(II)I" } : Jvm.MethodName)) ∈ zG := zK_4 42 rfl rfl
theorem zw_763 : (Jvm.Cond.code ({ cls := "ConstructionLedger$Pricing", name := "excessOf", desc := "(II)I" } : Jvm.MethodName) prog_6_method_4_code (3 : Nat) (Option.some Jvm.ClassFile.FieldType.int)) ∈ zG := zK_4 43 rfl rfl
theorem zw_764 : (Jvm.Cond.methodLink "ConstructionLedger$Items" (42 : Nat) ({ cls := "ConstructionLedger$Pricing", name := "rate", desc := "(III)I" } : Jvm.MethodName)) ∈ zG := zK_4 44 rfl rfl
theorem zw_765 : (Jvm.Cond.methodLink "ConstructionLedgerLaw" (179 : Nat) ({ cls := "ConstructionLedgerLaw", name := "itemValue", desc := "(LConstructionLedger;II[J)I" } : Jvm.MethodName)) ∈ zG := zK_4 45 rfl rfl
theorem zw_766 : (Jvm.Cond.static ({ cls := "ConstructionLedgerLaw", name := "itemValue", desc := "(LConstructionLedger;II[J)I" } : Jvm.MethodName)) ∈ zG := zK_4 46 rfl rfl
theorem zw_767 : (Jvm.Cond.codeWith ({ cls := "ConstructionLedgerLaw", name := "itemValue", desc := "(LConstructionLedger;II[J)I" } : Jvm.MethodName) method_8_code (5 : Nat) (Option.some Jvm.ClassFile.FieldType.int) [((0 : Nat), (9 : Nat), (12 : Nat), (18 : Nat))]) ∈ zG := zK_4 47 rfl rfl
theorem zw_768 : (Jvm.Cond.methodLink "ConstructionLedgerLaw" (30 : Nat) ({ cls := "ConstructionLedger", name := "itemValue", desc := "(II)J" } : Jvm.MethodName)) ∈ zG := zK_4 48 rfl rfl
theorem zw_769 : (Jvm.Cond.instanceMethod ({ cls := "ConstructionLedger", name := "itemValue", desc := "(II)J" } : Jvm.MethodName)) ∈ zG := zK_4 49 rfl rfl
theorem zw_770 : (Jvm.Cond.selects "ConstructionLedger" ({ cls := "ConstructionLedger", name := "itemValue", desc := "(II)J" } : Jvm.MethodName) ({ cls := "ConstructionLedger", name := "itemValue", desc := "(II)J" } : Jvm.MethodName)) ∈ zG := zK_4 50 rfl rfl
theorem zw_771 : (Jvm.Cond.code ({ cls := "ConstructionLedger", name := "itemValue", desc := "(II)J" } : Jvm.MethodName) prog_1_method_11_code (4 : Nat) (Option.some Jvm.ClassFile.FieldType.long)) ∈ zG := zK_4 51 rfl rfl
theorem zw_772 : (Jvm.Cond.methodLink "ConstructionLedger" (112 : Nat) ({ cls := "ConstructionLedger$Items", name := "valueOf", desc := "(ILConstructionLedger$Pricing;)J" } : Jvm.MethodName)) ∈ zG := zK_4 52 rfl rfl
theorem zw_773 : (Jvm.Cond.methodLink "ConstructionLedgerLaw" (182 : Nat) ({ cls := "ConstructionLedgerLaw", name := "firstSum", desc := "(LConstructionLedger;I[J)I" } : Jvm.MethodName)) ∈ zG := zK_4 53 rfl rfl
theorem zw_774 : (Jvm.Cond.static ({ cls := "ConstructionLedgerLaw", name := "firstSum", desc := "(LConstructionLedger;I[J)I" } : Jvm.MethodName)) ∈ zG := zK_4 54 rfl rfl
theorem zw_775 : (Jvm.Cond.codeWith ({ cls := "ConstructionLedgerLaw", name := "firstSum", desc := "(LConstructionLedger;I[J)I" } : Jvm.MethodName) method_9_code (4 : Nat) (Option.some Jvm.ClassFile.FieldType.int) [((0 : Nat), (8 : Nat), (11 : Nat), (18 : Nat))]) ∈ zG := zK_4 55 rfl rfl
theorem zw_776 : (Jvm.Cond.methodLink "ConstructionLedgerLaw" (34 : Nat) ({ cls := "ConstructionLedger", name := "firstSum", desc := "(I)J" } : Jvm.MethodName)) ∈ zG := zK_4 56 rfl rfl
theorem zw_777 : (Jvm.Cond.instanceMethod ({ cls := "ConstructionLedger", name := "firstSum", desc := "(I)J" } : Jvm.MethodName)) ∈ zG := zK_4 57 rfl rfl
theorem zw_778 : (Jvm.Cond.selects "ConstructionLedger" ({ cls := "ConstructionLedger", name := "firstSum", desc := "(I)J" } : Jvm.MethodName) ({ cls := "ConstructionLedger", name := "firstSum", desc := "(I)J" } : Jvm.MethodName)) ∈ zG := zK_4 58 rfl rfl
theorem zw_779 : (Jvm.Cond.code ({ cls := "ConstructionLedger", name := "firstSum", desc := "(I)J" } : Jvm.MethodName) prog_1_method_12_code (2 : Nat) (Option.some Jvm.ClassFile.FieldType.long)) ∈ zG := zK_4 59 rfl rfl
theorem zw_780 : (Jvm.Cond.methodLink "ConstructionLedger" (116 : Nat) ({ cls := "ConstructionLedger$Items", name := "firstSumOf", desc := "(I)J" } : Jvm.MethodName)) ∈ zG := zK_4 60 rfl rfl
theorem zw_781 : (Jvm.Cond.instanceMethod ({ cls := "ConstructionLedger$Items", name := "firstSumOf", desc := "(I)J" } : Jvm.MethodName)) ∈ zG := zK_4 61 rfl rfl
theorem zw_782 : (Jvm.Cond.selects "ConstructionLedger$Items" ({ cls := "ConstructionLedger$Items", name := "firstSumOf", desc := "(I)J" } : Jvm.MethodName) ({ cls := "ConstructionLedger$Items", name := "firstSumOf", desc := "(I)J" } : Jvm.MethodName)) ∈ zG := zK_4 62 rfl rfl
theorem zw_783 : (Jvm.Cond.code ({ cls := "ConstructionLedger$Items", name := "firstSumOf", desc := "(I)J" } : Jvm.MethodName) prog_4_method_9_code (6 : Nat) (Option.some Jvm.ClassFile.FieldType.long)) ∈ zG := zK_4 63 rfl rfl
theorem zw_784 : (Jvm.Cond.methodLink "ConstructionLedgerLaw" (185 : Nat) ({ cls := "ConstructionLedgerLaw", name := "presentSum", desc := "(LConstructionLedger;I[J)I" } : Jvm.MethodName)) ∈ zG := zK_4 64 rfl rfl
theorem zw_785 : (Jvm.Cond.static ({ cls := "ConstructionLedgerLaw", name := "presentSum", desc := "(LConstructionLedger;I[J)I" } : Jvm.MethodName)) ∈ zG := zK_4 65 rfl rfl
theorem zw_786 : (Jvm.Cond.codeWith ({ cls := "ConstructionLedgerLaw", name := "presentSum", desc := "(LConstructionLedger;I[J)I" } : Jvm.MethodName) method_10_code (4 : Nat) (Option.some Jvm.ClassFile.FieldType.int) [((0 : Nat), (8 : Nat), (11 : Nat), (18 : Nat))]) ∈ zG := zK_4 66 rfl rfl
theorem zw_787 : (Jvm.Cond.methodLink "ConstructionLedgerLaw" (38 : Nat) ({ cls := "ConstructionLedger", name := "presentSum", desc := "(I)J" } : Jvm.MethodName)) ∈ zG := zK_4 67 rfl rfl
theorem zw_788 : (Jvm.Cond.instanceMethod ({ cls := "ConstructionLedger", name := "presentSum", desc := "(I)J" } : Jvm.MethodName)) ∈ zG := zK_4 68 rfl rfl
theorem zw_789 : (Jvm.Cond.selects "ConstructionLedger" ({ cls := "ConstructionLedger", name := "presentSum", desc := "(I)J" } : Jvm.MethodName) ({ cls := "ConstructionLedger", name := "presentSum", desc := "(I)J" } : Jvm.MethodName)) ∈ zG := zK_4 69 rfl rfl
theorem zw_790 : (Jvm.Cond.code ({ cls := "ConstructionLedger", name := "presentSum", desc := "(I)J" } : Jvm.MethodName) prog_1_method_13_code (2 : Nat) (Option.some Jvm.ClassFile.FieldType.long)) ∈ zG := zK_4 70 rfl rfl
theorem zw_791 : (Jvm.Cond.methodLink "ConstructionLedger" (120 : Nat) ({ cls := "ConstructionLedger$Project", name := "presentSumOf", desc := "(I)J" } : Jvm.MethodName)) ∈ zG := zK_4 71 rfl rfl
theorem zw_792 : (Jvm.Cond.instanceMethod ({ cls := "ConstructionLedger$Project", name := "presentSumOf", desc := "(I)J" } : Jvm.MethodName)) ∈ zG := zK_4 72 rfl rfl
theorem zw_793 : (Jvm.Cond.selects "ConstructionLedger$Project" ({ cls := "ConstructionLedger$Project", name := "presentSumOf", desc := "(I)J" } : Jvm.MethodName) ({ cls := "ConstructionLedger$Project", name := "presentSumOf", desc := "(I)J" } : Jvm.MethodName)) ∈ zG := zK_4 73 rfl rfl
theorem zw_794 : (Jvm.Cond.code ({ cls := "ConstructionLedger$Project", name := "presentSumOf", desc := "(I)J" } : Jvm.MethodName) prog_7_method_4_code (6 : Nat) (Option.some Jvm.ClassFile.FieldType.long)) ∈ zG := zK_4 74 rfl rfl
theorem zw_795 : (Jvm.Cond.methodLink "ConstructionLedger$Project" (107 : Nat) ({ cls := "ConstructionLedger$Items", name := "fullValueOf", desc := "(IILConstructionLedger$Pricing;)J" } : Jvm.MethodName)) ∈ zG := zK_4 75 rfl rfl
theorem zw_796 : (Jvm.Cond.instanceMethod ({ cls := "ConstructionLedger$Items", name := "fullValueOf", desc := "(IILConstructionLedger$Pricing;)J" } : Jvm.MethodName)) ∈ zG := zK_4 76 rfl rfl
theorem zw_797 : (Jvm.Cond.selects "ConstructionLedger$Items" ({ cls := "ConstructionLedger$Items", name := "fullValueOf", desc := "(IILConstructionLedger$Pricing;)J" } : Jvm.MethodName) ({ cls := "ConstructionLedger$Items", name := "fullValueOf", desc := "(IILConstructionLedger$Pricing;)J" } : Jvm.MethodName)) ∈ zG := zK_4 77 rfl rfl
theorem zw_798 : (Jvm.Cond.code ({ cls := "ConstructionLedger$Items", name := "fullValueOf", desc := "(IILConstructionLedger$Pricing;)J" } : Jvm.MethodName) prog_4_method_7_code (4 : Nat) (Option.some Jvm.ClassFile.FieldType.long)) ∈ zG := zK_4 78 rfl rfl
theorem zw_799 : (Jvm.Cond.methodLink "ConstructionLedgerLaw" (188 : Nat) ({ cls := "ConstructionLedgerLaw", name := "grossValue", desc := "(LConstructionLedger;I[J)I" } : Jvm.MethodName)) ∈ zG := zK_4 79 rfl rfl
theorem zw_800 : (Jvm.Cond.static ({ cls := "ConstructionLedgerLaw", name := "grossValue", desc := "(LConstructionLedger;I[J)I" } : Jvm.MethodName)) ∈ zG := zK_4 80 rfl rfl
theorem zw_801 : (Jvm.Cond.codeWith ({ cls := "ConstructionLedgerLaw", name := "grossValue", desc := "(LConstructionLedger;I[J)I" } : Jvm.MethodName) method_11_code (4 : Nat) (Option.some Jvm.ClassFile.FieldType.int) [((0 : Nat), (8 : Nat), (11 : Nat), (18 : Nat))]) ∈ zG := zK_4 81 rfl rfl
theorem zw_802 : (Jvm.Cond.methodLink "ConstructionLedgerLaw" (41 : Nat) ({ cls := "ConstructionLedger", name := "grossValue", desc := "(I)J" } : Jvm.MethodName)) ∈ zG := zK_4 82 rfl rfl
theorem zw_803 : (Jvm.Cond.instanceMethod ({ cls := "ConstructionLedger", name := "grossValue", desc := "(I)J" } : Jvm.MethodName)) ∈ zG := zK_4 83 rfl rfl
theorem zw_804 : (Jvm.Cond.selects "ConstructionLedger" ({ cls := "ConstructionLedger", name := "grossValue", desc := "(I)J" } : Jvm.MethodName) ({ cls := "ConstructionLedger", name := "grossValue", desc := "(I)J" } : Jvm.MethodName)) ∈ zG := zK_4 84 rfl rfl
theorem zw_805 : (Jvm.Cond.code ({ cls := "ConstructionLedger", name := "grossValue", desc := "(I)J" } : Jvm.MethodName) prog_1_method_14_code (2 : Nat) (Option.some Jvm.ClassFile.FieldType.long)) ∈ zG := zK_4 85 rfl rfl
theorem zw_806 : (Jvm.Cond.methodLink "ConstructionLedger" (123 : Nat) ({ cls := "ConstructionLedger$Project", name := "grossOf", desc := "(I)J" } : Jvm.MethodName)) ∈ zG := zK_4 86 rfl rfl
theorem zw_807 : (Jvm.Cond.methodLink "ConstructionLedgerLaw" (191 : Nat) ({ cls := "ConstructionLedgerLaw", name := "retention", desc := "(LConstructionLedger;I[J)I" } : Jvm.MethodName)) ∈ zG := zK_4 87 rfl rfl
theorem zw_808 : (Jvm.Cond.static ({ cls := "ConstructionLedgerLaw", name := "retention", desc := "(LConstructionLedger;I[J)I" } : Jvm.MethodName)) ∈ zG := zK_4 88 rfl rfl
theorem zw_809 : (Jvm.Cond.codeWith ({ cls := "ConstructionLedgerLaw", name := "retention", desc := "(LConstructionLedger;I[J)I" } : Jvm.MethodName) method_12_code (4 : Nat) (Option.some Jvm.ClassFile.FieldType.int) [((0 : Nat), (8 : Nat), (11 : Nat), (18 : Nat))]) ∈ zG := zK_4 89 rfl rfl
theorem zw_810 : (Jvm.Cond.methodLink "ConstructionLedgerLaw" (44 : Nat) ({ cls := "ConstructionLedger", name := "retention", desc := "(I)J" } : Jvm.MethodName)) ∈ zG := zK_4 90 rfl rfl
theorem zw_811 : (Jvm.Cond.instanceMethod ({ cls := "ConstructionLedger", name := "retention", desc := "(I)J" } : Jvm.MethodName)) ∈ zG := zK_4 91 rfl rfl
theorem zw_812 : (Jvm.Cond.selects "ConstructionLedger" ({ cls := "ConstructionLedger", name := "retention", desc := "(I)J" } : Jvm.MethodName) ({ cls := "ConstructionLedger", name := "retention", desc := "(I)J" } : Jvm.MethodName)) ∈ zG := zK_4 92 rfl rfl
theorem zw_813 : (Jvm.Cond.code ({ cls := "ConstructionLedger", name := "retention", desc := "(I)J" } : Jvm.MethodName) prog_1_method_15_code (2 : Nat) (Option.some Jvm.ClassFile.FieldType.long)) ∈ zG := zK_4 93 rfl rfl
theorem zw_814 : (Jvm.Cond.methodLink "ConstructionLedger" (126 : Nat) ({ cls := "ConstructionLedger$Project", name := "retentionOf", desc := "(IJ)J" } : Jvm.MethodName)) ∈ zG := zK_4 94 rfl rfl
theorem zw_815 : (Jvm.Cond.instanceMethod ({ cls := "ConstructionLedger$Project", name := "retentionOf", desc := "(IJ)J" } : Jvm.MethodName)) ∈ zG := zK_4 95 rfl rfl
theorem zw_816 : (Jvm.Cond.selects "ConstructionLedger$Project" ({ cls := "ConstructionLedger$Project", name := "retentionOf", desc := "(IJ)J" } : Jvm.MethodName) ({ cls := "ConstructionLedger$Project", name := "retentionOf", desc := "(IJ)J" } : Jvm.MethodName)) ∈ zG := zK_4 96 rfl rfl
theorem zw_817 : (Jvm.Cond.code ({ cls := "ConstructionLedger$Project", name := "retentionOf", desc := "(IJ)J" } : Jvm.MethodName) prog_7_method_6_code (10 : Nat) (Option.some Jvm.ClassFile.FieldType.long)) ∈ zG := zK_4 97 rfl rfl
theorem zw_818 : (Jvm.Cond.constantLong "ConstructionLedger$Project" (118 : Nat) (100 : Int64)) ∈ zG := zK_4 98 rfl rfl
theorem zw_819 : (Jvm.Cond.methodLink "ConstructionLedger$Project" (120 : Nat) ({ cls := "ConstructionLedger$Items", name := "firstSumOf", desc := "(I)J" } : Jvm.MethodName)) ∈ zG := zK_4 99 rfl rfl
theorem zw_820 : (Jvm.Cond.constantLong "ConstructionLedger$Project" (136 : Nat) (2 : Int64)) ∈ zG := zK_4 100 rfl rfl
theorem zw_821 : (Jvm.Cond.methodLink "ConstructionLedgerLaw" (194 : Nat) ({ cls := "ConstructionLedgerLaw", name := "certified", desc := "(LConstructionLedger;I[J)I" } : Jvm.MethodName)) ∈ zG := zK_4 101 rfl rfl
theorem zw_822 : (Jvm.Cond.static ({ cls := "ConstructionLedgerLaw", name := "certified", desc := "(LConstructionLedger;I[J)I" } : Jvm.MethodName)) ∈ zG := zK_4 102 rfl rfl
theorem zw_823 : (Jvm.Cond.codeWith ({ cls := "ConstructionLedgerLaw", name := "certified", desc := "(LConstructionLedger;I[J)I" } : Jvm.MethodName) method_13_code (4 : Nat) (Option.some Jvm.ClassFile.FieldType.int) [((0 : Nat), (8 : Nat), (11 : Nat), (18 : Nat))]) ∈ zG := zK_4 103 rfl rfl
theorem zw_824 : (Jvm.Cond.methodLink "ConstructionLedgerLaw" (47 : Nat) ({ cls := "ConstructionLedger", name := "certified", desc := "(I)J" } : Jvm.MethodName)) ∈ zG := zK_4 104 rfl rfl
theorem zw_825 : (Jvm.Cond.instanceMethod ({ cls := "ConstructionLedger", name := "certified", desc := "(I)J" } : Jvm.MethodName)) ∈ zG := zK_4 105 rfl rfl
theorem zw_826 : (Jvm.Cond.selects "ConstructionLedger" ({ cls := "ConstructionLedger", name := "certified", desc := "(I)J" } : Jvm.MethodName) ({ cls := "ConstructionLedger", name := "certified", desc := "(I)J" } : Jvm.MethodName)) ∈ zG := zK_4 106 rfl rfl
theorem zw_827 : (Jvm.Cond.code ({ cls := "ConstructionLedger", name := "certified", desc := "(I)J" } : Jvm.MethodName) prog_1_method_16_code (2 : Nat) (Option.some Jvm.ClassFile.FieldType.long)) ∈ zG := zK_4 107 rfl rfl
theorem zw_828 : (Jvm.Cond.methodLink "ConstructionLedger" (134 : Nat) ({ cls := "ConstructionLedger$Certificates", name := "certifiedOf", desc := "(I)J" } : Jvm.MethodName)) ∈ zG := zK_4 108 rfl rfl
theorem zw_829 : (Jvm.Cond.methodLink "ConstructionLedgerLaw" (197 : Nat) ({ cls := "ConstructionLedgerLaw", name := "unpaid", desc := "(LConstructionLedger;I[J)I" } : Jvm.MethodName)) ∈ zG := zK_4 109 rfl rfl
theorem zw_830 : (Jvm.Cond.static ({ cls := "ConstructionLedgerLaw", name := "unpaid", desc := "(LConstructionLedger;I[J)I" } : Jvm.MethodName)) ∈ zG := zK_4 110 rfl rfl
theorem zw_831 : (Jvm.Cond.codeWith ({ cls := "ConstructionLedgerLaw", name := "unpaid", desc := "(LConstructionLedger;I[J)I" } : Jvm.MethodName) method_14_code (4 : Nat) (Option.some Jvm.ClassFile.FieldType.int) [((0 : Nat), (8 : Nat), (11 : Nat), (18 : Nat))]) ∈ zG := zK_4 111 rfl rfl
theorem zw_832 : (Jvm.Cond.methodLink "ConstructionLedgerLaw" (50 : Nat) ({ cls := "ConstructionLedger", name := "unpaid", desc := "(I)J" } : Jvm.MethodName)) ∈ zG := zK_4 112 rfl rfl
theorem zw_833 : (Jvm.Cond.instanceMethod ({ cls := "ConstructionLedger", name := "unpaid", desc := "(I)J" } : Jvm.MethodName)) ∈ zG := zK_4 113 rfl rfl
theorem zw_834 : (Jvm.Cond.selects "ConstructionLedger" ({ cls := "ConstructionLedger", name := "unpaid", desc := "(I)J" } : Jvm.MethodName) ({ cls := "ConstructionLedger", name := "unpaid", desc := "(I)J" } : Jvm.MethodName)) ∈ zG := zK_4 114 rfl rfl
theorem zw_835 : (Jvm.Cond.code ({ cls := "ConstructionLedger", name := "unpaid", desc := "(I)J" } : Jvm.MethodName) prog_1_method_17_code (2 : Nat) (Option.some Jvm.ClassFile.FieldType.long)) ∈ zG := zK_4 115 rfl rfl
theorem zw_836 : (Jvm.Cond.methodLink "ConstructionLedger" (139 : Nat) ({ cls := "ConstructionLedger$Certificates", name := "unpaidOf", desc := "(I)J" } : Jvm.MethodName)) ∈ zG := zK_4 116 rfl rfl
theorem zw_837 : (Jvm.Cond.methodLink "ConstructionLedgerLaw" (200 : Nat) ({ cls := "ConstructionLedgerLaw", name := "overdue", desc := "(LConstructionLedger;I[J)I" } : Jvm.MethodName)) ∈ zG := zK_4 117 rfl rfl
theorem zw_838 : (Jvm.Cond.static ({ cls := "ConstructionLedgerLaw", name := "overdue", desc := "(LConstructionLedger;I[J)I" } : Jvm.MethodName)) ∈ zG := zK_4 118 rfl rfl
theorem zw_839 : (Jvm.Cond.codeWith ({ cls := "ConstructionLedgerLaw", name := "overdue", desc := "(LConstructionLedger;I[J)I" } : Jvm.MethodName) method_15_code (4 : Nat) (Option.some Jvm.ClassFile.FieldType.int) [((0 : Nat), (8 : Nat), (11 : Nat), (18 : Nat))]) ∈ zG := zK_4 119 rfl rfl
theorem zw_840 : (Jvm.Cond.methodLink "ConstructionLedgerLaw" (53 : Nat) ({ cls := "ConstructionLedger", name := "overdue", desc := "(I)J" } : Jvm.MethodName)) ∈ zG := zK_4 120 rfl rfl
theorem zw_841 : (Jvm.Cond.instanceMethod ({ cls := "ConstructionLedger", name := "overdue", desc := "(I)J" } : Jvm.MethodName)) ∈ zG := zK_4 121 rfl rfl
theorem zw_842 : (Jvm.Cond.selects "ConstructionLedger" ({ cls := "ConstructionLedger", name := "overdue", desc := "(I)J" } : Jvm.MethodName) ({ cls := "ConstructionLedger", name := "overdue", desc := "(I)J" } : Jvm.MethodName)) ∈ zG := zK_4 122 rfl rfl
theorem zw_843 : (Jvm.Cond.code ({ cls := "ConstructionLedger", name := "overdue", desc := "(I)J" } : Jvm.MethodName) prog_1_method_18_code (2 : Nat) (Option.some Jvm.ClassFile.FieldType.long)) ∈ zG := zK_4 123 rfl rfl
theorem zw_844 : (Jvm.Cond.methodLink "ConstructionLedger" (142 : Nat) ({ cls := "ConstructionLedger$Project", name := "overdueOf", desc := "(I)J" } : Jvm.MethodName)) ∈ zG := zK_4 124 rfl rfl
theorem zw_845 : (Jvm.Cond.instanceMethod ({ cls := "ConstructionLedger$Project", name := "overdueOf", desc := "(I)J" } : Jvm.MethodName)) ∈ zG := zK_4 125 rfl rfl
theorem zw_846 : (Jvm.Cond.selects "ConstructionLedger$Project" ({ cls := "ConstructionLedger$Project", name := "overdueOf", desc := "(I)J" } : Jvm.MethodName) ({ cls := "ConstructionLedger$Project", name := "overdueOf", desc := "(I)J" } : Jvm.MethodName)) ∈ zG := zK_4 126 rfl rfl
theorem zw_847 : (Jvm.Cond.code ({ cls := "ConstructionLedger$Project", name := "overdueOf", desc := "(I)J" } : Jvm.MethodName) prog_7_method_9_code (2 : Nat) (Option.some Jvm.ClassFile.FieldType.long)) ∈ zG := zK_4 127 rfl rfl
theorem zw_848 : (Jvm.Cond.methodLink "ConstructionLedger$Project" (154 : Nat) ({ cls := "ConstructionLedger$Certificates", name := "overdueOf", desc := "(II)J" } : Jvm.MethodName)) ∈ zG := zK_4 128 rfl rfl
theorem zw_849 : (Jvm.Cond.instanceMethod ({ cls := "ConstructionLedger$Certificates", name := "overdueOf", desc := "(II)J" } : Jvm.MethodName)) ∈ zG := zK_4 129 rfl rfl
theorem zw_850 : (Jvm.Cond.selects "ConstructionLedger$Certificates" ({ cls := "ConstructionLedger$Certificates", name := "overdueOf", desc := "(II)J" } : Jvm.MethodName) ({ cls := "ConstructionLedger$Certificates", name := "overdueOf", desc := "(II)J" } : Jvm.MethodName)) ∈ zG := zK_4 130 rfl rfl
theorem zw_851 : (Jvm.Cond.code ({ cls := "ConstructionLedger$Certificates", name := "overdueOf", desc := "(II)J" } : Jvm.MethodName) prog_2_method_6_code (6 : Nat) (Option.some Jvm.ClassFile.FieldType.long)) ∈ zG := zK_4 131 rfl rfl
theorem zw_852 : (Jvm.Cond.methodLink "ConstructionLedgerLaw" (203 : Nat) ({ cls := "ConstructionLedgerLaw", name := "stage", desc := "(LConstructionLedger;I[J)I" } : Jvm.MethodName)) ∈ zG := zK_4 132 rfl rfl
theorem zw_853 : (Jvm.Cond.static ({ cls := "ConstructionLedgerLaw", name := "stage", desc := "(LConstructionLedger;I[J)I" } : Jvm.MethodName)) ∈ zG := zK_4 133 rfl rfl
theorem zw_854 : (Jvm.Cond.codeWith ({ cls := "ConstructionLedgerLaw", name := "stage", desc := "(LConstructionLedger;I[J)I" } : Jvm.MethodName) method_16_code (4 : Nat) (Option.some Jvm.ClassFile.FieldType.int) [((0 : Nat), (9 : Nat), (12 : Nat), (18 : Nat))]) ∈ zG := zK_4 134 rfl rfl
theorem zw_855 : (Jvm.Cond.methodLink "ConstructionLedgerLaw" (56 : Nat) ({ cls := "ConstructionLedger", name := "stage", desc := "(I)I" } : Jvm.MethodName)) ∈ zG := zK_4 135 rfl rfl
theorem zw_856 : (Jvm.Cond.instanceMethod ({ cls := "ConstructionLedger", name := "stage", desc := "(I)I" } : Jvm.MethodName)) ∈ zG := zK_4 136 rfl rfl
theorem zw_857 : (Jvm.Cond.selects "ConstructionLedger" ({ cls := "ConstructionLedger", name := "stage", desc := "(I)I" } : Jvm.MethodName) ({ cls := "ConstructionLedger", name := "stage", desc := "(I)I" } : Jvm.MethodName)) ∈ zG := zK_4 137 rfl rfl
theorem zw_858 : (Jvm.Cond.code ({ cls := "ConstructionLedger", name := "stage", desc := "(I)I" } : Jvm.MethodName) prog_1_method_19_code (2 : Nat) (Option.some Jvm.ClassFile.FieldType.int)) ∈ zG := zK_4 138 rfl rfl
theorem zw_859 : (Jvm.Cond.methodLink "ConstructionLedgerLaw" (206 : Nat) ({ cls := "ConstructionLedgerLaw", name := "margin", desc := "(LConstructionLedger;I[J)I" } : Jvm.MethodName)) ∈ zG := zK_4 139 rfl rfl
theorem zw_860 : (Jvm.Cond.static ({ cls := "ConstructionLedgerLaw", name := "margin", desc := "(LConstructionLedger;I[J)I" } : Jvm.MethodName)) ∈ zG := zK_4 140 rfl rfl
theorem zw_861 : (Jvm.Cond.codeWith ({ cls := "ConstructionLedgerLaw", name := "margin", desc := "(LConstructionLedger;I[J)I" } : Jvm.MethodName) method_17_code (4 : Nat) (Option.some Jvm.ClassFile.FieldType.int) [((0 : Nat), (8 : Nat), (11 : Nat), (18 : Nat))]) ∈ zG := zK_4 141 rfl rfl
theorem zw_862 : (Jvm.Cond.methodLink "ConstructionLedgerLaw" (59 : Nat) ({ cls := "ConstructionLedger", name := "margin", desc := "(I)J" } : Jvm.MethodName)) ∈ zG := zK_4 142 rfl rfl
theorem zw_863 : (Jvm.Cond.instanceMethod ({ cls := "ConstructionLedger", name := "margin", desc := "(I)J" } : Jvm.MethodName)) ∈ zG := zK_4 143 rfl rfl
theorem zw_864 : (Jvm.Cond.selects "ConstructionLedger" ({ cls := "ConstructionLedger", name := "margin", desc := "(I)J" } : Jvm.MethodName) ({ cls := "ConstructionLedger", name := "margin", desc := "(I)J" } : Jvm.MethodName)) ∈ zG := zK_4 144 rfl rfl
theorem zw_865 : (Jvm.Cond.code ({ cls := "ConstructionLedger", name := "margin", desc := "(I)J" } : Jvm.MethodName) prog_1_method_20_code (2 : Nat) (Option.some Jvm.ClassFile.FieldType.long)) ∈ zG := zK_4 145 rfl rfl
theorem zw_866 : (Jvm.Cond.methodLink "ConstructionLedger" (148 : Nat) ({ cls := "ConstructionLedger$Project", name := "marginOf", desc := "(I)J" } : Jvm.MethodName)) ∈ zG := zK_4 146 rfl rfl
theorem zw_867 : (Jvm.Cond.instanceMethod ({ cls := "ConstructionLedger$Project", name := "marginOf", desc := "(I)J" } : Jvm.MethodName)) ∈ zG := zK_4 147 rfl rfl
theorem zw_868 : (Jvm.Cond.selects "ConstructionLedger$Project" ({ cls := "ConstructionLedger$Project", name := "marginOf", desc := "(I)J" } : Jvm.MethodName) ({ cls := "ConstructionLedger$Project", name := "marginOf", desc := "(I)J" } : Jvm.MethodName)) ∈ zG := zK_4 148 rfl rfl
theorem zw_869 : (Jvm.Cond.code ({ cls := "ConstructionLedger$Project", name := "marginOf", desc := "(I)J" } : Jvm.MethodName) prog_7_method_8_code (5 : Nat) (Option.some Jvm.ClassFile.FieldType.long)) ∈ zG := zK_4 149 rfl rfl
theorem zw_870 : (Jvm.Cond.methodLink "ConstructionLedger$Project" (148 : Nat) ({ cls := "ConstructionLedger$Project", name := "presentSumOf", desc := "(I)J" } : Jvm.MethodName)) ∈ zG := zK_4 150 rfl rfl
theorem zw_871 : (Jvm.Cond.methodLink "ConstructionLedgerLaw" (209 : Nat) ({ cls := "ConstructionLedgerLaw", name := "account", desc := "(LConstructionLedger;I[J)I" } : Jvm.MethodName)) ∈ zG := zK_4 151 rfl rfl
theorem zw_872 : (Jvm.Cond.static ({ cls := "ConstructionLedgerLaw", name := "account", desc := "(LConstructionLedger;I[J)I" } : Jvm.MethodName)) ∈ zG := zK_4 152 rfl rfl
theorem zw_873 : (Jvm.Cond.codeWith ({ cls := "ConstructionLedgerLaw", name := "account", desc := "(LConstructionLedger;I[J)I" } : Jvm.MethodName) method_18_code (4 : Nat) (Option.some Jvm.ClassFile.FieldType.int) [((0 : Nat), (8 : Nat), (11 : Nat), (18 : Nat))]) ∈ zG := zK_4 153 rfl rfl
theorem zw_874 : (Jvm.Cond.methodLink "ConstructionLedgerLaw" (62 : Nat) ({ cls := "ConstructionLedger", name := "account", desc := "(I)J" } : Jvm.MethodName)) ∈ zG := zK_4 154 rfl rfl
theorem zw_875 : (Jvm.Cond.instanceMethod ({ cls := "ConstructionLedger", name := "account", desc := "(I)J" } : Jvm.MethodName)) ∈ zG := zK_4 155 rfl rfl
theorem zw_876 : (Jvm.Cond.selects "ConstructionLedger" ({ cls := "ConstructionLedger", name := "account", desc := "(I)J" } : Jvm.MethodName) ({ cls := "ConstructionLedger", name := "account", desc := "(I)J" } : Jvm.MethodName)) ∈ zG := zK_4 156 rfl rfl
theorem zw_877 : (Jvm.Cond.code ({ cls := "ConstructionLedger", name := "account", desc := "(I)J" } : Jvm.MethodName) prog_1_method_21_code (2 : Nat) (Option.some Jvm.ClassFile.FieldType.long)) ∈ zG := zK_4 157 rfl rfl
theorem zw_878 : (Jvm.Cond.methodLink "ConstructionLedgerLaw" (216 : Nat) ({ cls := "ConstructionLedgerLaw", name := "certificateContract", desc := "(LConstructionLedger;I[J)I" } : Jvm.MethodName)) ∈ zG := zK_4 158 rfl rfl
theorem zw_879 : (Jvm.Cond.static ({ cls := "ConstructionLedgerLaw", name := "certificateContract", desc := "(LConstructionLedger;I[J)I" } : Jvm.MethodName)) ∈ zG := zK_4 159 rfl rfl
theorem zw_880 : (Jvm.Cond.codeWith ({ cls := "ConstructionLedgerLaw", name := "certificateContract", desc := "(LConstructionLedger;I[J)I" } : Jvm.MethodName) method_19_code (4 : Nat) (Option.some Jvm.ClassFile.FieldType.int) [((0 : Nat), (9 : Nat), (12 : Nat), (18 : Nat))]) ∈ zG := zK_4 160 rfl rfl
theorem zw_881 : (Jvm.Cond.methodLink "ConstructionLedgerLaw" (65 : Nat) ({ cls := "ConstructionLedger", name := "certificateContract", desc := "(I)I" } : Jvm.MethodName)) ∈ zG := zK_4 161 rfl rfl
theorem zw_882 : (Jvm.Cond.instanceMethod ({ cls := "ConstructionLedger", name := "certificateContract", desc := "(I)I" } : Jvm.MethodName)) ∈ zG := zK_4 162 rfl rfl
theorem zw_883 : (Jvm.Cond.selects "ConstructionLedger" ({ cls := "ConstructionLedger", name := "certificateContract", desc := "(I)I" } : Jvm.MethodName) ({ cls := "ConstructionLedger", name := "certificateContract", desc := "(I)I" } : Jvm.MethodName)) ∈ zG := zK_4 163 rfl rfl
theorem zw_884 : (Jvm.Cond.code ({ cls := "ConstructionLedger", name := "certificateContract", desc := "(I)I" } : Jvm.MethodName) prog_1_method_23_code (2 : Nat) (Option.some Jvm.ClassFile.FieldType.int)) ∈ zG := zK_4 164 rfl rfl
theorem zw_885 : (Jvm.Cond.methodLink "ConstructionLedger" (159 : Nat) ({ cls := "ConstructionLedger", name := "checkCertificate", desc := "(I)V" } : Jvm.MethodName)) ∈ zG := zK_4 165 rfl rfl
theorem zw_887 : (Jvm.Cond.instanceMethod ({ cls := "ConstructionLedger", name := "checkCertificate", desc := "(I)V" } : Jvm.MethodName)) ∈ zG := zK_4 167 rfl rfl
theorem zw_888 : (Jvm.Cond.code ({ cls := "ConstructionLedger", name := "checkCertificate", desc := "(I)V" } : Jvm.MethodName) prog_1_method_54_code (2 : Nat) (Option.none : Option Jvm.ClassFile.FieldType)) ∈ zG := zK_4 168 rfl rfl
theorem zw_889 : (Jvm.Cond.methodLink "ConstructionLedgerLaw" (219 : Nat) ({ cls := "ConstructionLedgerLaw", name := "amount", desc := "(LConstructionLedger;I[J)I" } : Jvm.MethodName)) ∈ zG := zK_4 169 rfl rfl
theorem zw_890 : (Jvm.Cond.static ({ cls := "ConstructionLedgerLaw", name := "amount", desc := "(LConstructionLedger;I[J)I" } : Jvm.MethodName)) ∈ zG := zK_4 170 rfl rfl
theorem zw_891 : (Jvm.Cond.codeWith ({ cls := "ConstructionLedgerLaw", name := "amount", desc := "(LConstructionLedger;I[J)I" } : Jvm.MethodName) method_20_code (4 : Nat) (Option.some Jvm.ClassFile.FieldType.int) [((0 : Nat), (8 : Nat), (11 : Nat), (18 : Nat))]) ∈ zG := zK_4 171 rfl rfl
theorem zw_892 : (Jvm.Cond.methodLink "ConstructionLedgerLaw" (68 : Nat) ({ cls := "ConstructionLedger", name := "amount", desc := "(I)J" } : Jvm.MethodName)) ∈ zG := zK_4 172 rfl rfl
theorem zw_893 : (Jvm.Cond.instanceMethod ({ cls := "ConstructionLedger", name := "amount", desc := "(I)J" } : Jvm.MethodName)) ∈ zG := zK_4 173 rfl rfl
theorem zw_894 : (Jvm.Cond.selects "ConstructionLedger" ({ cls := "ConstructionLedger", name := "amount", desc := "(I)J" } : Jvm.MethodName) ({ cls := "ConstructionLedger", name := "amount", desc := "(I)J" } : Jvm.MethodName)) ∈ zG := zK_4 174 rfl rfl
theorem zw_895 : (Jvm.Cond.code ({ cls := "ConstructionLedger", name := "amount", desc := "(I)J" } : Jvm.MethodName) prog_1_method_24_code (2 : Nat) (Option.some Jvm.ClassFile.FieldType.long)) ∈ zG := zK_4 175 rfl rfl
theorem zw_896 : (Jvm.Cond.methodLink "ConstructionLedgerLaw" (222 : Nat) ({ cls := "ConstructionLedgerLaw", name := "openAmount", desc := "(LConstructionLedger;I[J)I" } : Jvm.MethodName)) ∈ zG := zK_4 176 rfl rfl
theorem zw_897 : (Jvm.Cond.static ({ cls := "ConstructionLedgerLaw", name := "openAmount", desc := "(LConstructionLedger;I[J)I" } : Jvm.MethodName)) ∈ zG := zK_4 177 rfl rfl
theorem zw_898 : (Jvm.Cond.codeWith ({ cls := "ConstructionLedgerLaw", name := "openAmount", desc := "(LConstructionLedger;I[J)I" } : Jvm.MethodName) method_21_code (4 : Nat) (Option.some Jvm.ClassFile.FieldType.int) [((0 : Nat), (8 : Nat), (11 : Nat), (18 : Nat))]) ∈ zG := zK_4 178 rfl rfl
theorem zw_899 : (Jvm.Cond.methodLink "ConstructionLedgerLaw" (71 : Nat) ({ cls := "ConstructionLedger", name := "openAmount", desc := "(I)J" } : Jvm.MethodName)) ∈ zG := zK_4 179 rfl rfl
theorem zw_900 : (Jvm.Cond.instanceMethod ({ cls := "ConstructionLedger", name := "openAmount", desc := "(I)J" } : Jvm.MethodName)) ∈ zG := zK_4 180 rfl rfl
theorem zw_901 : (Jvm.Cond.selects "ConstructionLedger" ({ cls := "ConstructionLedger", name := "openAmount", desc := "(I)J" } : Jvm.MethodName) ({ cls := "ConstructionLedger", name := "openAmount", desc := "(I)J" } : Jvm.MethodName)) ∈ zG := zK_4 181 rfl rfl
theorem zw_902 : (Jvm.Cond.code ({ cls := "ConstructionLedger", name := "openAmount", desc := "(I)J" } : Jvm.MethodName) prog_1_method_25_code (2 : Nat) (Option.some Jvm.ClassFile.FieldType.long)) ∈ zG := zK_4 182 rfl rfl
theorem zw_903 : (Jvm.Cond.methodLink "ConstructionLedgerLaw" (225 : Nat) ({ cls := "ConstructionLedgerLaw", name := "dueDay", desc := "(LConstructionLedger;I[J)I" } : Jvm.MethodName)) ∈ zG := zK_4 183 rfl rfl
theorem zw_904 : (Jvm.Cond.static ({ cls := "ConstructionLedgerLaw", name := "dueDay", desc := "(LConstructionLedger;I[J)I" } : Jvm.MethodName)) ∈ zG := zK_4 184 rfl rfl
theorem zw_905 : (Jvm.Cond.codeWith ({ cls := "ConstructionLedgerLaw", name := "dueDay", desc := "(LConstructionLedger;I[J)I" } : Jvm.MethodName) method_22_code (4 : Nat) (Option.some Jvm.ClassFile.FieldType.int) [((0 : Nat), (9 : Nat), (12 : Nat), (18 : Nat))]) ∈ zG := zK_4 185 rfl rfl
theorem zw_906 : (Jvm.Cond.methodLink "ConstructionLedgerLaw" (74 : Nat) ({ cls := "ConstructionLedger", name := "dueDay", desc := "(I)I" } : Jvm.MethodName)) ∈ zG := zK_4 186 rfl rfl
theorem zw_907 : (Jvm.Cond.instanceMethod ({ cls := "ConstructionLedger", name := "dueDay", desc := "(I)I" } : Jvm.MethodName)) ∈ zG := zK_4 187 rfl rfl
theorem zw_908 : (Jvm.Cond.selects "ConstructionLedger" ({ cls := "ConstructionLedger", name := "dueDay", desc := "(I)I" } : Jvm.MethodName) ({ cls := "ConstructionLedger", name := "dueDay", desc := "(I)I" } : Jvm.MethodName)) ∈ zG := zK_4 188 rfl rfl
theorem zw_909 : (Jvm.Cond.code ({ cls := "ConstructionLedger", name := "dueDay", desc := "(I)I" } : Jvm.MethodName) prog_1_method_26_code (2 : Nat) (Option.some Jvm.ClassFile.FieldType.int)) ∈ zG := zK_4 189 rfl rfl
theorem zw_910 : (Jvm.Cond.methodLink "ConstructionLedgerLaw" (228 : Nat) ({ cls := "ConstructionLedgerLaw", name := "isBlocked", desc := "(LConstructionLedger;I[J)I" } : Jvm.MethodName)) ∈ zG := zK_4 190 rfl rfl
theorem zw_911 : (Jvm.Cond.static ({ cls := "ConstructionLedgerLaw", name := "isBlocked", desc := "(LConstructionLedger;I[J)I" } : Jvm.MethodName)) ∈ zG := zK_4 191 rfl rfl
theorem zw_912 : (Jvm.Cond.codeWith ({ cls := "ConstructionLedgerLaw", name := "isBlocked", desc := "(LConstructionLedger;I[J)I" } : Jvm.MethodName) method_23_code (4 : Nat) (Option.some Jvm.ClassFile.FieldType.int) [((0 : Nat), (16 : Nat), (19 : Nat), (18 : Nat))]) ∈ zG := zK_4 192 rfl rfl
theorem zw_913 : (Jvm.Cond.methodLink "ConstructionLedgerLaw" (77 : Nat) ({ cls := "ConstructionLedger", name := "isBlocked", desc := "(I)Z" } : Jvm.MethodName)) ∈ zG := zK_4 193 rfl rfl
theorem zw_914 : (Jvm.Cond.instanceMethod ({ cls := "ConstructionLedger", name := "isBlocked", desc := "(I)Z" } : Jvm.MethodName)) ∈ zG := zK_4 194 rfl rfl
theorem zw_915 : (Jvm.Cond.selects "ConstructionLedger" ({ cls := "ConstructionLedger", name := "isBlocked", desc := "(I)Z" } : Jvm.MethodName) ({ cls := "ConstructionLedger", name := "isBlocked", desc := "(I)Z" } : Jvm.MethodName)) ∈ zG := zK_4 195 rfl rfl
theorem zw_916 : (Jvm.Cond.code ({ cls := "ConstructionLedger", name := "isBlocked", desc := "(I)Z" } : Jvm.MethodName) prog_1_method_27_code (2 : Nat) (Option.some Jvm.ClassFile.FieldType.boolean)) ∈ zG := zK_4 196 rfl rfl
theorem zw_917 : (Jvm.Cond.methodLink "ConstructionLedger" (174 : Nat) ({ cls := "ConstructionLedger$Project", name := "isHeldBack", desc := "(I)Z" } : Jvm.MethodName)) ∈ zG := zK_4 197 rfl rfl
theorem zw_918 : (Jvm.Cond.instanceMethod ({ cls := "ConstructionLedger$Project", name := "isHeldBack", desc := "(I)Z" } : Jvm.MethodName)) ∈ zG := zK_4 198 rfl rfl
theorem zw_919 : (Jvm.Cond.selects "ConstructionLedger$Project" ({ cls := "ConstructionLedger$Project", name := "isHeldBack", desc := "(I)Z" } : Jvm.MethodName) ({ cls := "ConstructionLedger$Project", name := "isHeldBack", desc := "(I)Z" } : Jvm.MethodName)) ∈ zG := zK_4 199 rfl rfl
theorem zw_920 : (Jvm.Cond.code ({ cls := "ConstructionLedger$Project", name := "isHeldBack", desc := "(I)Z" } : Jvm.MethodName) prog_7_method_12_code (3 : Nat) (Option.some Jvm.ClassFile.FieldType.boolean)) ∈ zG := zK_4 200 rfl rfl
theorem zw_921 : (Jvm.Cond.methodLink "ConstructionLedger$Project" (181 : Nat) ({ cls := "ConstructionLedger$Certificates", name := "hasOpenUpTo", desc := "(II)Z" } : Jvm.MethodName)) ∈ zG := zK_4 201 rfl rfl
theorem zw_922 : (Jvm.Cond.instanceMethod ({ cls := "ConstructionLedger$Certificates", name := "hasOpenUpTo", desc := "(II)Z" } : Jvm.MethodName)) ∈ zG := zK_4 202 rfl rfl
theorem zw_923 : (Jvm.Cond.selects "ConstructionLedger$Certificates" ({ cls := "ConstructionLedger$Certificates", name := "hasOpenUpTo", desc := "(II)Z" } : Jvm.MethodName) ({ cls := "ConstructionLedger$Certificates", name := "hasOpenUpTo", desc := "(II)Z" } : Jvm.MethodName)) ∈ zG := zK_4 203 rfl rfl
theorem zw_924 : (Jvm.Cond.code ({ cls := "ConstructionLedger$Certificates", name := "hasOpenUpTo", desc := "(II)Z" } : Jvm.MethodName) prog_2_method_8_code (4 : Nat) (Option.some Jvm.ClassFile.FieldType.boolean)) ∈ zG := zK_4 204 rfl rfl
theorem zw_925 : (Jvm.Cond.methodLink "ConstructionLedgerLaw" (235 : Nat) ({ cls := "ConstructionLedgerLaw", name := "settleDays", desc := "(LConstructionLedger;II[J)I" } : Jvm.MethodName)) ∈ zG := zK_4 205 rfl rfl
theorem zw_926 : (Jvm.Cond.static ({ cls := "ConstructionLedgerLaw", name := "settleDays", desc := "(LConstructionLedger;II[J)I" } : Jvm.MethodName)) ∈ zG := zK_4 206 rfl rfl
theorem zw_927 : (Jvm.Cond.codeWith ({ cls := "ConstructionLedgerLaw", name := "settleDays", desc := "(LConstructionLedger;II[J)I" } : Jvm.MethodName) method_24_code (5 : Nat) (Option.some Jvm.ClassFile.FieldType.int) [((0 : Nat), (10 : Nat), (13 : Nat), (18 : Nat)), ((0 : Nat), (10 : Nat), (17 : Nat), (13 : Nat))]) ∈ zG := zK_4 207 rfl rfl
theorem zw_928 : (Jvm.Cond.methodLink "ConstructionLedgerLaw" (81 : Nat) ({ cls := "ConstructionLedger", name := "settleDays", desc := "(II)I" } : Jvm.MethodName)) ∈ zG := zK_4 208 rfl rfl
theorem zw_929 : (Jvm.Cond.instanceMethod ({ cls := "ConstructionLedger", name := "settleDays", desc := "(II)I" } : Jvm.MethodName)) ∈ zG := zK_4 209 rfl rfl
theorem zw_930 : (Jvm.Cond.selects "ConstructionLedger" ({ cls := "ConstructionLedger", name := "settleDays", desc := "(II)I" } : Jvm.MethodName) ({ cls := "ConstructionLedger", name := "settleDays", desc := "(II)I" } : Jvm.MethodName)) ∈ zG := zK_4 210 rfl rfl
theorem zw_931 : (Jvm.Cond.code ({ cls := "ConstructionLedger", name := "settleDays", desc := "(II)I" } : Jvm.MethodName) prog_1_method_29_code (3 : Nat) (Option.some Jvm.ClassFile.FieldType.int)) ∈ zG := zK_4 211 rfl rfl
theorem zw_932 : (Jvm.Cond.methodLink "ConstructionLedger" (182 : Nat) ({ cls := "ConstructionLedger$Project", name := "settleUntilPaid", desc := "(II)J" } : Jvm.MethodName)) ∈ zG := zK_4 212 rfl rfl
theorem zw_933 : (Jvm.Cond.instanceMethod ({ cls := "ConstructionLedger$Project", name := "settleUntilPaid", desc := "(II)J" } : Jvm.MethodName)) ∈ zG := zK_4 213 rfl rfl
theorem zw_934 : (Jvm.Cond.selects "ConstructionLedger$Project" ({ cls := "ConstructionLedger$Project", name := "settleUntilPaid", desc := "(II)J" } : Jvm.MethodName) ({ cls := "ConstructionLedger$Project", name := "settleUntilPaid", desc := "(II)J" } : Jvm.MethodName)) ∈ zG := zK_4 214 rfl rfl
theorem zw_935 : (Jvm.Cond.code ({ cls := "ConstructionLedger$Project", name := "settleUntilPaid", desc := "(II)J" } : Jvm.MethodName) prog_7_method_15_code (9 : Nat) (Option.some Jvm.ClassFile.FieldType.long)) ∈ zG := zK_4 215 rfl rfl
theorem zw_936 : (Jvm.Cond.methodLink "ConstructionLedger$Project" (188 : Nat) ({ cls := "ConstructionLedger$Certificates", name := "sortByDueDay", desc := "([I)V" } : Jvm.MethodName)) ∈ zG := zK_4 216 rfl rfl
theorem zw_937 : (Jvm.Cond.instanceMethod ({ cls := "ConstructionLedger$Certificates", name := "sortByDueDay", desc := "([I)V" } : Jvm.MethodName)) ∈ zG := zK_4 217 rfl rfl
theorem zw_938 : (Jvm.Cond.selects "ConstructionLedger$Certificates" ({ cls := "ConstructionLedger$Certificates", name := "sortByDueDay", desc := "([I)V" } : Jvm.MethodName) ({ cls := "ConstructionLedger$Certificates", name := "sortByDueDay", desc := "([I)V" } : Jvm.MethodName)) ∈ zG := zK_4 218 rfl rfl
theorem zw_939 : (Jvm.Cond.code ({ cls := "ConstructionLedger$Certificates", name := "sortByDueDay", desc := "([I)V" } : Jvm.MethodName) prog_2_method_11_code (4 : Nat) (Option.none : Option Jvm.ClassFile.FieldType)) ∈ zG := zK_4 219 rfl rfl
theorem zw_940 : (Jvm.Cond.methodLink "ConstructionLedger$Project" (192 : Nat) ({ cls := "ConstructionLedger$Certificates", name := "isPaid", desc := "(I)Z" } : Jvm.MethodName)) ∈ zG := zK_4 220 rfl rfl
theorem zw_941 : (Jvm.Cond.instanceMethod ({ cls := "ConstructionLedger$Certificates", name := "isPaid", desc := "(I)Z" } : Jvm.MethodName)) ∈ zG := zK_4 221 rfl rfl
theorem zw_942 : (Jvm.Cond.selects "ConstructionLedger$Certificates" ({ cls := "ConstructionLedger$Certificates", name := "isPaid", desc := "(I)Z" } : Jvm.MethodName) ({ cls := "ConstructionLedger$Certificates", name := "isPaid", desc := "(I)Z" } : Jvm.MethodName)) ∈ zG := zK_4 222 rfl rfl
theorem zw_943 : (Jvm.Cond.code ({ cls := "ConstructionLedger$Certificates", name := "isPaid", desc := "(I)Z" } : Jvm.MethodName) prog_2_method_9_code (2 : Nat) (Option.some Jvm.ClassFile.FieldType.boolean)) ∈ zG := zK_4 223 rfl rfl
theorem zw_944 : (Jvm.Cond.methodLink "ConstructionLedger$Project" (196 : Nat) ({ cls := "ConstructionLedger$Project", name := "settleOneDay", desc := "()J" } : Jvm.MethodName)) ∈ zG := zK_4 224 rfl rfl
theorem zw_945 : (Jvm.Cond.instanceMethod ({ cls := "ConstructionLedger$Project", name := "settleOneDay", desc := "()J" } : Jvm.MethodName)) ∈ zG := zK_4 225 rfl rfl
theorem zw_946 : (Jvm.Cond.selects "ConstructionLedger$Project" ({ cls := "ConstructionLedger$Project", name := "settleOneDay", desc := "()J" } : Jvm.MethodName) ({ cls := "ConstructionLedger$Project", name := "settleOneDay", desc := "()J" } : Jvm.MethodName)) ∈ zG := zK_4 226 rfl rfl
theorem zw_947 : (Jvm.Cond.code ({ cls := "ConstructionLedger$Project", name := "settleOneDay", desc := "()J" } : Jvm.MethodName) prog_7_method_16_code (4 : Nat) (Option.some Jvm.ClassFile.FieldType.long)) ∈ zG := zK_4 227 rfl rfl
theorem zw_948 : (Jvm.Cond.methodLink "ConstructionLedger$Project" (206 : Nat) ({ cls := "ConstructionLedger$Project", name := "payFromAccount", desc := "(I)J" } : Jvm.MethodName)) ∈ zG := zK_4 228 rfl rfl
theorem zw_949 : (Jvm.Cond.instanceMethod ({ cls := "ConstructionLedger$Project", name := "payFromAccount", desc := "(I)J" } : Jvm.MethodName)) ∈ zG := zK_4 229 rfl rfl
theorem zw_950 : (Jvm.Cond.selects "ConstructionLedger$Project" ({ cls := "ConstructionLedger$Project", name := "payFromAccount", desc := "(I)J" } : Jvm.MethodName) ({ cls := "ConstructionLedger$Project", name := "payFromAccount", desc := "(I)J" } : Jvm.MethodName)) ∈ zG := zK_4 230 rfl rfl
theorem zw_951 : (Jvm.Cond.code ({ cls := "ConstructionLedger$Project", name := "payFromAccount", desc := "(I)J" } : Jvm.MethodName) prog_7_method_17_code (4 : Nat) (Option.some Jvm.ClassFile.FieldType.long)) ∈ zG := zK_4 231 rfl rfl
theorem zw_952 : (Jvm.Cond.methodLink "ConstructionLedger$Project" (209 : Nat) ({ cls := "ConstructionLedger$Project", name := "payerHolds", desc := "(I)J" } : Jvm.MethodName)) ∈ zG := zK_4 232 rfl rfl
theorem zw_953 : (Jvm.Cond.instanceMethod ({ cls := "ConstructionLedger$Project", name := "payerHolds", desc := "(I)J" } : Jvm.MethodName)) ∈ zG := zK_4 233 rfl rfl
theorem zw_954 : (Jvm.Cond.selects "ConstructionLedger$Project" ({ cls := "ConstructionLedger$Project", name := "payerHolds", desc := "(I)J" } : Jvm.MethodName) ({ cls := "ConstructionLedger$Project", name := "payerHolds", desc := "(I)J" } : Jvm.MethodName)) ∈ zG := zK_4 234 rfl rfl
theorem zw_955 : (Jvm.Cond.code ({ cls := "ConstructionLedger$Project", name := "payerHolds", desc := "(I)J" } : Jvm.MethodName) prog_7_method_13_code (2 : Nat) (Option.some Jvm.ClassFile.FieldType.long)) ∈ zG := zK_4 235 rfl rfl
theorem zw_956 : (Jvm.Cond.methodLink "ConstructionLedger$Project" (212 : Nat) ({ cls := "ConstructionLedger$Project", name := "isHeldBack", desc := "(I)Z" } : Jvm.MethodName)) ∈ zG := zK_4 236 rfl rfl
theorem zw_957 : (Jvm.Cond.methodLink "ConstructionLedger$Project" (215 : Nat) ({ cls := "ConstructionLedger$Project", name := "transfer", desc := "(IJ)V" } : Jvm.MethodName)) ∈ zG := zK_4 237 rfl rfl
theorem zw_958 : (Jvm.Cond.instanceMethod ({ cls := "ConstructionLedger$Project", name := "transfer", desc := "(IJ)V" } : Jvm.MethodName)) ∈ zG := zK_4 238 rfl rfl
theorem zw_959 : (Jvm.Cond.selects "ConstructionLedger$Project" ({ cls := "ConstructionLedger$Project", name := "transfer", desc := "(IJ)V" } : Jvm.MethodName) ({ cls := "ConstructionLedger$Project", name := "transfer", desc := "(IJ)V" } : Jvm.MethodName)) ∈ zG := zK_4 239 rfl rfl
theorem zw_960 : (Jvm.Cond.code ({ cls := "ConstructionLedger$Project", name := "transfer", desc := "(IJ)V" } : Jvm.MethodName) prog_7_method_14_code (5 : Nat) (Option.none : Option Jvm.ClassFile.FieldType)) ∈ zG := zK_5 0 rfl rfl
theorem zw_961 : (Jvm.Cond.methodLink "ConstructionLedger$Project" (200 : Nat) ({ cls := "ConstructionLedger$Certificates", name := "nextDueDay", desc := "(II)I" } : Jvm.MethodName)) ∈ zG := zK_5 1 rfl rfl
theorem zw_962 : (Jvm.Cond.instanceMethod ({ cls := "ConstructionLedger$Certificates", name := "nextDueDay", desc := "(II)I" } : Jvm.MethodName)) ∈ zG := zK_5 2 rfl rfl
theorem zw_963 : (Jvm.Cond.selects "ConstructionLedger$Certificates" ({ cls := "ConstructionLedger$Certificates", name := "nextDueDay", desc := "(II)I" } : Jvm.MethodName) ({ cls := "ConstructionLedger$Certificates", name := "nextDueDay", desc := "(II)I" } : Jvm.MethodName)) ∈ zG := zK_5 3 rfl rfl
theorem zw_964 : (Jvm.Cond.code ({ cls := "ConstructionLedger$Certificates", name := "nextDueDay", desc := "(II)I" } : Jvm.MethodName) prog_2_method_10_code (5 : Nat) (Option.some Jvm.ClassFile.FieldType.int)) ∈ zG := zK_5 4 rfl rfl
theorem zw_965 : (Jvm.Cond.methodLink "ConstructionLedger" (185 : Nat) ({ cls := "ConstructionLedger$Certificates", name := "isPaid", desc := "(I)Z" } : Jvm.MethodName)) ∈ zG := zK_5 5 rfl rfl
theorem zw_966 : (Jvm.Cond.methodLink "ConstructionLedgerLaw" (242 : Nat) ({ cls := "ConstructionLedgerLaw", name := "isApproved", desc := "(LConstructionLedger;I[J)I" } : Jvm.MethodName)) ∈ zG := zK_5 6 rfl rfl
theorem zw_967 : (Jvm.Cond.static ({ cls := "ConstructionLedgerLaw", name := "isApproved", desc := "(LConstructionLedger;I[J)I" } : Jvm.MethodName)) ∈ zG := zK_5 7 rfl rfl
theorem zw_968 : (Jvm.Cond.codeWith ({ cls := "ConstructionLedgerLaw", name := "isApproved", desc := "(LConstructionLedger;I[J)I" } : Jvm.MethodName) method_25_code (4 : Nat) (Option.some Jvm.ClassFile.FieldType.int) [((0 : Nat), (16 : Nat), (19 : Nat), (18 : Nat))]) ∈ zG := zK_5 8 rfl rfl
theorem zw_969 : (Jvm.Cond.methodLink "ConstructionLedgerLaw" (84 : Nat) ({ cls := "ConstructionLedger", name := "isApproved", desc := "(I)Z" } : Jvm.MethodName)) ∈ zG := zK_5 9 rfl rfl
theorem zw_970 : (Jvm.Cond.instanceMethod ({ cls := "ConstructionLedger", name := "isApproved", desc := "(I)Z" } : Jvm.MethodName)) ∈ zG := zK_5 10 rfl rfl
theorem zw_971 : (Jvm.Cond.selects "ConstructionLedger" ({ cls := "ConstructionLedger", name := "isApproved", desc := "(I)Z" } : Jvm.MethodName) ({ cls := "ConstructionLedger", name := "isApproved", desc := "(I)Z" } : Jvm.MethodName)) ∈ zG := zK_5 11 rfl rfl
theorem zw_972 : (Jvm.Cond.code ({ cls := "ConstructionLedger", name := "isApproved", desc := "(I)Z" } : Jvm.MethodName) prog_1_method_31_code (2 : Nat) (Option.some Jvm.ClassFile.FieldType.boolean)) ∈ zG := zK_5 12 rfl rfl
theorem zw_973 : (Jvm.Cond.methodLink "ConstructionLedger" (195 : Nat) ({ cls := "ConstructionLedger", name := "checkVariation", desc := "(I)V" } : Jvm.MethodName)) ∈ zG := zK_5 13 rfl rfl
theorem zw_975 : (Jvm.Cond.instanceMethod ({ cls := "ConstructionLedger", name := "checkVariation", desc := "(I)V" } : Jvm.MethodName)) ∈ zG := zK_5 15 rfl rfl
theorem zw_976 : (Jvm.Cond.code ({ cls := "ConstructionLedger", name := "checkVariation", desc := "(I)V" } : Jvm.MethodName) prog_1_method_55_code (2 : Nat) (Option.none : Option Jvm.ClassFile.FieldType)) ∈ zG := zK_5 16 rfl rfl
theorem zw_977 : (Jvm.Cond.methodLink "ConstructionLedgerLaw" (245 : Nat) ({ cls := "ConstructionLedgerLaw", name := "variationWorth", desc := "(LConstructionLedger;I[J)I" } : Jvm.MethodName)) ∈ zG := zK_5 17 rfl rfl
theorem zw_978 : (Jvm.Cond.static ({ cls := "ConstructionLedgerLaw", name := "variationWorth", desc := "(LConstructionLedger;I[J)I" } : Jvm.MethodName)) ∈ zG := zK_5 18 rfl rfl
theorem zw_979 : (Jvm.Cond.codeWith ({ cls := "ConstructionLedgerLaw", name := "variationWorth", desc := "(LConstructionLedger;I[J)I" } : Jvm.MethodName) method_26_code (4 : Nat) (Option.some Jvm.ClassFile.FieldType.int) [((0 : Nat), (8 : Nat), (11 : Nat), (18 : Nat))]) ∈ zG := zK_5 19 rfl rfl
theorem zw_980 : (Jvm.Cond.methodLink "ConstructionLedgerLaw" (87 : Nat) ({ cls := "ConstructionLedger", name := "variationWorth", desc := "(I)J" } : Jvm.MethodName)) ∈ zG := zK_5 20 rfl rfl
theorem zw_981 : (Jvm.Cond.instanceMethod ({ cls := "ConstructionLedger", name := "variationWorth", desc := "(I)J" } : Jvm.MethodName)) ∈ zG := zK_5 21 rfl rfl
theorem zw_982 : (Jvm.Cond.selects "ConstructionLedger" ({ cls := "ConstructionLedger", name := "variationWorth", desc := "(I)J" } : Jvm.MethodName) ({ cls := "ConstructionLedger", name := "variationWorth", desc := "(I)J" } : Jvm.MethodName)) ∈ zG := zK_5 22 rfl rfl
theorem zw_983 : (Jvm.Cond.code ({ cls := "ConstructionLedger", name := "variationWorth", desc := "(I)J" } : Jvm.MethodName) prog_1_method_32_code (2 : Nat) (Option.some Jvm.ClassFile.FieldType.long)) ∈ zG := zK_5 23 rfl rfl
theorem zw_984 : (Jvm.Cond.methodLink "ConstructionLedger" (202 : Nat) ({ cls := "ConstructionLedger$Project", name := "worthOf", desc := "(I)J" } : Jvm.MethodName)) ∈ zG := zK_5 24 rfl rfl
theorem zw_985 : (Jvm.Cond.instanceMethod ({ cls := "ConstructionLedger$Project", name := "worthOf", desc := "(I)J" } : Jvm.MethodName)) ∈ zG := zK_5 25 rfl rfl
theorem zw_986 : (Jvm.Cond.selects "ConstructionLedger$Project" ({ cls := "ConstructionLedger$Project", name := "worthOf", desc := "(I)J" } : Jvm.MethodName) ({ cls := "ConstructionLedger$Project", name := "worthOf", desc := "(I)J" } : Jvm.MethodName)) ∈ zG := zK_5 26 rfl rfl
theorem zw_987 : (Jvm.Cond.code ({ cls := "ConstructionLedger$Project", name := "worthOf", desc := "(I)J" } : Jvm.MethodName) prog_7_method_11_code (4 : Nat) (Option.some Jvm.ClassFile.FieldType.long)) ∈ zG := zK_5 27 rfl rfl
theorem zw_988 : (Jvm.Cond.methodLink "ConstructionLedger$Project" (164 : Nat) ({ cls := "ConstructionLedger$Project", name := "quantityWith", desc := "(I)I" } : Jvm.MethodName)) ∈ zG := zK_5 28 rfl rfl
theorem zw_989 : (Jvm.Cond.instanceMethod ({ cls := "ConstructionLedger$Project", name := "quantityWith", desc := "(I)I" } : Jvm.MethodName)) ∈ zG := zK_5 29 rfl rfl
theorem zw_990 : (Jvm.Cond.selects "ConstructionLedger$Project" ({ cls := "ConstructionLedger$Project", name := "quantityWith", desc := "(I)I" } : Jvm.MethodName) ({ cls := "ConstructionLedger$Project", name := "quantityWith", desc := "(I)I" } : Jvm.MethodName)) ∈ zG := zK_5 30 rfl rfl
theorem zw_991 : (Jvm.Cond.code ({ cls := "ConstructionLedger$Project", name := "quantityWith", desc := "(I)I" } : Jvm.MethodName) prog_7_method_10_code (2 : Nat) (Option.some Jvm.ClassFile.FieldType.int)) ∈ zG := zK_5 31 rfl rfl
theorem zw_992 : (Jvm.Cond.methodLink "ConstructionLedgerLaw" (252 : Nat) ({ cls := "ConstructionLedgerLaw", name := "claim", desc := "(LConstructionLedger;I[J)I" } : Jvm.MethodName)) ∈ zG := zK_5 32 rfl rfl
theorem zw_993 : (Jvm.Cond.static ({ cls := "ConstructionLedgerLaw", name := "claim", desc := "(LConstructionLedger;I[J)I" } : Jvm.MethodName)) ∈ zG := zK_5 33 rfl rfl
theorem zw_994 : (Jvm.Cond.codeWith ({ cls := "ConstructionLedgerLaw", name := "claim", desc := "(LConstructionLedger;I[J)I" } : Jvm.MethodName) method_27_code (4 : Nat) (Option.some Jvm.ClassFile.FieldType.int) [((0 : Nat), (8 : Nat), (11 : Nat), (18 : Nat))]) ∈ zG := zK_5 34 rfl rfl
theorem zw_995 : (Jvm.Cond.methodLink "ConstructionLedgerLaw" (90 : Nat) ({ cls := "ConstructionLedger", name := "claim", desc := "(I)J" } : Jvm.MethodName)) ∈ zG := zK_5 35 rfl rfl
theorem zw_996 : (Jvm.Cond.instanceMethod ({ cls := "ConstructionLedger", name := "claim", desc := "(I)J" } : Jvm.MethodName)) ∈ zG := zK_5 36 rfl rfl
theorem zw_997 : (Jvm.Cond.selects "ConstructionLedger" ({ cls := "ConstructionLedger", name := "claim", desc := "(I)J" } : Jvm.MethodName) ({ cls := "ConstructionLedger", name := "claim", desc := "(I)J" } : Jvm.MethodName)) ∈ zG := zK_5 37 rfl rfl
theorem zw_998 : (Jvm.Cond.code ({ cls := "ConstructionLedger", name := "claim", desc := "(I)J" } : Jvm.MethodName) prog_1_method_34_code (2 : Nat) (Option.some Jvm.ClassFile.FieldType.long)) ∈ zG := zK_5 38 rfl rfl
theorem zw_999 : (Jvm.Cond.methodLink "ConstructionLedger" (212 : Nat) ({ cls := "ConstructionLedger", name := "checkLien", desc := "(I)V" } : Jvm.MethodName)) ∈ zG := zK_5 39 rfl rfl
theorem zw_1001 : (Jvm.Cond.instanceMethod ({ cls := "ConstructionLedger", name := "checkLien", desc := "(I)V" } : Jvm.MethodName)) ∈ zG := zK_5 41 rfl rfl
theorem zw_1002 : (Jvm.Cond.code ({ cls := "ConstructionLedger", name := "checkLien", desc := "(I)V" } : Jvm.MethodName) prog_1_method_56_code (2 : Nat) (Option.none : Option Jvm.ClassFile.FieldType)) ∈ zG := zK_5 42 rfl rfl
theorem zw_1003 : (Jvm.Cond.methodLink "ConstructionLedger" (215 : Nat) ({ cls := "ConstructionLedger$Project", name := "claimOf", desc := "(I)J" } : Jvm.MethodName)) ∈ zG := zK_5 43 rfl rfl
theorem zw_1004 : (Jvm.Cond.methodLink "ConstructionLedgerLaw" (255 : Nat) ({ cls := "ConstructionLedgerLaw", name := "priority", desc := "(LConstructionLedger;I[J)I" } : Jvm.MethodName)) ∈ zG := zK_5 44 rfl rfl
theorem zw_1005 : (Jvm.Cond.static ({ cls := "ConstructionLedgerLaw", name := "priority", desc := "(LConstructionLedger;I[J)I" } : Jvm.MethodName)) ∈ zG := zK_5 45 rfl rfl
theorem zw_1006 : (Jvm.Cond.codeWith ({ cls := "ConstructionLedgerLaw", name := "priority", desc := "(LConstructionLedger;I[J)I" } : Jvm.MethodName) method_28_code (4 : Nat) (Option.some Jvm.ClassFile.FieldType.int) [((0 : Nat), (9 : Nat), (12 : Nat), (18 : Nat))]) ∈ zG := zK_5 46 rfl rfl
theorem zw_1007 : (Jvm.Cond.methodLink "ConstructionLedgerLaw" (93 : Nat) ({ cls := "ConstructionLedger", name := "priority", desc := "(I)I" } : Jvm.MethodName)) ∈ zG := zK_5 47 rfl rfl
theorem zw_1008 : (Jvm.Cond.instanceMethod ({ cls := "ConstructionLedger", name := "priority", desc := "(I)I" } : Jvm.MethodName)) ∈ zG := zK_5 48 rfl rfl
theorem zw_1009 : (Jvm.Cond.selects "ConstructionLedger" ({ cls := "ConstructionLedger", name := "priority", desc := "(I)I" } : Jvm.MethodName) ({ cls := "ConstructionLedger", name := "priority", desc := "(I)I" } : Jvm.MethodName)) ∈ zG := zK_5 49 rfl rfl
theorem zw_1010 : (Jvm.Cond.code ({ cls := "ConstructionLedger", name := "priority", desc := "(I)I" } : Jvm.MethodName) prog_1_method_35_code (2 : Nat) (Option.some Jvm.ClassFile.FieldType.int)) ∈ zG := zK_5 50 rfl rfl
theorem zw_1011 : (Jvm.Cond.methodLink "ConstructionLedger" (218 : Nat) ({ cls := "ConstructionLedger$Project", name := "lienAt", desc := "(I)I" } : Jvm.MethodName)) ∈ zG := zK_5 51 rfl rfl
theorem zw_1012 : (Jvm.Cond.instanceMethod ({ cls := "ConstructionLedger$Project", name := "lienAt", desc := "(I)I" } : Jvm.MethodName)) ∈ zG := zK_5 52 rfl rfl
theorem zw_1013 : (Jvm.Cond.selects "ConstructionLedger$Project" ({ cls := "ConstructionLedger$Project", name := "lienAt", desc := "(I)I" } : Jvm.MethodName) ({ cls := "ConstructionLedger$Project", name := "lienAt", desc := "(I)I" } : Jvm.MethodName)) ∈ zG := zK_5 53 rfl rfl
theorem zw_1014 : (Jvm.Cond.code ({ cls := "ConstructionLedger$Project", name := "lienAt", desc := "(I)I" } : Jvm.MethodName) prog_7_method_22_code (5 : Nat) (Option.some Jvm.ClassFile.FieldType.int)) ∈ zG := zK_5 54 rfl rfl
theorem zw_1015 : (Jvm.Cond.methodLink "ConstructionLedger$Project" (241 : Nat) ({ cls := "ConstructionLedger$Project", name := "precedes", desc := "(II)Z" } : Jvm.MethodName)) ∈ zG := zK_5 55 rfl rfl
theorem zw_1016 : (Jvm.Cond.instanceMethod ({ cls := "ConstructionLedger$Project", name := "precedes", desc := "(II)Z" } : Jvm.MethodName)) ∈ zG := zK_5 56 rfl rfl
theorem zw_1017 : (Jvm.Cond.selects "ConstructionLedger$Project" ({ cls := "ConstructionLedger$Project", name := "precedes", desc := "(II)Z" } : Jvm.MethodName) ({ cls := "ConstructionLedger$Project", name := "precedes", desc := "(II)Z" } : Jvm.MethodName)) ∈ zG := zK_5 57 rfl rfl
theorem zw_1018 : (Jvm.Cond.code ({ cls := "ConstructionLedger$Project", name := "precedes", desc := "(II)Z" } : Jvm.MethodName) prog_7_method_21_code (3 : Nat) (Option.some Jvm.ClassFile.FieldType.boolean)) ∈ zG := zK_5 58 rfl rfl
theorem zw_1019 : (Jvm.Cond.methodLink "ConstructionLedger$Project" (235 : Nat) ({ cls := "ConstructionLedger$Project", name := "rankOf", desc := "(I)I" } : Jvm.MethodName)) ∈ zG := zK_5 59 rfl rfl
theorem zw_1020 : (Jvm.Cond.instanceMethod ({ cls := "ConstructionLedger$Project", name := "rankOf", desc := "(I)I" } : Jvm.MethodName)) ∈ zG := zK_5 60 rfl rfl
theorem zw_1021 : (Jvm.Cond.selects "ConstructionLedger$Project" ({ cls := "ConstructionLedger$Project", name := "rankOf", desc := "(I)I" } : Jvm.MethodName) ({ cls := "ConstructionLedger$Project", name := "rankOf", desc := "(I)I" } : Jvm.MethodName)) ∈ zG := zK_5 61 rfl rfl
theorem zw_1022 : (Jvm.Cond.code ({ cls := "ConstructionLedger$Project", name := "rankOf", desc := "(I)I" } : Jvm.MethodName) prog_7_method_20_code (2 : Nat) (Option.some Jvm.ClassFile.FieldType.int)) ∈ zG := zK_5 62 rfl rfl
theorem zw_1023 : (Jvm.Cond.methodLink "ConstructionLedgerLaw" (258 : Nat) ({ cls := "ConstructionLedgerLaw", name := "share", desc := "(LConstructionLedger;II[J)I" } : Jvm.MethodName)) ∈ zG := zK_5 63 rfl rfl
theorem zw_1024 : (Jvm.Cond.static ({ cls := "ConstructionLedgerLaw", name := "share", desc := "(LConstructionLedger;II[J)I" } : Jvm.MethodName)) ∈ zG := zK_5 64 rfl rfl
theorem zw_1025 : (Jvm.Cond.codeWith ({ cls := "ConstructionLedgerLaw", name := "share", desc := "(LConstructionLedger;II[J)I" } : Jvm.MethodName) method_29_code (5 : Nat) (Option.some Jvm.ClassFile.FieldType.int) [((0 : Nat), (9 : Nat), (12 : Nat), (18 : Nat)), ((0 : Nat), (9 : Nat), (16 : Nat), (13 : Nat))]) ∈ zG := zK_5 65 rfl rfl
theorem zw_1026 : (Jvm.Cond.methodLink "ConstructionLedgerLaw" (96 : Nat) ({ cls := "ConstructionLedger", name := "share", desc := "(II)J" } : Jvm.MethodName)) ∈ zG := zK_5 66 rfl rfl
theorem zw_1027 : (Jvm.Cond.instanceMethod ({ cls := "ConstructionLedger", name := "share", desc := "(II)J" } : Jvm.MethodName)) ∈ zG := zK_5 67 rfl rfl
theorem zw_1028 : (Jvm.Cond.selects "ConstructionLedger" ({ cls := "ConstructionLedger", name := "share", desc := "(II)J" } : Jvm.MethodName) ({ cls := "ConstructionLedger", name := "share", desc := "(II)J" } : Jvm.MethodName)) ∈ zG := zK_5 68 rfl rfl
theorem zw_1029 : (Jvm.Cond.code ({ cls := "ConstructionLedger", name := "share", desc := "(II)J" } : Jvm.MethodName) prog_1_method_36_code (3 : Nat) (Option.some Jvm.ClassFile.FieldType.long)) ∈ zG := zK_5 69 rfl rfl
theorem zw_1030 : (Jvm.Cond.constant "ConstructionLedger" (221 : Nat) (99999999 : Int32)) ∈ zG := zK_5 70 rfl rfl
theorem zw_1031 : (Jvm.Cond.methodLink "ConstructionLedger" (222 : Nat) ({ cls := "ConstructionLedger$Project", name := "shareOf", desc := "(IJ)J" } : Jvm.MethodName)) ∈ zG := zK_5 71 rfl rfl
theorem zw_1032 : (Jvm.Cond.instanceMethod ({ cls := "ConstructionLedger$Project", name := "shareOf", desc := "(IJ)J" } : Jvm.MethodName)) ∈ zG := zK_5 72 rfl rfl
theorem zw_1033 : (Jvm.Cond.selects "ConstructionLedger$Project" ({ cls := "ConstructionLedger$Project", name := "shareOf", desc := "(IJ)J" } : Jvm.MethodName) ({ cls := "ConstructionLedger$Project", name := "shareOf", desc := "(IJ)J" } : Jvm.MethodName)) ∈ zG := zK_5 73 rfl rfl
theorem zw_1034 : (Jvm.Cond.code ({ cls := "ConstructionLedger$Project", name := "shareOf", desc := "(IJ)J" } : Jvm.MethodName) prog_7_method_24_code (9 : Nat) (Option.some Jvm.ClassFile.FieldType.long)) ∈ zG := zK_5 74 rfl rfl
theorem zw_1035 : (Jvm.Cond.methodLink "ConstructionLedger$Project" (244 : Nat) ({ cls := "ConstructionLedger$Project", name := "claimsOfRank", desc := "(I)J" } : Jvm.MethodName)) ∈ zG := zK_5 75 rfl rfl
theorem zw_1036 : (Jvm.Cond.instanceMethod ({ cls := "ConstructionLedger$Project", name := "claimsOfRank", desc := "(I)J" } : Jvm.MethodName)) ∈ zG := zK_5 76 rfl rfl
theorem zw_1037 : (Jvm.Cond.selects "ConstructionLedger$Project" ({ cls := "ConstructionLedger$Project", name := "claimsOfRank", desc := "(I)J" } : Jvm.MethodName) ({ cls := "ConstructionLedger$Project", name := "claimsOfRank", desc := "(I)J" } : Jvm.MethodName)) ∈ zG := zK_5 77 rfl rfl
theorem zw_1038 : (Jvm.Cond.code ({ cls := "ConstructionLedger$Project", name := "claimsOfRank", desc := "(I)J" } : Jvm.MethodName) prog_7_method_23_code (5 : Nat) (Option.some Jvm.ClassFile.FieldType.long)) ∈ zG := zK_5 78 rfl rfl
theorem zw_1039 : (Jvm.Cond.methodLink "ConstructionLedger$Project" (247 : Nat) ({ cls := "ConstructionLedger$Project", name := "partOf", desc := "(IJJ)J" } : Jvm.MethodName)) ∈ zG := zK_5 79 rfl rfl
theorem zw_1040 : (Jvm.Cond.instanceMethod ({ cls := "ConstructionLedger$Project", name := "partOf", desc := "(IJJ)J" } : Jvm.MethodName)) ∈ zG := zK_5 80 rfl rfl
theorem zw_1041 : (Jvm.Cond.selects "ConstructionLedger$Project" ({ cls := "ConstructionLedger$Project", name := "partOf", desc := "(IJJ)J" } : Jvm.MethodName) ({ cls := "ConstructionLedger$Project", name := "partOf", desc := "(IJJ)J" } : Jvm.MethodName)) ∈ zG := zK_5 81 rfl rfl
theorem zw_1042 : (Jvm.Cond.code ({ cls := "ConstructionLedger$Project", name := "partOf", desc := "(IJJ)J" } : Jvm.MethodName) prog_7_method_25_code (13 : Nat) (Option.some Jvm.ClassFile.FieldType.long)) ∈ zG := zK_5 82 rfl rfl
theorem zw_1043 : (Jvm.Cond.methodLink "ConstructionLedgerLaw" (261 : Nat) ({ cls := "ConstructionLedgerLaw", name := "measure", desc := "(LConstructionLedger;III[J)I" } : Jvm.MethodName)) ∈ zG := zK_5 83 rfl rfl
theorem zw_1044 : (Jvm.Cond.static ({ cls := "ConstructionLedgerLaw", name := "measure", desc := "(LConstructionLedger;III[J)I" } : Jvm.MethodName)) ∈ zG := zK_5 84 rfl rfl
theorem zw_1045 : (Jvm.Cond.codeWith ({ cls := "ConstructionLedgerLaw", name := "measure", desc := "(LConstructionLedger;III[J)I" } : Jvm.MethodName) method_30_code (6 : Nat) (Option.some Jvm.ClassFile.FieldType.int) [((0 : Nat), (12 : Nat), (15 : Nat), (18 : Nat)), ((0 : Nat), (12 : Nat), (19 : Nat), (13 : Nat))]) ∈ zG := zK_5 85 rfl rfl
theorem zw_1046 : (Jvm.Cond.methodLink "ConstructionLedgerLaw" (99 : Nat) ({ cls := "ConstructionLedger", name := "measure", desc := "(III)I" } : Jvm.MethodName)) ∈ zG := zK_5 86 rfl rfl
theorem zw_1047 : (Jvm.Cond.instanceMethod ({ cls := "ConstructionLedger", name := "measure", desc := "(III)I" } : Jvm.MethodName)) ∈ zG := zK_5 87 rfl rfl
theorem zw_1048 : (Jvm.Cond.selects "ConstructionLedger" ({ cls := "ConstructionLedger", name := "measure", desc := "(III)I" } : Jvm.MethodName) ({ cls := "ConstructionLedger", name := "measure", desc := "(III)I" } : Jvm.MethodName)) ∈ zG := zK_5 88 rfl rfl
theorem zw_1049 : (Jvm.Cond.code ({ cls := "ConstructionLedger", name := "measure", desc := "(III)I" } : Jvm.MethodName) prog_1_method_37_code (7 : Nat) (Option.some Jvm.ClassFile.FieldType.int)) ∈ zG := zK_5 89 rfl rfl
theorem zw_1050 : (Jvm.Cond.methodLink "ConstructionLedgerLaw" (265 : Nat) ({ cls := "ConstructionLedgerLaw", name := "propose", desc := "(LConstructionLedger;III[J)I" } : Jvm.MethodName)) ∈ zG := zK_5 90 rfl rfl
theorem zw_1051 : (Jvm.Cond.static ({ cls := "ConstructionLedgerLaw", name := "propose", desc := "(LConstructionLedger;III[J)I" } : Jvm.MethodName)) ∈ zG := zK_5 91 rfl rfl
theorem zw_1052 : (Jvm.Cond.codeWith ({ cls := "ConstructionLedgerLaw", name := "propose", desc := "(LConstructionLedger;III[J)I" } : Jvm.MethodName) method_31_code (6 : Nat) (Option.some Jvm.ClassFile.FieldType.int) [((0 : Nat), (12 : Nat), (15 : Nat), (18 : Nat)), ((0 : Nat), (12 : Nat), (19 : Nat), (13 : Nat)), ((0 : Nat), (12 : Nat), (23 : Nat), (106 : Nat))]) ∈ zG := zK_5 92 rfl rfl
theorem zw_1053 : (Jvm.Cond.classLink "ConstructionLedgerLaw" (106 : Nat) "java/lang/IllegalStateException") ∈ zG := zK_5 93 rfl rfl
theorem zw_1054 : (Jvm.Cond.methodLink "ConstructionLedgerLaw" (103 : Nat) ({ cls := "ConstructionLedger", name := "propose", desc := "(III)I" } : Jvm.MethodName)) ∈ zG := zK_5 94 rfl rfl
theorem zw_1055 : (Jvm.Cond.instanceMethod ({ cls := "ConstructionLedger", name := "propose", desc := "(III)I" } : Jvm.MethodName)) ∈ zG := zK_5 95 rfl rfl
theorem zw_1056 : (Jvm.Cond.selects "ConstructionLedger" ({ cls := "ConstructionLedger", name := "propose", desc := "(III)I" } : Jvm.MethodName) ({ cls := "ConstructionLedger", name := "propose", desc := "(III)I" } : Jvm.MethodName)) ∈ zG := zK_5 96 rfl rfl
theorem zw_1057 : (Jvm.Cond.code ({ cls := "ConstructionLedger", name := "propose", desc := "(III)I" } : Jvm.MethodName) prog_1_method_38_code (4 : Nat) (Option.some Jvm.ClassFile.FieldType.int)) ∈ zG := zK_5 97 rfl rfl
theorem zw_1059 : (Jvm.Cond.methodLink "ConstructionLedger" (235 : Nat) ({ cls := "ConstructionLedger", name := "checkState", desc := "(Z)V" } : Jvm.MethodName)) ∈ zG := zK_5 99 rfl rfl
theorem zw_1060 : (Jvm.Cond.static ({ cls := "ConstructionLedger", name := "checkState", desc := "(Z)V" } : Jvm.MethodName)) ∈ zG := zK_5 100 rfl rfl
theorem zw_1061 : (Jvm.Cond.code ({ cls := "ConstructionLedger", name := "checkState", desc := "(Z)V" } : Jvm.MethodName) prog_1_method_60_code (1 : Nat) (Option.none : Option Jvm.ClassFile.FieldType)) ∈ zG := zK_5 101 rfl rfl
theorem zw_1062 : (Jvm.Cond.classLink "ConstructionLedger" (301 : Nat) "java/lang/IllegalStateException") ∈ zG := zK_5 102 rfl rfl
theorem zw_1063 : (Jvm.Cond.instantiable "java/lang/IllegalStateException" (6 : Nat)) ∈ zG := zK_5 103 rfl rfl
theorem zw_1065 : (Jvm.Cond.selects "java/lang/IllegalStateException" ({ cls := "java/lang/Throwable", name := "fillInStackTrace", desc := "(I)Ljava/lang/Throwable;" } : Jvm.MethodName) ({ cls := "java/lang/Throwable", name := "fillInStackTrace", desc := "(I)Ljava/lang/Throwable;" } : Jvm.MethodName)) ∈ zG := zK_5 105 rfl rfl
theorem zw_1066 : (Jvm.Cond.lays "java/lang/IllegalStateException" "java/lang/Throwable" "cause" "Ljava/lang/Throwable;") ∈ zG := zK_5 106 rfl rfl
theorem zw_1067 : (Jvm.Cond.lays "java/lang/IllegalStateException" "java/lang/Throwable" "stackTrace" "[Ljava/lang/StackTraceElement;") ∈ zG := zK_5 107 rfl rfl
theorem zw_1068 : (Jvm.Cond.lays "java/lang/IllegalStateException" "java/lang/Throwable" "suppressedExceptions" "Ljava/util/List;") ∈ zG := zK_5 108 rfl rfl
theorem zw_1069 : (Jvm.Cond.lays "java/lang/IllegalStateException" "java/lang/Throwable" "detailMessage" "Ljava/lang/String;") ∈ zG := zK_5 109 rfl rfl
theorem zw_1070 : (Jvm.Cond.lays "java/lang/IllegalStateException" "java/lang/Throwable" "backtrace" "Ljava/lang/Object;") ∈ zG := zK_5 110 rfl rfl
theorem zw_1072 : (Jvm.Cond.methodLink "ConstructionLedger" (305 : Nat) ({ cls := "java/lang/IllegalStateException", name := "<init>", desc := "(Ljava/lang/String;)V" } : Jvm.MethodName)) ∈ zG := zK_5 112 rfl rfl
theorem zw_1073 : (Jvm.Cond.instanceMethod ({ cls := "java/lang/IllegalStateException", name := "<init>", desc := "(Ljava/lang/String;)V" } : Jvm.MethodName)) ∈ zG := zK_5 113 rfl rfl
theorem zw_1074 : (Jvm.Cond.code ({ cls := "java/lang/IllegalStateException", name := "<init>", desc := "(Ljava/lang/String;)V" } : Jvm.MethodName) prog_14_method_2_code (2 : Nat) (Option.none : Option Jvm.ClassFile.FieldType)) ∈ zG := zK_5 114 rfl rfl
theorem zw_1075 : (Jvm.Cond.methodLink "java/lang/IllegalStateException" (7 : Nat) ({ cls := "java/lang/RuntimeException", name := "<init>", desc := "(Ljava/lang/String;)V" } : Jvm.MethodName)) ∈ zG := zK_5 115 rfl rfl
theorem zw_1076 : (Jvm.Cond.lays "java/lang/IllegalStateException" "java/lang/Throwable" "depth" "I") ∈ zG := zK_5 116 rfl rfl
theorem zw_1078 : (Jvm.Cond.methodLink "ConstructionLedger" (239 : Nat) ({ cls := "ConstructionLedger$Variations", name := "add", desc := "(II)I" } : Jvm.MethodName)) ∈ zG := zK_5 118 rfl rfl
theorem zw_1079 : (Jvm.Cond.instanceMethod ({ cls := "ConstructionLedger$Variations", name := "add", desc := "(II)I" } : Jvm.MethodName)) ∈ zG := zK_5 119 rfl rfl
theorem zw_1080 : (Jvm.Cond.selects "ConstructionLedger$Variations" ({ cls := "ConstructionLedger$Variations", name := "add", desc := "(II)I" } : Jvm.MethodName) ({ cls := "ConstructionLedger$Variations", name := "add", desc := "(II)I" } : Jvm.MethodName)) ∈ zG := zK_5 120 rfl rfl
theorem zw_1081 : (Jvm.Cond.code ({ cls := "ConstructionLedger$Variations", name := "add", desc := "(II)I" } : Jvm.MethodName) prog_9_method_2_code (3 : Nat) (Option.some Jvm.ClassFile.FieldType.int)) ∈ zG := zK_5 121 rfl rfl
theorem zw_1082 : (Jvm.Cond.methodLink "ConstructionLedgerLaw" (268 : Nat) ({ cls := "ConstructionLedgerLaw", name := "approve", desc := "(LConstructionLedger;I[J)I" } : Jvm.MethodName)) ∈ zG := zK_5 122 rfl rfl
theorem zw_1083 : (Jvm.Cond.static ({ cls := "ConstructionLedgerLaw", name := "approve", desc := "(LConstructionLedger;I[J)I" } : Jvm.MethodName)) ∈ zG := zK_5 123 rfl rfl
theorem zw_1084 : (Jvm.Cond.codeWith ({ cls := "ConstructionLedgerLaw", name := "approve", desc := "(LConstructionLedger;I[J)I" } : Jvm.MethodName) method_32_code (4 : Nat) (Option.some Jvm.ClassFile.FieldType.int) [((0 : Nat), (9 : Nat), (12 : Nat), (18 : Nat)), ((0 : Nat), (9 : Nat), (15 : Nat), (106 : Nat))]) ∈ zG := zK_5 124 rfl rfl
theorem zw_1085 : (Jvm.Cond.methodLink "ConstructionLedgerLaw" (108 : Nat) ({ cls := "ConstructionLedger", name := "approve", desc := "(I)I" } : Jvm.MethodName)) ∈ zG := zK_5 125 rfl rfl
theorem zw_1086 : (Jvm.Cond.instanceMethod ({ cls := "ConstructionLedger", name := "approve", desc := "(I)I" } : Jvm.MethodName)) ∈ zG := zK_5 126 rfl rfl
theorem zw_1087 : (Jvm.Cond.selects "ConstructionLedger" ({ cls := "ConstructionLedger", name := "approve", desc := "(I)I" } : Jvm.MethodName) ({ cls := "ConstructionLedger", name := "approve", desc := "(I)I" } : Jvm.MethodName)) ∈ zG := zK_5 127 rfl rfl
theorem zw_1088 : (Jvm.Cond.code ({ cls := "ConstructionLedger", name := "approve", desc := "(I)I" } : Jvm.MethodName) prog_1_method_39_code (4 : Nat) (Option.some Jvm.ClassFile.FieldType.int)) ∈ zG := zK_5 128 rfl rfl
theorem zw_1089 : (Jvm.Cond.methodLink "ConstructionLedger" (242 : Nat) ({ cls := "ConstructionLedger$Project", name := "quantityWith", desc := "(I)I" } : Jvm.MethodName)) ∈ zG := zK_5 129 rfl rfl
theorem zw_1090 : (Jvm.Cond.methodLink "ConstructionLedgerLaw" (271 : Nat) ({ cls := "ConstructionLedgerLaw", name := "certify", desc := "(LConstructionLedger;I[J)I" } : Jvm.MethodName)) ∈ zG := zK_5 130 rfl rfl
theorem zw_1091 : (Jvm.Cond.static ({ cls := "ConstructionLedgerLaw", name := "certify", desc := "(LConstructionLedger;I[J)I" } : Jvm.MethodName)) ∈ zG := zK_5 131 rfl rfl
theorem zw_1092 : (Jvm.Cond.codeWith ({ cls := "ConstructionLedgerLaw", name := "certify", desc := "(LConstructionLedger;I[J)I" } : Jvm.MethodName) method_33_code (4 : Nat) (Option.some Jvm.ClassFile.FieldType.int) [((0 : Nat), (9 : Nat), (12 : Nat), (18 : Nat)), ((0 : Nat), (9 : Nat), (15 : Nat), (106 : Nat))]) ∈ zG := zK_5 132 rfl rfl
theorem zw_1093 : (Jvm.Cond.methodLink "ConstructionLedgerLaw" (111 : Nat) ({ cls := "ConstructionLedger", name := "certify", desc := "(I)I" } : Jvm.MethodName)) ∈ zG := zK_5 133 rfl rfl
theorem zw_1094 : (Jvm.Cond.instanceMethod ({ cls := "ConstructionLedger", name := "certify", desc := "(I)I" } : Jvm.MethodName)) ∈ zG := zK_5 134 rfl rfl
theorem zw_1095 : (Jvm.Cond.selects "ConstructionLedger" ({ cls := "ConstructionLedger", name := "certify", desc := "(I)I" } : Jvm.MethodName) ({ cls := "ConstructionLedger", name := "certify", desc := "(I)I" } : Jvm.MethodName)) ∈ zG := zK_5 135 rfl rfl
theorem zw_1096 : (Jvm.Cond.code ({ cls := "ConstructionLedger", name := "certify", desc := "(I)I" } : Jvm.MethodName) prog_1_method_40_code (6 : Nat) (Option.some Jvm.ClassFile.FieldType.int)) ∈ zG := zK_5 136 rfl rfl
theorem zw_1097 : (Jvm.Cond.methodLink "ConstructionLedger" (248 : Nat) ({ cls := "ConstructionLedger$Project", name := "amountToCertify", desc := "(I)J" } : Jvm.MethodName)) ∈ zG := zK_5 137 rfl rfl
theorem zw_1098 : (Jvm.Cond.instanceMethod ({ cls := "ConstructionLedger$Project", name := "amountToCertify", desc := "(I)J" } : Jvm.MethodName)) ∈ zG := zK_5 138 rfl rfl
theorem zw_1099 : (Jvm.Cond.selects "ConstructionLedger$Project" ({ cls := "ConstructionLedger$Project", name := "amountToCertify", desc := "(I)J" } : Jvm.MethodName) ({ cls := "ConstructionLedger$Project", name := "amountToCertify", desc := "(I)J" } : Jvm.MethodName)) ∈ zG := zK_5 139 rfl rfl
theorem zw_1100 : (Jvm.Cond.code ({ cls := "ConstructionLedger$Project", name := "amountToCertify", desc := "(I)J" } : Jvm.MethodName) prog_7_method_7_code (6 : Nat) (Option.some Jvm.ClassFile.FieldType.long)) ∈ zG := zK_5 140 rfl rfl
theorem zw_1101 : (Jvm.Cond.methodLink "ConstructionLedger$Project" (141 : Nat) ({ cls := "ConstructionLedger$Project", name := "retentionOf", desc := "(IJ)J" } : Jvm.MethodName)) ∈ zG := zK_5 141 rfl rfl
theorem zw_1102 : (Jvm.Cond.methodLink "ConstructionLedger" (254 : Nat) ({ cls := "ConstructionLedger$Certificates", name := "add", desc := "(IJII)I" } : Jvm.MethodName)) ∈ zG := zK_5 142 rfl rfl
theorem zw_1103 : (Jvm.Cond.instanceMethod ({ cls := "ConstructionLedger$Certificates", name := "add", desc := "(IJII)I" } : Jvm.MethodName)) ∈ zG := zK_5 143 rfl rfl
theorem zw_1104 : (Jvm.Cond.selects "ConstructionLedger$Certificates" ({ cls := "ConstructionLedger$Certificates", name := "add", desc := "(IJII)I" } : Jvm.MethodName) ({ cls := "ConstructionLedger$Certificates", name := "add", desc := "(IJII)I" } : Jvm.MethodName)) ∈ zG := zK_5 144 rfl rfl
theorem zw_1105 : (Jvm.Cond.code ({ cls := "ConstructionLedger$Certificates", name := "add", desc := "(IJII)I" } : Jvm.MethodName) prog_2_method_2_code (6 : Nat) (Option.some Jvm.ClassFile.FieldType.int)) ∈ zG := zK_5 145 rfl rfl
theorem zw_1106 : (Jvm.Cond.methodLink "ConstructionLedgerLaw" (274 : Nat) ({ cls := "ConstructionLedgerLaw", name := "nextStage", desc := "(LConstructionLedger;I[J)I" } : Jvm.MethodName)) ∈ zG := zK_5 146 rfl rfl
theorem zw_1107 : (Jvm.Cond.static ({ cls := "ConstructionLedgerLaw", name := "nextStage", desc := "(LConstructionLedger;I[J)I" } : Jvm.MethodName)) ∈ zG := zK_5 147 rfl rfl
theorem zw_1108 : (Jvm.Cond.codeWith ({ cls := "ConstructionLedgerLaw", name := "nextStage", desc := "(LConstructionLedger;I[J)I" } : Jvm.MethodName) method_34_code (4 : Nat) (Option.some Jvm.ClassFile.FieldType.int) [((0 : Nat), (9 : Nat), (12 : Nat), (18 : Nat)), ((0 : Nat), (9 : Nat), (15 : Nat), (106 : Nat))]) ∈ zG := zK_5 148 rfl rfl
theorem zw_1109 : (Jvm.Cond.methodLink "ConstructionLedgerLaw" (114 : Nat) ({ cls := "ConstructionLedger", name := "nextStage", desc := "(I)I" } : Jvm.MethodName)) ∈ zG := zK_5 149 rfl rfl
theorem zw_1110 : (Jvm.Cond.instanceMethod ({ cls := "ConstructionLedger", name := "nextStage", desc := "(I)I" } : Jvm.MethodName)) ∈ zG := zK_5 150 rfl rfl
theorem zw_1111 : (Jvm.Cond.selects "ConstructionLedger" ({ cls := "ConstructionLedger", name := "nextStage", desc := "(I)I" } : Jvm.MethodName) ({ cls := "ConstructionLedger", name := "nextStage", desc := "(I)I" } : Jvm.MethodName)) ∈ zG := zK_5 151 rfl rfl
theorem zw_1112 : (Jvm.Cond.code ({ cls := "ConstructionLedger", name := "nextStage", desc := "(I)I" } : Jvm.MethodName) prog_1_method_41_code (3 : Nat) (Option.some Jvm.ClassFile.FieldType.int)) ∈ zG := zK_5 152 rfl rfl
theorem zw_1113 : (Jvm.Cond.methodLink "ConstructionLedger" (257 : Nat) ({ cls := "ConstructionLedger$Items", name := "areComplete", desc := "(I)Z" } : Jvm.MethodName)) ∈ zG := zK_5 153 rfl rfl
theorem zw_1114 : (Jvm.Cond.instanceMethod ({ cls := "ConstructionLedger$Items", name := "areComplete", desc := "(I)Z" } : Jvm.MethodName)) ∈ zG := zK_5 154 rfl rfl
theorem zw_1115 : (Jvm.Cond.selects "ConstructionLedger$Items" ({ cls := "ConstructionLedger$Items", name := "areComplete", desc := "(I)Z" } : Jvm.MethodName) ({ cls := "ConstructionLedger$Items", name := "areComplete", desc := "(I)Z" } : Jvm.MethodName)) ∈ zG := zK_5 155 rfl rfl
theorem zw_1116 : (Jvm.Cond.code ({ cls := "ConstructionLedger$Items", name := "areComplete", desc := "(I)Z" } : Jvm.MethodName) prog_4_method_10_code (3 : Nat) (Option.some Jvm.ClassFile.FieldType.boolean)) ∈ zG := zK_5 156 rfl rfl
theorem zw_1117 : (Jvm.Cond.methodLink "ConstructionLedgerLaw" (277 : Nat) ({ cls := "ConstructionLedgerLaw", name := "pay", desc := "(LConstructionLedger;II[J)I" } : Jvm.MethodName)) ∈ zG := zK_5 157 rfl rfl
theorem zw_1118 : (Jvm.Cond.static ({ cls := "ConstructionLedgerLaw", name := "pay", desc := "(LConstructionLedger;II[J)I" } : Jvm.MethodName)) ∈ zG := zK_5 158 rfl rfl
theorem zw_1119 : (Jvm.Cond.codeWith ({ cls := "ConstructionLedgerLaw", name := "pay", desc := "(LConstructionLedger;II[J)I" } : Jvm.MethodName) method_35_code (5 : Nat) (Option.some Jvm.ClassFile.FieldType.int) [((0 : Nat), (9 : Nat), (12 : Nat), (18 : Nat)), ((0 : Nat), (9 : Nat), (16 : Nat), (13 : Nat)), ((0 : Nat), (9 : Nat), (20 : Nat), (106 : Nat))]) ∈ zG := zK_5 159 rfl rfl
theorem zw_1120 : (Jvm.Cond.methodLink "ConstructionLedgerLaw" (117 : Nat) ({ cls := "ConstructionLedger", name := "pay", desc := "(II)J" } : Jvm.MethodName)) ∈ zG := zK_5 160 rfl rfl
theorem zw_1121 : (Jvm.Cond.instanceMethod ({ cls := "ConstructionLedger", name := "pay", desc := "(II)J" } : Jvm.MethodName)) ∈ zG := zK_5 161 rfl rfl
theorem zw_1122 : (Jvm.Cond.selects "ConstructionLedger" ({ cls := "ConstructionLedger", name := "pay", desc := "(II)J" } : Jvm.MethodName) ({ cls := "ConstructionLedger", name := "pay", desc := "(II)J" } : Jvm.MethodName)) ∈ zG := zK_5 162 rfl rfl
theorem zw_1123 : (Jvm.Cond.code ({ cls := "ConstructionLedger", name := "pay", desc := "(II)J" } : Jvm.MethodName) prog_1_method_42_code (4 : Nat) (Option.some Jvm.ClassFile.FieldType.long)) ∈ zG := zK_5 163 rfl rfl
theorem zw_1125 : (Jvm.Cond.methodLink "ConstructionLedger" (262 : Nat) ({ cls := "ConstructionLedger$Project", name := "payerHolds", desc := "(I)J" } : Jvm.MethodName)) ∈ zG := zK_5 165 rfl rfl
theorem zw_1126 : (Jvm.Cond.methodLink "ConstructionLedger" (265 : Nat) ({ cls := "ConstructionLedger$Project", name := "transfer", desc := "(IJ)V" } : Jvm.MethodName)) ∈ zG := zK_5 166 rfl rfl
theorem zw_1127 : (Jvm.Cond.methodLink "ConstructionLedgerLaw" (280 : Nat) ({ cls := "ConstructionLedgerLaw", name := "deposit", desc := "(LConstructionLedger;I[J)I" } : Jvm.MethodName)) ∈ zG := zK_5 167 rfl rfl
theorem zw_1128 : (Jvm.Cond.static ({ cls := "ConstructionLedgerLaw", name := "deposit", desc := "(LConstructionLedger;I[J)I" } : Jvm.MethodName)) ∈ zG := zK_5 168 rfl rfl
theorem zw_1129 : (Jvm.Cond.codeWith ({ cls := "ConstructionLedgerLaw", name := "deposit", desc := "(LConstructionLedger;I[J)I" } : Jvm.MethodName) method_36_code (4 : Nat) (Option.some Jvm.ClassFile.FieldType.int) [((0 : Nat), (8 : Nat), (11 : Nat), (13 : Nat)), ((0 : Nat), (8 : Nat), (14 : Nat), (106 : Nat))]) ∈ zG := zK_5 169 rfl rfl
theorem zw_1130 : (Jvm.Cond.methodLink "ConstructionLedgerLaw" (120 : Nat) ({ cls := "ConstructionLedger", name := "deposit", desc := "(I)J" } : Jvm.MethodName)) ∈ zG := zK_5 170 rfl rfl
theorem zw_1131 : (Jvm.Cond.instanceMethod ({ cls := "ConstructionLedger", name := "deposit", desc := "(I)J" } : Jvm.MethodName)) ∈ zG := zK_5 171 rfl rfl
theorem zw_1132 : (Jvm.Cond.selects "ConstructionLedger" ({ cls := "ConstructionLedger", name := "deposit", desc := "(I)J" } : Jvm.MethodName) ({ cls := "ConstructionLedger", name := "deposit", desc := "(I)J" } : Jvm.MethodName)) ∈ zG := zK_5 172 rfl rfl
theorem zw_1133 : (Jvm.Cond.code ({ cls := "ConstructionLedger", name := "deposit", desc := "(I)J" } : Jvm.MethodName) prog_1_method_43_code (4 : Nat) (Option.some Jvm.ClassFile.FieldType.long)) ∈ zG := zK_5 173 rfl rfl
theorem zw_1134 : (Jvm.Cond.constant "ConstructionLedger" (269 : Nat) (9999999 : Int32)) ∈ zG := zK_5 174 rfl rfl
theorem zw_1135 : (Jvm.Cond.methodLink "ConstructionLedger" (270 : Nat) ({ cls := "ConstructionLedger", name := "checkProject", desc := "()V" } : Jvm.MethodName)) ∈ zG := zK_5 175 rfl rfl
theorem zw_1137 : (Jvm.Cond.instanceMethod ({ cls := "ConstructionLedger", name := "checkProject", desc := "()V" } : Jvm.MethodName)) ∈ zG := zK_5 177 rfl rfl
theorem zw_1138 : (Jvm.Cond.code ({ cls := "ConstructionLedger", name := "checkProject", desc := "()V" } : Jvm.MethodName) prog_1_method_57_code (1 : Nat) (Option.none : Option Jvm.ClassFile.FieldType)) ∈ zG := zK_5 178 rfl rfl
theorem zw_1139 : (Jvm.Cond.constantLong "ConstructionLedger" (273 : Nat) (999999999 : Int64)) ∈ zG := zK_5 179 rfl rfl
theorem zw_1140 : (Jvm.Cond.methodLink "ConstructionLedgerLaw" (283 : Nat) ({ cls := "ConstructionLedgerLaw", name := "pass", desc := "(LConstructionLedger;I[J)I" } : Jvm.MethodName)) ∈ zG := zK_5 180 rfl rfl
theorem zw_1141 : (Jvm.Cond.static ({ cls := "ConstructionLedgerLaw", name := "pass", desc := "(LConstructionLedger;I[J)I" } : Jvm.MethodName)) ∈ zG := zK_5 181 rfl rfl
theorem zw_1142 : (Jvm.Cond.codeWith ({ cls := "ConstructionLedgerLaw", name := "pass", desc := "(LConstructionLedger;I[J)I" } : Jvm.MethodName) method_37_code (4 : Nat) (Option.some Jvm.ClassFile.FieldType.int) [((0 : Nat), (9 : Nat), (12 : Nat), (13 : Nat)), ((0 : Nat), (9 : Nat), (15 : Nat), (106 : Nat))]) ∈ zG := zK_5 182 rfl rfl
theorem zw_1143 : (Jvm.Cond.methodLink "ConstructionLedgerLaw" (123 : Nat) ({ cls := "ConstructionLedger", name := "pass", desc := "(I)I" } : Jvm.MethodName)) ∈ zG := zK_5 183 rfl rfl
theorem zw_1144 : (Jvm.Cond.instanceMethod ({ cls := "ConstructionLedger", name := "pass", desc := "(I)I" } : Jvm.MethodName)) ∈ zG := zK_5 184 rfl rfl
theorem zw_1145 : (Jvm.Cond.selects "ConstructionLedger" ({ cls := "ConstructionLedger", name := "pass", desc := "(I)I" } : Jvm.MethodName) ({ cls := "ConstructionLedger", name := "pass", desc := "(I)I" } : Jvm.MethodName)) ∈ zG := zK_5 185 rfl rfl
theorem zw_1146 : (Jvm.Cond.code ({ cls := "ConstructionLedger", name := "pass", desc := "(I)I" } : Jvm.MethodName) prog_1_method_44_code (3 : Nat) (Option.some Jvm.ClassFile.FieldType.int)) ∈ zG := zK_5 186 rfl rfl
theorem zw_1147 : (Jvm.Cond.constant "ConstructionLedger" (275 : Nat) (100000 : Int32)) ∈ zG := zK_5 187 rfl rfl
theorem zw_1148 : (Jvm.Cond.methodLink "ConstructionLedgerLaw" (286 : Nat) ({ cls := "ConstructionLedgerLaw", name := "settle", desc := "(LConstructionLedger;I[J)I" } : Jvm.MethodName)) ∈ zG := zK_5 188 rfl rfl
theorem zw_1149 : (Jvm.Cond.static ({ cls := "ConstructionLedgerLaw", name := "settle", desc := "(LConstructionLedger;I[J)I" } : Jvm.MethodName)) ∈ zG := zK_5 189 rfl rfl
theorem zw_1150 : (Jvm.Cond.codeWith ({ cls := "ConstructionLedgerLaw", name := "settle", desc := "(LConstructionLedger;I[J)I" } : Jvm.MethodName) method_38_code (4 : Nat) (Option.some Jvm.ClassFile.FieldType.int) [((0 : Nat), (8 : Nat), (11 : Nat), (13 : Nat)), ((0 : Nat), (8 : Nat), (14 : Nat), (106 : Nat))]) ∈ zG := zK_5 190 rfl rfl
theorem zw_1151 : (Jvm.Cond.methodLink "ConstructionLedgerLaw" (126 : Nat) ({ cls := "ConstructionLedger", name := "settle", desc := "(I)J" } : Jvm.MethodName)) ∈ zG := zK_5 191 rfl rfl
theorem zw_1152 : (Jvm.Cond.instanceMethod ({ cls := "ConstructionLedger", name := "settle", desc := "(I)J" } : Jvm.MethodName)) ∈ zG := zK_5 192 rfl rfl
theorem zw_1153 : (Jvm.Cond.selects "ConstructionLedger" ({ cls := "ConstructionLedger", name := "settle", desc := "(I)J" } : Jvm.MethodName) ({ cls := "ConstructionLedger", name := "settle", desc := "(I)J" } : Jvm.MethodName)) ∈ zG := zK_5 193 rfl rfl
theorem zw_1154 : (Jvm.Cond.code ({ cls := "ConstructionLedger", name := "settle", desc := "(I)J" } : Jvm.MethodName) prog_1_method_45_code (2 : Nat) (Option.some Jvm.ClassFile.FieldType.long)) ∈ zG := zK_5 194 rfl rfl
theorem zw_1155 : (Jvm.Cond.methodLink "ConstructionLedgerLaw" (289 : Nat) ({ cls := "ConstructionLedgerLaw", name := "fileLien", desc := "(LConstructionLedger;I[J)I" } : Jvm.MethodName)) ∈ zG := zK_5 195 rfl rfl
theorem zw_1156 : (Jvm.Cond.static ({ cls := "ConstructionLedgerLaw", name := "fileLien", desc := "(LConstructionLedger;I[J)I" } : Jvm.MethodName)) ∈ zG := zK_5 196 rfl rfl
theorem zw_1157 : (Jvm.Cond.codeWith ({ cls := "ConstructionLedgerLaw", name := "fileLien", desc := "(LConstructionLedger;I[J)I" } : Jvm.MethodName) method_39_code (4 : Nat) (Option.some Jvm.ClassFile.FieldType.int) [((0 : Nat), (9 : Nat), (12 : Nat), (18 : Nat)), ((0 : Nat), (9 : Nat), (15 : Nat), (106 : Nat))]) ∈ zG := zK_5 197 rfl rfl
theorem zw_1158 : (Jvm.Cond.methodLink "ConstructionLedgerLaw" (129 : Nat) ({ cls := "ConstructionLedger", name := "fileLien", desc := "(I)I" } : Jvm.MethodName)) ∈ zG := zK_5 198 rfl rfl
theorem zw_1159 : (Jvm.Cond.instanceMethod ({ cls := "ConstructionLedger", name := "fileLien", desc := "(I)I" } : Jvm.MethodName)) ∈ zG := zK_5 199 rfl rfl
theorem zw_1160 : (Jvm.Cond.selects "ConstructionLedger" ({ cls := "ConstructionLedger", name := "fileLien", desc := "(I)I" } : Jvm.MethodName) ({ cls := "ConstructionLedger", name := "fileLien", desc := "(I)I" } : Jvm.MethodName)) ∈ zG := zK_5 200 rfl rfl
theorem zw_1161 : (Jvm.Cond.code ({ cls := "ConstructionLedger", name := "fileLien", desc := "(I)I" } : Jvm.MethodName) prog_1_method_46_code (5 : Nat) (Option.some Jvm.ClassFile.FieldType.int)) ∈ zG := zK_5 201 rfl rfl
theorem zw_1162 : (Jvm.Cond.methodLink "ConstructionLedger" (276 : Nat) ({ cls := "ConstructionLedger$Project", name := "hasClaim", desc := "(I)Z" } : Jvm.MethodName)) ∈ zG := zK_5 202 rfl rfl
theorem zw_1163 : (Jvm.Cond.instanceMethod ({ cls := "ConstructionLedger$Project", name := "hasClaim", desc := "(I)Z" } : Jvm.MethodName)) ∈ zG := zK_5 203 rfl rfl
theorem zw_1164 : (Jvm.Cond.selects "ConstructionLedger$Project" ({ cls := "ConstructionLedger$Project", name := "hasClaim", desc := "(I)Z" } : Jvm.MethodName) ({ cls := "ConstructionLedger$Project", name := "hasClaim", desc := "(I)Z" } : Jvm.MethodName)) ∈ zG := zK_5 204 rfl rfl
theorem zw_1165 : (Jvm.Cond.code ({ cls := "ConstructionLedger$Project", name := "hasClaim", desc := "(I)Z" } : Jvm.MethodName) prog_7_method_19_code (3 : Nat) (Option.some Jvm.ClassFile.FieldType.boolean)) ∈ zG := zK_5 205 rfl rfl
theorem zw_1166 : (Jvm.Cond.methodLink "ConstructionLedger" (279 : Nat) ({ cls := "ConstructionLedger$Liens", name := "add", desc := "(IJI)I" } : Jvm.MethodName)) ∈ zG := zK_5 206 rfl rfl
theorem zw_1167 : (Jvm.Cond.instanceMethod ({ cls := "ConstructionLedger$Liens", name := "add", desc := "(IJI)I" } : Jvm.MethodName)) ∈ zG := zK_5 207 rfl rfl
theorem zw_1168 : (Jvm.Cond.selects "ConstructionLedger$Liens" ({ cls := "ConstructionLedger$Liens", name := "add", desc := "(IJI)I" } : Jvm.MethodName) ({ cls := "ConstructionLedger$Liens", name := "add", desc := "(IJI)I" } : Jvm.MethodName)) ∈ zG := zK_5 208 rfl rfl
theorem zw_1169 : (Jvm.Cond.code ({ cls := "ConstructionLedger$Liens", name := "add", desc := "(IJI)I" } : Jvm.MethodName) prog_5_method_2_code (5 : Nat) (Option.some Jvm.ClassFile.FieldType.int)) ∈ zG := zK_5 209 rfl rfl
theorem zw_1170 : (Jvm.Cond.methodLink "ConstructionLedgerLaw" (292 : Nat) ({ cls := "ConstructionLedgerLaw", name := "withdrawLien", desc := "(LConstructionLedger;I[J)I" } : Jvm.MethodName)) ∈ zG := zK_5 210 rfl rfl
theorem zw_1171 : (Jvm.Cond.static ({ cls := "ConstructionLedgerLaw", name := "withdrawLien", desc := "(LConstructionLedger;I[J)I" } : Jvm.MethodName)) ∈ zG := zK_5 211 rfl rfl
theorem zw_1172 : (Jvm.Cond.codeWith ({ cls := "ConstructionLedgerLaw", name := "withdrawLien", desc := "(LConstructionLedger;I[J)I" } : Jvm.MethodName) method_40_code (4 : Nat) (Option.some Jvm.ClassFile.FieldType.int) [((0 : Nat), (8 : Nat), (11 : Nat), (18 : Nat)), ((0 : Nat), (8 : Nat), (14 : Nat), (106 : Nat))]) ∈ zG := zK_5 212 rfl rfl
theorem zw_1173 : (Jvm.Cond.methodLink "ConstructionLedgerLaw" (132 : Nat) ({ cls := "ConstructionLedger", name := "withdrawLien", desc := "(I)J" } : Jvm.MethodName)) ∈ zG := zK_5 213 rfl rfl
theorem zw_1174 : (Jvm.Cond.instanceMethod ({ cls := "ConstructionLedger", name := "withdrawLien", desc := "(I)J" } : Jvm.MethodName)) ∈ zG := zK_5 214 rfl rfl
theorem zw_1175 : (Jvm.Cond.selects "ConstructionLedger" ({ cls := "ConstructionLedger", name := "withdrawLien", desc := "(I)J" } : Jvm.MethodName) ({ cls := "ConstructionLedger", name := "withdrawLien", desc := "(I)J" } : Jvm.MethodName)) ∈ zG := zK_5 215 rfl rfl
theorem zw_1176 : (Jvm.Cond.code ({ cls := "ConstructionLedger", name := "withdrawLien", desc := "(I)J" } : Jvm.MethodName) prog_1_method_47_code (4 : Nat) (Option.some Jvm.ClassFile.FieldType.long)) ∈ zG := zK_5 216 rfl rfl
theorem zw_1177 : (Jvm.Cond.classLink "ConstructionLedgerLaw" (136 : Nat) "ConstructionLedgerModel") ∈ zG := zK_5 217 rfl rfl
theorem zw_1178 : (Jvm.Cond.instantiable "ConstructionLedgerModel" (17 : Nat)) ∈ zG := zK_5 218 rfl rfl
theorem zw_1179 : (Jvm.Cond.methodLink "ConstructionLedgerLaw" (138 : Nat) ({ cls := "ConstructionLedgerModel", name := "<init>", desc := "()V" } : Jvm.MethodName)) ∈ zG := zK_5 219 rfl rfl
theorem zw_1180 : (Jvm.Cond.instanceMethod ({ cls := "ConstructionLedgerModel", name := "<init>", desc := "()V" } : Jvm.MethodName)) ∈ zG := zK_5 220 rfl rfl
theorem zw_1181 : (Jvm.Cond.code ({ cls := "ConstructionLedgerModel", name := "<init>", desc := "()V" } : Jvm.MethodName) prog_11_method_1_code (1 : Nat) (Option.none : Option Jvm.ClassFile.FieldType)) ∈ zG := zK_5 221 rfl rfl
theorem zw_1182 : (Jvm.Cond.methodLink "ConstructionLedgerModel" (1 : Nat) ({ cls := "java/lang/Object", name := "<init>", desc := "()V" } : Jvm.MethodName)) ∈ zG := zK_5 222 rfl rfl
theorem zw_1183 : (Jvm.Cond.constantLong "ConstructionLedgerModel" (30 : Nat) (25 : Int64)) ∈ zG := zK_5 223 rfl rfl
theorem zw_1184 : (Jvm.Cond.fieldLink "ConstructionLedgerModel" (32 : Nat) "ConstructionLedgerModel" "thrown" "I") ∈ zG := zK_5 224 rfl rfl
theorem zw_1185 : (Jvm.Cond.fieldLink "ConstructionLedgerModel" (9 : Nat) "ConstructionLedgerModel" "rows" "[J") ∈ zG := zK_5 225 rfl rfl
theorem zw_1186 : (Jvm.Cond.fieldLink "ConstructionLedgerModel" (13 : Nat) "ConstructionLedgerModel" "read" "[J") ∈ zG := zK_5 226 rfl rfl
theorem zw_1187 : (Jvm.Cond.fieldLink "ConstructionLedgerModel" (16 : Nat) "ConstructionLedgerModel" "aside" "[J") ∈ zG := zK_5 227 rfl rfl
theorem zw_1188 : (Jvm.Cond.fieldLink "ConstructionLedgerModel" (35 : Nat) "ConstructionLedgerModel" "now" "I") ∈ zG := zK_5 228 rfl rfl
theorem zw_1189 : (Jvm.Cond.fieldLink "ConstructionLedgerModel" (42 : Nat) "ConstructionLedgerModel" "undoable" "I") ∈ zG := zK_5 229 rfl rfl
theorem zw_1190 : (Jvm.Cond.fieldLink "ConstructionLedgerModel" (19 : Nat) "ConstructionLedgerModel" "text" "[I") ∈ zG := zK_5 230 rfl rfl
theorem zw_1191 : (Jvm.Cond.fieldLink "ConstructionLedgerModel" (45 : Nat) "ConstructionLedgerModel" "bytes" "I") ∈ zG := zK_5 231 rfl rfl
theorem zw_1192 : (Jvm.Cond.fieldLink "ConstructionLedgerModel" (23 : Nat) "ConstructionLedgerModel" "errorAt" "I") ∈ zG := zK_5 232 rfl rfl
theorem zw_1193 : (Jvm.Cond.fieldLink "ConstructionLedgerModel" (57 : Nat) "ConstructionLedgerModel" "size" "I") ∈ zG := zK_5 233 rfl rfl
theorem zw_1194 : (Jvm.Cond.fieldLink "ConstructionLedgerModel" (54 : Nat) "ConstructionLedgerModel" "next" "I") ∈ zG := zK_5 234 rfl rfl
theorem zw_1195 : (Jvm.Cond.fieldLink "ConstructionLedgerModel" (48 : Nat) "ConstructionLedgerModel" "error" "I") ∈ zG := zK_5 235 rfl rfl
theorem zw_1196 : (Jvm.Cond.fieldLink "ConstructionLedgerModel" (51 : Nat) "ConstructionLedgerModel" "place" "I") ∈ zG := zK_5 236 rfl rfl
theorem zw_1197 : (Jvm.Cond.fieldLink "ConstructionLedgerModel" (88 : Nat) "ConstructionLedgerModel" "began" "I") ∈ zG := zK_5 237 rfl rfl
theorem zw_1198 : (Jvm.Cond.fieldLink "ConstructionLedgerModel" (113 : Nat) "ConstructionLedgerModel" "nested" "I") ∈ zG := zK_5 238 rfl rfl
theorem zw_1199 : (Jvm.Cond.fieldLink "ConstructionLedgerModel" (132 : Nat) "ConstructionLedgerModel" "once" "I") ∈ zG := zK_5 239 rfl rfl
theorem zw_1200 : (Jvm.Cond.fieldLink "ConstructionLedgerModel" (27 : Nat) "ConstructionLedgerModel" "pile" "[J") ∈ zG := zK_6 0 rfl rfl
theorem zw_1201 : (Jvm.Cond.lays "ConstructionLedgerModel" "ConstructionLedgerModel" "thrown" "I") ∈ zG := zK_6 1 rfl rfl
theorem zw_1203 : (Jvm.Cond.laysFinal "ConstructionLedgerModel" "ConstructionLedgerModel" "rows" "[J") ∈ zG := zK_6 3 rfl rfl
theorem zw_1205 : (Jvm.Cond.laysFinal "ConstructionLedgerModel" "ConstructionLedgerModel" "read" "[J") ∈ zG := zK_6 5 rfl rfl
theorem zw_1207 : (Jvm.Cond.laysFinal "ConstructionLedgerModel" "ConstructionLedgerModel" "aside" "[J") ∈ zG := zK_6 7 rfl rfl
theorem zw_1209 : (Jvm.Cond.lays "ConstructionLedgerModel" "ConstructionLedgerModel" "now" "I") ∈ zG := zK_6 9 rfl rfl
theorem zw_1211 : (Jvm.Cond.lays "ConstructionLedgerModel" "ConstructionLedgerModel" "undoable" "I") ∈ zG := zK_6 11 rfl rfl
theorem zw_1213 : (Jvm.Cond.laysFinal "ConstructionLedgerModel" "ConstructionLedgerModel" "text" "[I") ∈ zG := zK_6 13 rfl rfl
theorem zw_1215 : (Jvm.Cond.lays "ConstructionLedgerModel" "ConstructionLedgerModel" "bytes" "I") ∈ zG := zK_6 15 rfl rfl
theorem zw_1217 : (Jvm.Cond.lays "ConstructionLedgerModel" "ConstructionLedgerModel" "errorAt" "I") ∈ zG := zK_6 17 rfl rfl
theorem zw_1219 : (Jvm.Cond.lays "ConstructionLedgerModel" "ConstructionLedgerModel" "size" "I") ∈ zG := zK_6 19 rfl rfl
theorem zw_1221 : (Jvm.Cond.lays "ConstructionLedgerModel" "ConstructionLedgerModel" "next" "I") ∈ zG := zK_6 21 rfl rfl
theorem zw_1223 : (Jvm.Cond.lays "ConstructionLedgerModel" "ConstructionLedgerModel" "error" "I") ∈ zG := zK_6 23 rfl rfl
theorem zw_1225 : (Jvm.Cond.lays "ConstructionLedgerModel" "ConstructionLedgerModel" "place" "I") ∈ zG := zK_6 25 rfl rfl
theorem zw_1227 : (Jvm.Cond.lays "ConstructionLedgerModel" "ConstructionLedgerModel" "began" "I") ∈ zG := zK_6 27 rfl rfl
theorem zw_1229 : (Jvm.Cond.lays "ConstructionLedgerModel" "ConstructionLedgerModel" "nested" "I") ∈ zG := zK_6 29 rfl rfl
theorem zw_1231 : (Jvm.Cond.lays "ConstructionLedgerModel" "ConstructionLedgerModel" "once" "I") ∈ zG := zK_6 31 rfl rfl
theorem zw_1233 : (Jvm.Cond.laysFinal "ConstructionLedgerModel" "ConstructionLedgerModel" "pile" "[J") ∈ zG := zK_6 33 rfl rfl
theorem zw_1236 : (Jvm.Cond.methodLink "ConstructionLedgerLaw" (150 : Nat) ({ cls := "ConstructionLedgerModel", name := "thrown", desc := "()I" } : Jvm.MethodName)) ∈ zG := zK_6 36 rfl rfl
theorem zw_1237 : (Jvm.Cond.instanceMethod ({ cls := "ConstructionLedgerModel", name := "thrown", desc := "()I" } : Jvm.MethodName)) ∈ zG := zK_6 37 rfl rfl
theorem zw_1238 : (Jvm.Cond.selects "ConstructionLedgerModel" ({ cls := "ConstructionLedgerModel", name := "thrown", desc := "()I" } : Jvm.MethodName) ({ cls := "ConstructionLedgerModel", name := "thrown", desc := "()I" } : Jvm.MethodName)) ∈ zG := zK_6 38 rfl rfl
theorem zw_1239 : (Jvm.Cond.code ({ cls := "ConstructionLedgerModel", name := "thrown", desc := "()I" } : Jvm.MethodName) prog_11_method_2_code (1 : Nat) (Option.some Jvm.ClassFile.FieldType.int)) ∈ zG := zK_6 39 rfl rfl
theorem zw_1240 : (Jvm.Cond.methodLink "ConstructionLedgerLaw" (143 : Nat) ({ cls := "ConstructionLedgerModel", name := "append", desc := "(IIIII)I" } : Jvm.MethodName)) ∈ zG := zK_6 40 rfl rfl
theorem zw_1241 : (Jvm.Cond.instanceMethod ({ cls := "ConstructionLedgerModel", name := "append", desc := "(IIIII)I" } : Jvm.MethodName)) ∈ zG := zK_6 41 rfl rfl
theorem zw_1242 : (Jvm.Cond.selects "ConstructionLedgerModel" ({ cls := "ConstructionLedgerModel", name := "append", desc := "(IIIII)I" } : Jvm.MethodName) ({ cls := "ConstructionLedgerModel", name := "append", desc := "(IIIII)I" } : Jvm.MethodName)) ∈ zG := zK_6 42 rfl rfl
theorem zw_1243 : (Jvm.Cond.code ({ cls := "ConstructionLedgerModel", name := "append", desc := "(IIIII)I" } : Jvm.MethodName) prog_11_method_10_code (8 : Nat) (Option.some Jvm.ClassFile.FieldType.int)) ∈ zG := zK_6 43 rfl rfl
theorem zw_1244 : (Jvm.Cond.methodLink "ConstructionLedgerLaw" (149 : Nat) ({ cls := "ConstructionLedgerModel", name := "load", desc := "(I)I" } : Jvm.MethodName)) ∈ zG := zK_6 44 rfl rfl
theorem zw_1245 : (Jvm.Cond.instanceMethod ({ cls := "ConstructionLedgerModel", name := "load", desc := "(I)I" } : Jvm.MethodName)) ∈ zG := zK_6 45 rfl rfl
theorem zw_1246 : (Jvm.Cond.selects "ConstructionLedgerModel" ({ cls := "ConstructionLedgerModel", name := "load", desc := "(I)I" } : Jvm.MethodName) ({ cls := "ConstructionLedgerModel", name := "load", desc := "(I)I" } : Jvm.MethodName)) ∈ zG := zK_6 46 rfl rfl
theorem zw_1247 : (Jvm.Cond.code ({ cls := "ConstructionLedgerModel", name := "load", desc := "(I)I" } : Jvm.MethodName) prog_11_method_29_code (3 : Nat) (Option.some Jvm.ClassFile.FieldType.int)) ∈ zG := zK_6 47 rfl rfl
theorem zw_1248 : (Jvm.Cond.methodLink "ConstructionLedgerModel" (98 : Nat) ({ cls := "ConstructionLedgerModel", name := "isIn", desc := "(JJJ)Z" } : Jvm.MethodName)) ∈ zG := zK_6 48 rfl rfl
theorem zw_1249 : (Jvm.Cond.static ({ cls := "ConstructionLedgerModel", name := "isIn", desc := "(JJJ)Z" } : Jvm.MethodName)) ∈ zG := zK_6 49 rfl rfl
theorem zw_1250 : (Jvm.Cond.code ({ cls := "ConstructionLedgerModel", name := "isIn", desc := "(JJJ)Z" } : Jvm.MethodName) prog_11_method_3_code (6 : Nat) (Option.some Jvm.ClassFile.FieldType.boolean)) ∈ zG := zK_6 50 rfl rfl
theorem zw_1251 : (Jvm.Cond.methodLink "ConstructionLedgerModel" (173 : Nat) ({ cls := "ConstructionLedgerModel", name := "right", desc := "(ZI)Z" } : Jvm.MethodName)) ∈ zG := zK_6 51 rfl rfl
theorem zw_1253 : (Jvm.Cond.instanceMethod ({ cls := "ConstructionLedgerModel", name := "right", desc := "(ZI)Z" } : Jvm.MethodName)) ∈ zG := zK_6 53 rfl rfl
theorem zw_1254 : (Jvm.Cond.code ({ cls := "ConstructionLedgerModel", name := "right", desc := "(ZI)Z" } : Jvm.MethodName) prog_11_method_9_code (3 : Nat) (Option.some Jvm.ClassFile.FieldType.boolean)) ∈ zG := zK_6 54 rfl rfl
theorem zw_1255 : (Jvm.Cond.methodLink "ConstructionLedgerModel" (177 : Nat) ({ cls := "ConstructionLedgerModel", name := "texts", desc := "()V" } : Jvm.MethodName)) ∈ zG := zK_6 55 rfl rfl
theorem zw_1257 : (Jvm.Cond.instanceMethod ({ cls := "ConstructionLedgerModel", name := "texts", desc := "()V" } : Jvm.MethodName)) ∈ zG := zK_6 57 rfl rfl
theorem zw_1258 : (Jvm.Cond.code ({ cls := "ConstructionLedgerModel", name := "texts", desc := "()V" } : Jvm.MethodName) prog_11_method_28_code (2 : Nat) (Option.none : Option Jvm.ClassFile.FieldType)) ∈ zG := zK_6 58 rfl rfl
theorem zw_1260 : (Jvm.Cond.methodLink "ConstructionLedgerModel" (161 : Nat) ({ cls := "ConstructionLedgerModel", name := "needs", desc := "(Ljava/lang/String;)V" } : Jvm.MethodName)) ∈ zG := zK_6 60 rfl rfl
theorem zw_1262 : (Jvm.Cond.instanceMethod ({ cls := "ConstructionLedgerModel", name := "needs", desc := "(Ljava/lang/String;)V" } : Jvm.MethodName)) ∈ zG := zK_6 62 rfl rfl
theorem zw_1263 : (Jvm.Cond.code ({ cls := "ConstructionLedgerModel", name := "needs", desc := "(Ljava/lang/String;)V" } : Jvm.MethodName) prog_11_method_15_code (2 : Nat) (Option.none : Option Jvm.ClassFile.FieldType)) ∈ zG := zK_6 63 rfl rfl
theorem zw_1264 : (Jvm.Cond.methodLink "ConstructionLedgerModel" (77 : Nat) ({ cls := "ConstructionLedgerModel", name := "takes", desc := "(Ljava/lang/String;)Z" } : Jvm.MethodName)) ∈ zG := zK_6 64 rfl rfl
theorem zw_1266 : (Jvm.Cond.instanceMethod ({ cls := "ConstructionLedgerModel", name := "takes", desc := "(Ljava/lang/String;)Z" } : Jvm.MethodName)) ∈ zG := zK_6 66 rfl rfl
theorem zw_1267 : (Jvm.Cond.code ({ cls := "ConstructionLedgerModel", name := "takes", desc := "(Ljava/lang/String;)Z" } : Jvm.MethodName) prog_11_method_14_code (2 : Nat) (Option.some Jvm.ClassFile.FieldType.boolean)) ∈ zG := zK_6 67 rfl rfl
theorem zw_1268 : (Jvm.Cond.methodLink "ConstructionLedgerModel" (73 : Nat) ({ cls := "ConstructionLedgerModel", name := "isWord", desc := "(Ljava/lang/String;)Z" } : Jvm.MethodName)) ∈ zG := zK_6 68 rfl rfl
theorem zw_1270 : (Jvm.Cond.instanceMethod ({ cls := "ConstructionLedgerModel", name := "isWord", desc := "(Ljava/lang/String;)Z" } : Jvm.MethodName)) ∈ zG := zK_6 70 rfl rfl
theorem zw_1271 : (Jvm.Cond.code ({ cls := "ConstructionLedgerModel", name := "isWord", desc := "(Ljava/lang/String;)Z" } : Jvm.MethodName) prog_11_method_13_code (5 : Nat) (Option.some Jvm.ClassFile.FieldType.boolean)) ∈ zG := zK_6 71 rfl rfl
theorem zw_1272 : (Jvm.Cond.methodLink "ConstructionLedgerModel" (60 : Nat) ({ cls := "ConstructionLedgerModel", name := "sees", desc := "()I" } : Jvm.MethodName)) ∈ zG := zK_6 72 rfl rfl
theorem zw_1274 : (Jvm.Cond.instanceMethod ({ cls := "ConstructionLedgerModel", name := "sees", desc := "()I" } : Jvm.MethodName)) ∈ zG := zK_6 74 rfl rfl
theorem zw_1275 : (Jvm.Cond.code ({ cls := "ConstructionLedgerModel", name := "sees", desc := "()I" } : Jvm.MethodName) prog_11_method_12_code (1 : Nat) (Option.some Jvm.ClassFile.FieldType.int)) ∈ zG := zK_6 75 rfl rfl
theorem zw_1276 : (Jvm.Cond.methodLink "ConstructionLedgerModel" (64 : Nat) ({ cls := "java/lang/String", name := "length", desc := "()I" } : Jvm.MethodName)) ∈ zG := zK_6 76 rfl rfl
theorem zw_1277 : (Jvm.Cond.methodLink "ConstructionLedgerModel" (69 : Nat) ({ cls := "java/lang/String", name := "charAt", desc := "(I)C" } : Jvm.MethodName)) ∈ zG := zK_6 77 rfl rfl
theorem zw_1278 : (Jvm.Cond.methodLink "ConstructionLedgerModel" (80 : Nat) ({ cls := "ConstructionLedgerModel", name := "fails", desc := "(II)V" } : Jvm.MethodName)) ∈ zG := zK_6 78 rfl rfl
theorem zw_1280 : (Jvm.Cond.instanceMethod ({ cls := "ConstructionLedgerModel", name := "fails", desc := "(II)V" } : Jvm.MethodName)) ∈ zG := zK_6 80 rfl rfl
theorem zw_1281 : (Jvm.Cond.code ({ cls := "ConstructionLedgerModel", name := "fails", desc := "(II)V" } : Jvm.MethodName) prog_11_method_11_code (3 : Nat) (Option.none : Option Jvm.ClassFile.FieldType)) ∈ zG := zK_6 81 rfl rfl
theorem zw_1282 : (Jvm.Cond.constant "ConstructionLedgerModel" (165 : Nat) (9999999 : Int32)) ∈ zG := zK_6 82 rfl rfl
theorem zw_1283 : (Jvm.Cond.methodLink "ConstructionLedgerModel" (123 : Nat) ({ cls := "ConstructionLedgerModel", name := "reads", desc := "(II)I" } : Jvm.MethodName)) ∈ zG := zK_6 83 rfl rfl
theorem zw_1285 : (Jvm.Cond.instanceMethod ({ cls := "ConstructionLedgerModel", name := "reads", desc := "(II)I" } : Jvm.MethodName)) ∈ zG := zK_6 85 rfl rfl
theorem zw_1286 : (Jvm.Cond.code ({ cls := "ConstructionLedgerModel", name := "reads", desc := "(II)I" } : Jvm.MethodName) prog_11_method_18_code (4 : Nat) (Option.some Jvm.ClassFile.FieldType.int)) ∈ zG := zK_6 86 rfl rfl
theorem zw_1287 : (Jvm.Cond.methodLink "ConstructionLedgerModel" (84 : Nat) ({ cls := "ConstructionLedgerModel", name := "isDigit", desc := "()Z" } : Jvm.MethodName)) ∈ zG := zK_6 87 rfl rfl
theorem zw_1289 : (Jvm.Cond.instanceMethod ({ cls := "ConstructionLedgerModel", name := "isDigit", desc := "()Z" } : Jvm.MethodName)) ∈ zG := zK_6 89 rfl rfl
theorem zw_1290 : (Jvm.Cond.code ({ cls := "ConstructionLedgerModel", name := "isDigit", desc := "()Z" } : Jvm.MethodName) prog_11_method_17_code (1 : Nat) (Option.some Jvm.ClassFile.FieldType.boolean)) ∈ zG := zK_6 90 rfl rfl
theorem zw_1291 : (Jvm.Cond.constant "ConstructionLedgerModel" (91 : Nat) (100000000 : Int32)) ∈ zG := zK_6 91 rfl rfl
theorem zw_1292 : (Jvm.Cond.methodLink "ConstructionLedgerModel" (92 : Nat) ({ cls := "java/lang/Math", name := "min", desc := "(II)I" } : Jvm.MethodName)) ∈ zG := zK_6 92 rfl rfl
theorem zw_1293 : (Jvm.Cond.methodLink "ConstructionLedgerModel" (119 : Nat) ({ cls := "ConstructionLedgerModel", name := "wants", desc := "(I)V" } : Jvm.MethodName)) ∈ zG := zK_6 93 rfl rfl
theorem zw_1295 : (Jvm.Cond.instanceMethod ({ cls := "ConstructionLedgerModel", name := "wants", desc := "(I)V" } : Jvm.MethodName)) ∈ zG := zK_6 95 rfl rfl
theorem zw_1296 : (Jvm.Cond.code ({ cls := "ConstructionLedgerModel", name := "wants", desc := "(I)V" } : Jvm.MethodName) prog_11_method_16_code (2 : Nat) (Option.none : Option Jvm.ClassFile.FieldType)) ∈ zG := zK_6 96 rfl rfl
theorem zw_1298 : (Jvm.Cond.constantLong "ConstructionLedgerModel" (168 : Nat) (-1 : Int64)) ∈ zG := zK_6 98 rfl rfl
theorem zw_1299 : (Jvm.Cond.methodLink "ConstructionLedgerModel" (135 : Nat) ({ cls := "ConstructionLedgerModel", name := "terms", desc := "(I)V" } : Jvm.MethodName)) ∈ zG := zK_6 99 rfl rfl
theorem zw_1301 : (Jvm.Cond.instanceMethod ({ cls := "ConstructionLedgerModel", name := "terms", desc := "(I)V" } : Jvm.MethodName)) ∈ zG := zK_6 101 rfl rfl
theorem zw_1302 : (Jvm.Cond.code ({ cls := "ConstructionLedgerModel", name := "terms", desc := "(I)V" } : Jvm.MethodName) prog_11_method_24_code (2 : Nat) (Option.none : Option Jvm.ClassFile.FieldType)) ∈ zG := zK_6 102 rfl rfl
theorem zw_1303 : (Jvm.Cond.methodLink "ConstructionLedgerModel" (170 : Nat) ({ cls := "ConstructionLedgerModel", name := "statement", desc := "()V" } : Jvm.MethodName)) ∈ zG := zK_6 103 rfl rfl
theorem zw_1305 : (Jvm.Cond.instanceMethod ({ cls := "ConstructionLedgerModel", name := "statement", desc := "()V" } : Jvm.MethodName)) ∈ zG := zK_6 105 rfl rfl
theorem zw_1306 : (Jvm.Cond.code ({ cls := "ConstructionLedgerModel", name := "statement", desc := "()V" } : Jvm.MethodName) prog_11_method_27_code (2 : Nat) (Option.none : Option Jvm.ClassFile.FieldType)) ∈ zG := zK_6 106 rfl rfl
theorem zw_1308 : (Jvm.Cond.methodLink "ConstructionLedgerModel" (144 : Nat) ({ cls := "ConstructionLedgerModel", name := "subLine", desc := "(I)V" } : Jvm.MethodName)) ∈ zG := zK_6 108 rfl rfl
theorem zw_1310 : (Jvm.Cond.instanceMethod ({ cls := "ConstructionLedgerModel", name := "subLine", desc := "(I)V" } : Jvm.MethodName)) ∈ zG := zK_6 110 rfl rfl
theorem zw_1311 : (Jvm.Cond.code ({ cls := "ConstructionLedgerModel", name := "subLine", desc := "(I)V" } : Jvm.MethodName) prog_11_method_25_code (4 : Nat) (Option.none : Option Jvm.ClassFile.FieldType)) ∈ zG := zK_6 111 rfl rfl
theorem zw_1314 : (Jvm.Cond.methodLink "ConstructionLedgerModel" (149 : Nat) ({ cls := "ConstructionLedgerModel", name := "itemLine", desc := "()V" } : Jvm.MethodName)) ∈ zG := zK_6 114 rfl rfl
theorem zw_1316 : (Jvm.Cond.instanceMethod ({ cls := "ConstructionLedgerModel", name := "itemLine", desc := "()V" } : Jvm.MethodName)) ∈ zG := zK_6 116 rfl rfl
theorem zw_1317 : (Jvm.Cond.code ({ cls := "ConstructionLedgerModel", name := "itemLine", desc := "()V" } : Jvm.MethodName) prog_11_method_26_code (3 : Nat) (Option.none : Option Jvm.ClassFile.FieldType)) ∈ zG := zK_6 117 rfl rfl
theorem zw_1318 : (Jvm.Cond.constantLong "ConstructionLedgerModel" (140 : Nat) (6 : Int64)) ∈ zG := zK_6 118 rfl rfl
theorem zw_1320 : (Jvm.Cond.methodLink "ConstructionLedgerModel" (154 : Nat) ({ cls := "ConstructionLedgerModel", name := "first", desc := "(II)Z" } : Jvm.MethodName)) ∈ zG := zK_6 120 rfl rfl
theorem zw_1322 : (Jvm.Cond.instanceMethod ({ cls := "ConstructionLedgerModel", name := "first", desc := "(II)Z" } : Jvm.MethodName)) ∈ zG := zK_6 122 rfl rfl
theorem zw_1323 : (Jvm.Cond.code ({ cls := "ConstructionLedgerModel", name := "first", desc := "(II)Z" } : Jvm.MethodName) prog_11_method_23_code (3 : Nat) (Option.some Jvm.ClassFile.FieldType.boolean)) ∈ zG := zK_6 123 rfl rfl
theorem zw_1325 : (Jvm.Cond.methodLink "ConstructionLedgerModel" (116 : Nat) ({ cls := "ConstructionLedgerModel", name := "sum", desc := "()V" } : Jvm.MethodName)) ∈ zG := zK_6 125 rfl rfl
theorem zw_1327 : (Jvm.Cond.instanceMethod ({ cls := "ConstructionLedgerModel", name := "sum", desc := "()V" } : Jvm.MethodName)) ∈ zG := zK_6 127 rfl rfl
theorem zw_1328 : (Jvm.Cond.code ({ cls := "ConstructionLedgerModel", name := "sum", desc := "()V" } : Jvm.MethodName) prog_11_method_20_code (2 : Nat) (Option.none : Option Jvm.ClassFile.FieldType)) ∈ zG := zK_6 128 rfl rfl
theorem zw_1329 : (Jvm.Cond.methodLink "ConstructionLedgerModel" (104 : Nat) ({ cls := "ConstructionLedgerModel", name := "term", desc := "()V" } : Jvm.MethodName)) ∈ zG := zK_6 129 rfl rfl
theorem zw_1331 : (Jvm.Cond.instanceMethod ({ cls := "ConstructionLedgerModel", name := "term", desc := "()V" } : Jvm.MethodName)) ∈ zG := zK_6 131 rfl rfl
theorem zw_1332 : (Jvm.Cond.code ({ cls := "ConstructionLedgerModel", name := "term", desc := "()V" } : Jvm.MethodName) prog_11_method_21_code (2 : Nat) (Option.none : Option Jvm.ClassFile.FieldType)) ∈ zG := zK_6 132 rfl rfl
theorem zw_1333 : (Jvm.Cond.methodLink "ConstructionLedgerModel" (110 : Nat) ({ cls := "ConstructionLedgerModel", name := "factor", desc := "()V" } : Jvm.MethodName)) ∈ zG := zK_6 133 rfl rfl
theorem zw_1335 : (Jvm.Cond.instanceMethod ({ cls := "ConstructionLedgerModel", name := "factor", desc := "()V" } : Jvm.MethodName)) ∈ zG := zK_6 135 rfl rfl
theorem zw_1336 : (Jvm.Cond.code ({ cls := "ConstructionLedgerModel", name := "factor", desc := "()V" } : Jvm.MethodName) prog_11_method_22_code (1 : Nat) (Option.none : Option Jvm.ClassFile.FieldType)) ∈ zG := zK_6 136 rfl rfl
theorem zw_1337 : (Jvm.Cond.methodLink "ConstructionLedgerModel" (107 : Nat) ({ cls := "ConstructionLedgerModel", name := "codes", desc := "(II)V" } : Jvm.MethodName)) ∈ zG := zK_6 137 rfl rfl
theorem zw_1339 : (Jvm.Cond.instanceMethod ({ cls := "ConstructionLedgerModel", name := "codes", desc := "(II)V" } : Jvm.MethodName)) ∈ zG := zK_6 139 rfl rfl
theorem zw_1340 : (Jvm.Cond.code ({ cls := "ConstructionLedgerModel", name := "codes", desc := "(II)V" } : Jvm.MethodName) prog_11_method_19_code (3 : Nat) (Option.none : Option Jvm.ClassFile.FieldType)) ∈ zG := zK_6 140 rfl rfl
theorem zw_1341 : (Jvm.Cond.constantLong "ConstructionLedgerModel" (102 : Nat) (2 : Int64)) ∈ zG := zK_6 141 rfl rfl
theorem zw_1345 : (Jvm.Cond.methodLink "ConstructionLedgerModel" (180 : Nat) ({ cls := "ConstructionLedgerModel", name := "change", desc := "()V" } : Jvm.MethodName)) ∈ zG := zK_6 145 rfl rfl
theorem zw_1347 : (Jvm.Cond.instanceMethod ({ cls := "ConstructionLedgerModel", name := "change", desc := "()V" } : Jvm.MethodName)) ∈ zG := zK_6 147 rfl rfl
theorem zw_1348 : (Jvm.Cond.code ({ cls := "ConstructionLedgerModel", name := "change", desc := "()V" } : Jvm.MethodName) prog_11_method_8_code (3 : Nat) (Option.none : Option Jvm.ClassFile.FieldType)) ∈ zG := zK_6 148 rfl rfl
theorem zw_1349 : (Jvm.Cond.methodLink "ConstructionLedgerModel" (38 : Nat) ({ cls := "ConstructionLedgerModel", name := "get", desc := "(I)J" } : Jvm.MethodName)) ∈ zG := zK_6 149 rfl rfl
theorem zw_1351 : (Jvm.Cond.instanceMethod ({ cls := "ConstructionLedgerModel", name := "get", desc := "(I)J" } : Jvm.MethodName)) ∈ zG := zK_6 151 rfl rfl
theorem zw_1352 : (Jvm.Cond.code ({ cls := "ConstructionLedgerModel", name := "get", desc := "(I)J" } : Jvm.MethodName) prog_11_method_5_code (2 : Nat) (Option.some Jvm.ClassFile.FieldType.long)) ∈ zG := zK_6 152 rfl rfl
theorem zw_1353 : (Jvm.Cond.methodLink "ConstructionLedgerModel" (183 : Nat) ({ cls := "ConstructionLedgerModel", name := "put", desc := "(IJ)V" } : Jvm.MethodName)) ∈ zG := zK_6 153 rfl rfl
theorem zw_1355 : (Jvm.Cond.instanceMethod ({ cls := "ConstructionLedgerModel", name := "put", desc := "(IJ)V" } : Jvm.MethodName)) ∈ zG := zK_6 155 rfl rfl
theorem zw_1356 : (Jvm.Cond.code ({ cls := "ConstructionLedgerModel", name := "put", desc := "(IJ)V" } : Jvm.MethodName) prog_11_method_7_code (4 : Nat) (Option.none : Option Jvm.ClassFile.FieldType)) ∈ zG := zK_6 156 rfl rfl
theorem zw_1357 : (Jvm.Cond.methodLink "ConstructionLedgerModel" (187 : Nat) ({ cls := "ConstructionLedgerModel", name := "small", desc := "(I)I" } : Jvm.MethodName)) ∈ zG := zK_6 157 rfl rfl
theorem zw_1359 : (Jvm.Cond.instanceMethod ({ cls := "ConstructionLedgerModel", name := "small", desc := "(I)I" } : Jvm.MethodName)) ∈ zG := zK_6 159 rfl rfl
theorem zw_1360 : (Jvm.Cond.code ({ cls := "ConstructionLedgerModel", name := "small", desc := "(I)I" } : Jvm.MethodName) prog_11_method_6_code (2 : Nat) (Option.some Jvm.ClassFile.FieldType.int)) ∈ zG := zK_6 160 rfl rfl
theorem zw_1361 : (Jvm.Cond.methodLink "ConstructionLedgerLaw" (157 : Nat) ({ cls := "ConstructionLedgerModel", name := "errorOffset", desc := "()I" } : Jvm.MethodName)) ∈ zG := zK_6 161 rfl rfl
theorem zw_1362 : (Jvm.Cond.instanceMethod ({ cls := "ConstructionLedgerModel", name := "errorOffset", desc := "()I" } : Jvm.MethodName)) ∈ zG := zK_6 162 rfl rfl
theorem zw_1363 : (Jvm.Cond.selects "ConstructionLedgerModel" ({ cls := "ConstructionLedgerModel", name := "errorOffset", desc := "()I" } : Jvm.MethodName) ({ cls := "ConstructionLedgerModel", name := "errorOffset", desc := "()I" } : Jvm.MethodName)) ∈ zG := zK_6 163 rfl rfl
theorem zw_1364 : (Jvm.Cond.code ({ cls := "ConstructionLedgerModel", name := "errorOffset", desc := "()I" } : Jvm.MethodName) prog_11_method_30_code (1 : Nat) (Option.some Jvm.ClassFile.FieldType.int)) ∈ zG := zK_6 164 rfl rfl
theorem zw_1365 : (Jvm.Cond.methodLink "ConstructionLedgerLaw" (161 : Nat) ({ cls := "ConstructionLedgerModel", name := "day", desc := "()I" } : Jvm.MethodName)) ∈ zG := zK_6 165 rfl rfl
theorem zw_1366 : (Jvm.Cond.instanceMethod ({ cls := "ConstructionLedgerModel", name := "day", desc := "()I" } : Jvm.MethodName)) ∈ zG := zK_6 166 rfl rfl
theorem zw_1367 : (Jvm.Cond.selects "ConstructionLedgerModel" ({ cls := "ConstructionLedgerModel", name := "day", desc := "()I" } : Jvm.MethodName) ({ cls := "ConstructionLedgerModel", name := "day", desc := "()I" } : Jvm.MethodName)) ∈ zG := zK_6 167 rfl rfl
theorem zw_1368 : (Jvm.Cond.code ({ cls := "ConstructionLedgerModel", name := "day", desc := "()I" } : Jvm.MethodName) prog_11_method_41_code (1 : Nat) (Option.some Jvm.ClassFile.FieldType.int)) ∈ zG := zK_6 168 rfl rfl
theorem zw_1369 : (Jvm.Cond.methodLink "ConstructionLedgerLaw" (165 : Nat) ({ cls := "ConstructionLedgerModel", name := "contractCount", desc := "()I" } : Jvm.MethodName)) ∈ zG := zK_6 169 rfl rfl
theorem zw_1370 : (Jvm.Cond.instanceMethod ({ cls := "ConstructionLedgerModel", name := "contractCount", desc := "()I" } : Jvm.MethodName)) ∈ zG := zK_6 170 rfl rfl
theorem zw_1371 : (Jvm.Cond.selects "ConstructionLedgerModel" ({ cls := "ConstructionLedgerModel", name := "contractCount", desc := "()I" } : Jvm.MethodName) ({ cls := "ConstructionLedgerModel", name := "contractCount", desc := "()I" } : Jvm.MethodName)) ∈ zG := zK_6 171 rfl rfl
theorem zw_1372 : (Jvm.Cond.code ({ cls := "ConstructionLedgerModel", name := "contractCount", desc := "()I" } : Jvm.MethodName) prog_11_method_42_code (1 : Nat) (Option.some Jvm.ClassFile.FieldType.int)) ∈ zG := zK_6 172 rfl rfl
theorem zw_1373 : (Jvm.Cond.methodLink "ConstructionLedgerLaw" (168 : Nat) ({ cls := "ConstructionLedgerModel", name := "parent", desc := "(I)I" } : Jvm.MethodName)) ∈ zG := zK_6 173 rfl rfl
theorem zw_1374 : (Jvm.Cond.instanceMethod ({ cls := "ConstructionLedgerModel", name := "parent", desc := "(I)I" } : Jvm.MethodName)) ∈ zG := zK_6 174 rfl rfl
theorem zw_1375 : (Jvm.Cond.selects "ConstructionLedgerModel" ({ cls := "ConstructionLedgerModel", name := "parent", desc := "(I)I" } : Jvm.MethodName) ({ cls := "ConstructionLedgerModel", name := "parent", desc := "(I)I" } : Jvm.MethodName)) ∈ zG := zK_6 175 rfl rfl
theorem zw_1376 : (Jvm.Cond.code ({ cls := "ConstructionLedgerModel", name := "parent", desc := "(I)I" } : Jvm.MethodName) prog_11_method_43_code (2 : Nat) (Option.some Jvm.ClassFile.FieldType.int)) ∈ zG := zK_6 176 rfl rfl
theorem zw_1377 : (Jvm.Cond.methodLink "ConstructionLedgerModel" (230 : Nat) ({ cls := "ConstructionLedgerModel", name := "isContract", desc := "(I)Z" } : Jvm.MethodName)) ∈ zG := zK_6 177 rfl rfl
theorem zw_1379 : (Jvm.Cond.instanceMethod ({ cls := "ConstructionLedgerModel", name := "isContract", desc := "(I)Z" } : Jvm.MethodName)) ∈ zG := zK_6 179 rfl rfl
theorem zw_1380 : (Jvm.Cond.code ({ cls := "ConstructionLedgerModel", name := "isContract", desc := "(I)Z" } : Jvm.MethodName) prog_11_method_39_code (2 : Nat) (Option.some Jvm.ClassFile.FieldType.boolean)) ∈ zG := zK_6 180 rfl rfl
theorem zw_1381 : (Jvm.Cond.methodLink "ConstructionLedgerModel" (201 : Nat) ({ cls := "ConstructionLedgerModel", name := "at", desc := "(I)I" } : Jvm.MethodName)) ∈ zG := zK_6 181 rfl rfl
theorem zw_1383 : (Jvm.Cond.instanceMethod ({ cls := "ConstructionLedgerModel", name := "at", desc := "(I)I" } : Jvm.MethodName)) ∈ zG := zK_6 183 rfl rfl
theorem zw_1384 : (Jvm.Cond.code ({ cls := "ConstructionLedgerModel", name := "at", desc := "(I)I" } : Jvm.MethodName) prog_11_method_32_code (2 : Nat) (Option.some Jvm.ClassFile.FieldType.int)) ∈ zG := zK_6 184 rfl rfl
theorem zw_1385 : (Jvm.Cond.methodLink "ConstructionLedgerLaw" (171 : Nat) ({ cls := "ConstructionLedgerModel", name := "itemCount", desc := "(I)I" } : Jvm.MethodName)) ∈ zG := zK_6 185 rfl rfl
theorem zw_1386 : (Jvm.Cond.instanceMethod ({ cls := "ConstructionLedgerModel", name := "itemCount", desc := "(I)I" } : Jvm.MethodName)) ∈ zG := zK_6 186 rfl rfl
theorem zw_1387 : (Jvm.Cond.selects "ConstructionLedgerModel" ({ cls := "ConstructionLedgerModel", name := "itemCount", desc := "(I)I" } : Jvm.MethodName) ({ cls := "ConstructionLedgerModel", name := "itemCount", desc := "(I)I" } : Jvm.MethodName)) ∈ zG := zK_6 187 rfl rfl
theorem zw_1388 : (Jvm.Cond.code ({ cls := "ConstructionLedgerModel", name := "itemCount", desc := "(I)I" } : Jvm.MethodName) prog_11_method_44_code (2 : Nat) (Option.some Jvm.ClassFile.FieldType.int)) ∈ zG := zK_6 188 rfl rfl
theorem zw_1389 : (Jvm.Cond.methodLink "ConstructionLedgerLaw" (175 : Nat) ({ cls := "ConstructionLedgerModel", name := "quantity", desc := "(II)I" } : Jvm.MethodName)) ∈ zG := zK_6 189 rfl rfl
theorem zw_1390 : (Jvm.Cond.instanceMethod ({ cls := "ConstructionLedgerModel", name := "quantity", desc := "(II)I" } : Jvm.MethodName)) ∈ zG := zK_6 190 rfl rfl
theorem zw_1391 : (Jvm.Cond.selects "ConstructionLedgerModel" ({ cls := "ConstructionLedgerModel", name := "quantity", desc := "(II)I" } : Jvm.MethodName) ({ cls := "ConstructionLedgerModel", name := "quantity", desc := "(II)I" } : Jvm.MethodName)) ∈ zG := zK_6 191 rfl rfl
theorem zw_1392 : (Jvm.Cond.code ({ cls := "ConstructionLedgerModel", name := "quantity", desc := "(II)I" } : Jvm.MethodName) prog_11_method_45_code (3 : Nat) (Option.some Jvm.ClassFile.FieldType.int)) ∈ zG := zK_6 192 rfl rfl
theorem zw_1393 : (Jvm.Cond.methodLink "ConstructionLedgerModel" (234 : Nat) ({ cls := "ConstructionLedgerModel", name := "isItem", desc := "(II)Z" } : Jvm.MethodName)) ∈ zG := zK_6 193 rfl rfl
theorem zw_1395 : (Jvm.Cond.instanceMethod ({ cls := "ConstructionLedgerModel", name := "isItem", desc := "(II)Z" } : Jvm.MethodName)) ∈ zG := zK_6 195 rfl rfl
theorem zw_1396 : (Jvm.Cond.code ({ cls := "ConstructionLedgerModel", name := "isItem", desc := "(II)Z" } : Jvm.MethodName) prog_11_method_40_code (3 : Nat) (Option.some Jvm.ClassFile.FieldType.boolean)) ∈ zG := zK_6 196 rfl rfl
theorem zw_1397 : (Jvm.Cond.methodLink "ConstructionLedgerModel" (224 : Nat) ({ cls := "ConstructionLedgerModel", name := "quantityOf", desc := "(II)J" } : Jvm.MethodName)) ∈ zG := zK_6 197 rfl rfl
theorem zw_1399 : (Jvm.Cond.instanceMethod ({ cls := "ConstructionLedgerModel", name := "quantityOf", desc := "(II)J" } : Jvm.MethodName)) ∈ zG := zK_6 199 rfl rfl
theorem zw_1400 : (Jvm.Cond.code ({ cls := "ConstructionLedgerModel", name := "quantityOf", desc := "(II)J" } : Jvm.MethodName) prog_11_method_34_code (7 : Nat) (Option.some Jvm.ClassFile.FieldType.long)) ∈ zG := zK_6 200 rfl rfl
theorem zw_1401 : (Jvm.Cond.methodLink "ConstructionLedgerModel" (204 : Nat) ({ cls := "ConstructionLedgerModel", name := "itemAt", desc := "(II)I" } : Jvm.MethodName)) ∈ zG := zK_6 201 rfl rfl
theorem zw_1403 : (Jvm.Cond.instanceMethod ({ cls := "ConstructionLedgerModel", name := "itemAt", desc := "(II)I" } : Jvm.MethodName)) ∈ zG := zK_6 203 rfl rfl
theorem zw_1404 : (Jvm.Cond.code ({ cls := "ConstructionLedgerModel", name := "itemAt", desc := "(II)I" } : Jvm.MethodName) prog_11_method_33_code (3 : Nat) (Option.some Jvm.ClassFile.FieldType.int)) ∈ zG := zK_6 204 rfl rfl
theorem zw_1405 : (Jvm.Cond.methodLink "ConstructionLedgerLaw" (178 : Nat) ({ cls := "ConstructionLedgerModel", name := "specialRate", desc := "(II)I" } : Jvm.MethodName)) ∈ zG := zK_6 205 rfl rfl
theorem zw_1406 : (Jvm.Cond.instanceMethod ({ cls := "ConstructionLedgerModel", name := "specialRate", desc := "(II)I" } : Jvm.MethodName)) ∈ zG := zK_6 206 rfl rfl
theorem zw_1407 : (Jvm.Cond.selects "ConstructionLedgerModel" ({ cls := "ConstructionLedgerModel", name := "specialRate", desc := "(II)I" } : Jvm.MethodName) ({ cls := "ConstructionLedgerModel", name := "specialRate", desc := "(II)I" } : Jvm.MethodName)) ∈ zG := zK_6 207 rfl rfl
theorem zw_1408 : (Jvm.Cond.code ({ cls := "ConstructionLedgerModel", name := "specialRate", desc := "(II)I" } : Jvm.MethodName) prog_11_method_46_code (3 : Nat) (Option.some Jvm.ClassFile.FieldType.int)) ∈ zG := zK_6 208 rfl rfl
theorem zw_1409 : (Jvm.Cond.methodLink "ConstructionLedgerModel" (220 : Nat) ({ cls := "ConstructionLedgerModel", name := "rateBy", desc := "(IIJ)J" } : Jvm.MethodName)) ∈ zG := zK_6 209 rfl rfl
theorem zw_1411 : (Jvm.Cond.instanceMethod ({ cls := "ConstructionLedgerModel", name := "rateBy", desc := "(IIJ)J" } : Jvm.MethodName)) ∈ zG := zK_6 211 rfl rfl
theorem zw_1412 : (Jvm.Cond.code ({ cls := "ConstructionLedgerModel", name := "rateBy", desc := "(IIJ)J" } : Jvm.MethodName) prog_11_method_36_code (5 : Nat) (Option.some Jvm.ClassFile.FieldType.long)) ∈ zG := zK_6 212 rfl rfl
theorem zw_1413 : (Jvm.Cond.methodLink "ConstructionLedgerModel" (209 : Nat) ({ cls := "ConstructionLedgerModel", name := "boundOf", desc := "(II)J" } : Jvm.MethodName)) ∈ zG := zK_6 213 rfl rfl
theorem zw_1415 : (Jvm.Cond.instanceMethod ({ cls := "ConstructionLedgerModel", name := "boundOf", desc := "(II)J" } : Jvm.MethodName)) ∈ zG := zK_6 215 rfl rfl
theorem zw_1416 : (Jvm.Cond.code ({ cls := "ConstructionLedgerModel", name := "boundOf", desc := "(II)J" } : Jvm.MethodName) prog_11_method_35_code (5 : Nat) (Option.some Jvm.ClassFile.FieldType.long)) ∈ zG := zK_6 216 rfl rfl
theorem zw_1417 : (Jvm.Cond.constantLong "ConstructionLedgerModel" (207 : Nat) (100 : Int64)) ∈ zG := zK_6 217 rfl rfl
theorem zw_1418 : (Jvm.Cond.methodLink "ConstructionLedgerModel" (213 : Nat) ({ cls := "java/lang/Math", name := "max", desc := "(JJ)J" } : Jvm.MethodName)) ∈ zG := zK_6 218 rfl rfl
theorem zw_1419 : (Jvm.Cond.methodLink "ConstructionLedgerModel" (217 : Nat) ({ cls := "ConstructionLedgerModel", name := "rateOf", desc := "(JJJ)J" } : Jvm.MethodName)) ∈ zG := zK_6 219 rfl rfl
theorem zw_1421 : (Jvm.Cond.instanceMethod ({ cls := "ConstructionLedgerModel", name := "rateOf", desc := "(JJJ)J" } : Jvm.MethodName)) ∈ zG := zK_6 221 rfl rfl
theorem zw_1422 : (Jvm.Cond.code ({ cls := "ConstructionLedgerModel", name := "rateOf", desc := "(JJJ)J" } : Jvm.MethodName) prog_11_method_31_code (16 : Nat) (Option.some Jvm.ClassFile.FieldType.long)) ∈ zG := zK_6 222 rfl rfl
theorem zw_1423 : (Jvm.Cond.constantLong "ConstructionLedgerModel" (191 : Nat) (-1000000 : Int64)) ∈ zG := zK_6 223 rfl rfl
theorem zw_1424 : (Jvm.Cond.constantLong "ConstructionLedgerModel" (193 : Nat) (1000000 : Int64)) ∈ zG := zK_6 224 rfl rfl
theorem zw_1425 : (Jvm.Cond.methodLink "ConstructionLedgerModel" (195 : Nat) ({ cls := "ConstructionLedgerModel", name := "clamped", desc := "(JJJ)J" } : Jvm.MethodName)) ∈ zG := zK_6 225 rfl rfl
theorem zw_1426 : (Jvm.Cond.static ({ cls := "ConstructionLedgerModel", name := "clamped", desc := "(JJJ)J" } : Jvm.MethodName)) ∈ zG := zK_6 226 rfl rfl
theorem zw_1427 : (Jvm.Cond.code ({ cls := "ConstructionLedgerModel", name := "clamped", desc := "(JJJ)J" } : Jvm.MethodName) prog_11_method_4_code (6 : Nat) (Option.some Jvm.ClassFile.FieldType.long)) ∈ zG := zK_6 227 rfl rfl
theorem zw_1428 : (Jvm.Cond.constantLong "ConstructionLedgerModel" (199 : Nat) (99999 : Int64)) ∈ zG := zK_6 228 rfl rfl
theorem zw_1429 : (Jvm.Cond.methodLink "ConstructionLedgerLaw" (181 : Nat) ({ cls := "ConstructionLedgerModel", name := "itemValue", desc := "(II)J" } : Jvm.MethodName)) ∈ zG := zK_6 229 rfl rfl
theorem zw_1430 : (Jvm.Cond.instanceMethod ({ cls := "ConstructionLedgerModel", name := "itemValue", desc := "(II)J" } : Jvm.MethodName)) ∈ zG := zK_6 230 rfl rfl
theorem zw_1431 : (Jvm.Cond.selects "ConstructionLedgerModel" ({ cls := "ConstructionLedgerModel", name := "itemValue", desc := "(II)J" } : Jvm.MethodName) ({ cls := "ConstructionLedgerModel", name := "itemValue", desc := "(II)J" } : Jvm.MethodName)) ∈ zG := zK_6 231 rfl rfl
theorem zw_1432 : (Jvm.Cond.code ({ cls := "ConstructionLedgerModel", name := "itemValue", desc := "(II)J" } : Jvm.MethodName) prog_11_method_47_code (3 : Nat) (Option.some Jvm.ClassFile.FieldType.long)) ∈ zG := zK_6 232 rfl rfl
theorem zw_1433 : (Jvm.Cond.methodLink "ConstructionLedgerModel" (237 : Nat) ({ cls := "ConstructionLedgerModel", name := "valueOf", desc := "(II)J" } : Jvm.MethodName)) ∈ zG := zK_6 233 rfl rfl
theorem zw_1435 : (Jvm.Cond.instanceMethod ({ cls := "ConstructionLedgerModel", name := "valueOf", desc := "(II)J" } : Jvm.MethodName)) ∈ zG := zK_6 235 rfl rfl
theorem zw_1436 : (Jvm.Cond.code ({ cls := "ConstructionLedgerModel", name := "valueOf", desc := "(II)J" } : Jvm.MethodName) prog_11_method_38_code (3 : Nat) (Option.some Jvm.ClassFile.FieldType.long)) ∈ zG := zK_6 236 rfl rfl
theorem zw_1437 : (Jvm.Cond.methodLink "ConstructionLedgerModel" (227 : Nat) ({ cls := "ConstructionLedgerModel", name := "fullBy", desc := "(IIJ)J" } : Jvm.MethodName)) ∈ zG := zK_6 237 rfl rfl
theorem zw_1439 : (Jvm.Cond.instanceMethod ({ cls := "ConstructionLedgerModel", name := "fullBy", desc := "(IIJ)J" } : Jvm.MethodName)) ∈ zG := zK_6 239 rfl rfl
theorem zw_1440 : (Jvm.Cond.code ({ cls := "ConstructionLedgerModel", name := "fullBy", desc := "(IIJ)J" } : Jvm.MethodName) prog_11_method_37_code (7 : Nat) (Option.some Jvm.ClassFile.FieldType.long)) ∈ zG := zK_7 0 rfl rfl
theorem zw_1441 : (Jvm.Cond.methodLink "ConstructionLedgerLaw" (184 : Nat) ({ cls := "ConstructionLedgerModel", name := "firstSum", desc := "(I)J" } : Jvm.MethodName)) ∈ zG := zK_7 1 rfl rfl
theorem zw_1442 : (Jvm.Cond.instanceMethod ({ cls := "ConstructionLedgerModel", name := "firstSum", desc := "(I)J" } : Jvm.MethodName)) ∈ zG := zK_7 2 rfl rfl
theorem zw_1443 : (Jvm.Cond.selects "ConstructionLedgerModel" ({ cls := "ConstructionLedgerModel", name := "firstSum", desc := "(I)J" } : Jvm.MethodName) ({ cls := "ConstructionLedgerModel", name := "firstSum", desc := "(I)J" } : Jvm.MethodName)) ∈ zG := zK_7 3 rfl rfl
theorem zw_1444 : (Jvm.Cond.code ({ cls := "ConstructionLedgerModel", name := "firstSum", desc := "(I)J" } : Jvm.MethodName) prog_11_method_52_code (2 : Nat) (Option.some Jvm.ClassFile.FieldType.long)) ∈ zG := zK_7 4 rfl rfl
theorem zw_1445 : (Jvm.Cond.methodLink "ConstructionLedgerModel" (243 : Nat) ({ cls := "ConstructionLedgerModel", name := "firstOf", desc := "(I)J" } : Jvm.MethodName)) ∈ zG := zK_7 5 rfl rfl
theorem zw_1447 : (Jvm.Cond.instanceMethod ({ cls := "ConstructionLedgerModel", name := "firstOf", desc := "(I)J" } : Jvm.MethodName)) ∈ zG := zK_7 7 rfl rfl
theorem zw_1448 : (Jvm.Cond.code ({ cls := "ConstructionLedgerModel", name := "firstOf", desc := "(I)J" } : Jvm.MethodName) prog_11_method_48_code (5 : Nat) (Option.some Jvm.ClassFile.FieldType.long)) ∈ zG := zK_7 8 rfl rfl
theorem zw_1449 : (Jvm.Cond.methodLink "ConstructionLedgerLaw" (187 : Nat) ({ cls := "ConstructionLedgerModel", name := "presentSum", desc := "(I)J" } : Jvm.MethodName)) ∈ zG := zK_7 9 rfl rfl
theorem zw_1450 : (Jvm.Cond.instanceMethod ({ cls := "ConstructionLedgerModel", name := "presentSum", desc := "(I)J" } : Jvm.MethodName)) ∈ zG := zK_7 10 rfl rfl
theorem zw_1451 : (Jvm.Cond.selects "ConstructionLedgerModel" ({ cls := "ConstructionLedgerModel", name := "presentSum", desc := "(I)J" } : Jvm.MethodName) ({ cls := "ConstructionLedgerModel", name := "presentSum", desc := "(I)J" } : Jvm.MethodName)) ∈ zG := zK_7 11 rfl rfl
theorem zw_1452 : (Jvm.Cond.code ({ cls := "ConstructionLedgerModel", name := "presentSum", desc := "(I)J" } : Jvm.MethodName) prog_11_method_53_code (2 : Nat) (Option.some Jvm.ClassFile.FieldType.long)) ∈ zG := zK_7 12 rfl rfl
theorem zw_1453 : (Jvm.Cond.methodLink "ConstructionLedgerModel" (248 : Nat) ({ cls := "ConstructionLedgerModel", name := "presentOf", desc := "(I)J" } : Jvm.MethodName)) ∈ zG := zK_7 13 rfl rfl
theorem zw_1455 : (Jvm.Cond.instanceMethod ({ cls := "ConstructionLedgerModel", name := "presentOf", desc := "(I)J" } : Jvm.MethodName)) ∈ zG := zK_7 15 rfl rfl
theorem zw_1456 : (Jvm.Cond.code ({ cls := "ConstructionLedgerModel", name := "presentOf", desc := "(I)J" } : Jvm.MethodName) prog_11_method_49_code (5 : Nat) (Option.some Jvm.ClassFile.FieldType.long)) ∈ zG := zK_7 16 rfl rfl
theorem zw_1457 : (Jvm.Cond.methodLink "ConstructionLedgerLaw" (190 : Nat) ({ cls := "ConstructionLedgerModel", name := "grossValue", desc := "(I)J" } : Jvm.MethodName)) ∈ zG := zK_7 17 rfl rfl
theorem zw_1458 : (Jvm.Cond.instanceMethod ({ cls := "ConstructionLedgerModel", name := "grossValue", desc := "(I)J" } : Jvm.MethodName)) ∈ zG := zK_7 18 rfl rfl
theorem zw_1459 : (Jvm.Cond.selects "ConstructionLedgerModel" ({ cls := "ConstructionLedgerModel", name := "grossValue", desc := "(I)J" } : Jvm.MethodName) ({ cls := "ConstructionLedgerModel", name := "grossValue", desc := "(I)J" } : Jvm.MethodName)) ∈ zG := zK_7 19 rfl rfl
theorem zw_1460 : (Jvm.Cond.code ({ cls := "ConstructionLedgerModel", name := "grossValue", desc := "(I)J" } : Jvm.MethodName) prog_11_method_54_code (2 : Nat) (Option.some Jvm.ClassFile.FieldType.long)) ∈ zG := zK_7 20 rfl rfl
theorem zw_1461 : (Jvm.Cond.methodLink "ConstructionLedgerModel" (240 : Nat) ({ cls := "ConstructionLedgerModel", name := "grossOf", desc := "(I)J" } : Jvm.MethodName)) ∈ zG := zK_7 21 rfl rfl
theorem zw_1463 : (Jvm.Cond.instanceMethod ({ cls := "ConstructionLedgerModel", name := "grossOf", desc := "(I)J" } : Jvm.MethodName)) ∈ zG := zK_7 23 rfl rfl
theorem zw_1464 : (Jvm.Cond.code ({ cls := "ConstructionLedgerModel", name := "grossOf", desc := "(I)J" } : Jvm.MethodName) prog_11_method_50_code (5 : Nat) (Option.some Jvm.ClassFile.FieldType.long)) ∈ zG := zK_7 24 rfl rfl
theorem zw_1465 : (Jvm.Cond.methodLink "ConstructionLedgerLaw" (193 : Nat) ({ cls := "ConstructionLedgerModel", name := "retention", desc := "(I)J" } : Jvm.MethodName)) ∈ zG := zK_7 25 rfl rfl
theorem zw_1466 : (Jvm.Cond.instanceMethod ({ cls := "ConstructionLedgerModel", name := "retention", desc := "(I)J" } : Jvm.MethodName)) ∈ zG := zK_7 26 rfl rfl
theorem zw_1467 : (Jvm.Cond.selects "ConstructionLedgerModel" ({ cls := "ConstructionLedgerModel", name := "retention", desc := "(I)J" } : Jvm.MethodName) ({ cls := "ConstructionLedgerModel", name := "retention", desc := "(I)J" } : Jvm.MethodName)) ∈ zG := zK_7 27 rfl rfl
theorem zw_1468 : (Jvm.Cond.code ({ cls := "ConstructionLedgerModel", name := "retention", desc := "(I)J" } : Jvm.MethodName) prog_11_method_55_code (2 : Nat) (Option.some Jvm.ClassFile.FieldType.long)) ∈ zG := zK_7 28 rfl rfl
theorem zw_1469 : (Jvm.Cond.methodLink "ConstructionLedgerModel" (251 : Nat) ({ cls := "ConstructionLedgerModel", name := "heldOf", desc := "(I)J" } : Jvm.MethodName)) ∈ zG := zK_7 29 rfl rfl
theorem zw_1471 : (Jvm.Cond.instanceMethod ({ cls := "ConstructionLedgerModel", name := "heldOf", desc := "(I)J" } : Jvm.MethodName)) ∈ zG := zK_7 31 rfl rfl
theorem zw_1472 : (Jvm.Cond.code ({ cls := "ConstructionLedgerModel", name := "heldOf", desc := "(I)J" } : Jvm.MethodName) prog_11_method_51_code (4 : Nat) (Option.some Jvm.ClassFile.FieldType.long)) ∈ zG := zK_7 32 rfl rfl
theorem zw_1473 : (Jvm.Cond.methodLink "ConstructionLedgerModel" (246 : Nat) ({ cls := "java/lang/Math", name := "min", desc := "(JJ)J" } : Jvm.MethodName)) ∈ zG := zK_7 33 rfl rfl
theorem zw_1474 : (Jvm.Cond.methodLink "ConstructionLedgerLaw" (205 : Nat) ({ cls := "ConstructionLedgerModel", name := "stage", desc := "(I)I" } : Jvm.MethodName)) ∈ zG := zK_7 34 rfl rfl
theorem zw_1475 : (Jvm.Cond.instanceMethod ({ cls := "ConstructionLedgerModel", name := "stage", desc := "(I)I" } : Jvm.MethodName)) ∈ zG := zK_7 35 rfl rfl
theorem zw_1476 : (Jvm.Cond.selects "ConstructionLedgerModel" ({ cls := "ConstructionLedgerModel", name := "stage", desc := "(I)I" } : Jvm.MethodName) ({ cls := "ConstructionLedgerModel", name := "stage", desc := "(I)I" } : Jvm.MethodName)) ∈ zG := zK_7 36 rfl rfl
theorem zw_1477 : (Jvm.Cond.code ({ cls := "ConstructionLedgerModel", name := "stage", desc := "(I)I" } : Jvm.MethodName) prog_11_method_56_code (2 : Nat) (Option.some Jvm.ClassFile.FieldType.int)) ∈ zG := zK_7 37 rfl rfl
theorem zw_1478 : (Jvm.Cond.methodLink "ConstructionLedgerLaw" (208 : Nat) ({ cls := "ConstructionLedgerModel", name := "margin", desc := "(I)J" } : Jvm.MethodName)) ∈ zG := zK_7 38 rfl rfl
theorem zw_1479 : (Jvm.Cond.instanceMethod ({ cls := "ConstructionLedgerModel", name := "margin", desc := "(I)J" } : Jvm.MethodName)) ∈ zG := zK_7 39 rfl rfl
theorem zw_1480 : (Jvm.Cond.selects "ConstructionLedgerModel" ({ cls := "ConstructionLedgerModel", name := "margin", desc := "(I)J" } : Jvm.MethodName) ({ cls := "ConstructionLedgerModel", name := "margin", desc := "(I)J" } : Jvm.MethodName)) ∈ zG := zK_7 40 rfl rfl
theorem zw_1481 : (Jvm.Cond.code ({ cls := "ConstructionLedgerModel", name := "margin", desc := "(I)J" } : Jvm.MethodName) prog_11_method_57_code (5 : Nat) (Option.some Jvm.ClassFile.FieldType.long)) ∈ zG := zK_7 41 rfl rfl
theorem zw_1482 : (Jvm.Cond.methodLink "ConstructionLedgerLaw" (211 : Nat) ({ cls := "ConstructionLedgerModel", name := "account", desc := "(I)J" } : Jvm.MethodName)) ∈ zG := zK_7 42 rfl rfl
theorem zw_1483 : (Jvm.Cond.instanceMethod ({ cls := "ConstructionLedgerModel", name := "account", desc := "(I)J" } : Jvm.MethodName)) ∈ zG := zK_7 43 rfl rfl
theorem zw_1484 : (Jvm.Cond.selects "ConstructionLedgerModel" ({ cls := "ConstructionLedgerModel", name := "account", desc := "(I)J" } : Jvm.MethodName) ({ cls := "ConstructionLedgerModel", name := "account", desc := "(I)J" } : Jvm.MethodName)) ∈ zG := zK_7 44 rfl rfl
theorem zw_1485 : (Jvm.Cond.code ({ cls := "ConstructionLedgerModel", name := "account", desc := "(I)J" } : Jvm.MethodName) prog_11_method_58_code (2 : Nat) (Option.some Jvm.ClassFile.FieldType.long)) ∈ zG := zK_7 45 rfl rfl
theorem zw_1486 : (Jvm.Cond.methodLink "ConstructionLedgerLaw" (196 : Nat) ({ cls := "ConstructionLedgerModel", name := "certified", desc := "(I)J" } : Jvm.MethodName)) ∈ zG := zK_7 46 rfl rfl
theorem zw_1487 : (Jvm.Cond.instanceMethod ({ cls := "ConstructionLedgerModel", name := "certified", desc := "(I)J" } : Jvm.MethodName)) ∈ zG := zK_7 47 rfl rfl
theorem zw_1488 : (Jvm.Cond.selects "ConstructionLedgerModel" ({ cls := "ConstructionLedgerModel", name := "certified", desc := "(I)J" } : Jvm.MethodName) ({ cls := "ConstructionLedgerModel", name := "certified", desc := "(I)J" } : Jvm.MethodName)) ∈ zG := zK_7 48 rfl rfl
theorem zw_1489 : (Jvm.Cond.code ({ cls := "ConstructionLedgerModel", name := "certified", desc := "(I)J" } : Jvm.MethodName) prog_11_method_64_code (2 : Nat) (Option.some Jvm.ClassFile.FieldType.long)) ∈ zG := zK_7 49 rfl rfl
theorem zw_1490 : (Jvm.Cond.methodLink "ConstructionLedgerModel" (264 : Nat) ({ cls := "ConstructionLedgerModel", name := "certifiedOf", desc := "(I)J" } : Jvm.MethodName)) ∈ zG := zK_7 50 rfl rfl
theorem zw_1492 : (Jvm.Cond.instanceMethod ({ cls := "ConstructionLedgerModel", name := "certifiedOf", desc := "(I)J" } : Jvm.MethodName)) ∈ zG := zK_7 52 rfl rfl
theorem zw_1493 : (Jvm.Cond.code ({ cls := "ConstructionLedgerModel", name := "certifiedOf", desc := "(I)J" } : Jvm.MethodName) prog_11_method_61_code (5 : Nat) (Option.some Jvm.ClassFile.FieldType.long)) ∈ zG := zK_7 53 rfl rfl
theorem zw_1494 : (Jvm.Cond.methodLink "ConstructionLedgerModel" (254 : Nat) ({ cls := "ConstructionLedgerModel", name := "bill", desc := "(I)I" } : Jvm.MethodName)) ∈ zG := zK_7 54 rfl rfl
theorem zw_1495 : (Jvm.Cond.static ({ cls := "ConstructionLedgerModel", name := "bill", desc := "(I)I" } : Jvm.MethodName)) ∈ zG := zK_7 55 rfl rfl
theorem zw_1496 : (Jvm.Cond.code ({ cls := "ConstructionLedgerModel", name := "bill", desc := "(I)I" } : Jvm.MethodName) prog_11_method_59_code (1 : Nat) (Option.some Jvm.ClassFile.FieldType.int)) ∈ zG := zK_7 56 rfl rfl
theorem zw_1497 : (Jvm.Cond.methodLink "ConstructionLedgerLaw" (199 : Nat) ({ cls := "ConstructionLedgerModel", name := "unpaid", desc := "(I)J" } : Jvm.MethodName)) ∈ zG := zK_7 57 rfl rfl
theorem zw_1498 : (Jvm.Cond.instanceMethod ({ cls := "ConstructionLedgerModel", name := "unpaid", desc := "(I)J" } : Jvm.MethodName)) ∈ zG := zK_7 58 rfl rfl
theorem zw_1499 : (Jvm.Cond.selects "ConstructionLedgerModel" ({ cls := "ConstructionLedgerModel", name := "unpaid", desc := "(I)J" } : Jvm.MethodName) ({ cls := "ConstructionLedgerModel", name := "unpaid", desc := "(I)J" } : Jvm.MethodName)) ∈ zG := zK_7 59 rfl rfl
theorem zw_1500 : (Jvm.Cond.code ({ cls := "ConstructionLedgerModel", name := "unpaid", desc := "(I)J" } : Jvm.MethodName) prog_11_method_65_code (2 : Nat) (Option.some Jvm.ClassFile.FieldType.long)) ∈ zG := zK_7 60 rfl rfl
theorem zw_1501 : (Jvm.Cond.methodLink "ConstructionLedgerModel" (267 : Nat) ({ cls := "ConstructionLedgerModel", name := "unpaidOf", desc := "(I)J" } : Jvm.MethodName)) ∈ zG := zK_7 61 rfl rfl
theorem zw_1503 : (Jvm.Cond.instanceMethod ({ cls := "ConstructionLedgerModel", name := "unpaidOf", desc := "(I)J" } : Jvm.MethodName)) ∈ zG := zK_7 63 rfl rfl
theorem zw_1504 : (Jvm.Cond.code ({ cls := "ConstructionLedgerModel", name := "unpaidOf", desc := "(I)J" } : Jvm.MethodName) prog_11_method_63_code (2 : Nat) (Option.some Jvm.ClassFile.FieldType.long)) ∈ zG := zK_7 64 rfl rfl
theorem zw_1505 : (Jvm.Cond.methodLink "ConstructionLedgerModel" (260 : Nat) ({ cls := "ConstructionLedgerModel", name := "openBefore", desc := "(IJ)J" } : Jvm.MethodName)) ∈ zG := zK_7 65 rfl rfl
theorem zw_1507 : (Jvm.Cond.instanceMethod ({ cls := "ConstructionLedgerModel", name := "openBefore", desc := "(IJ)J" } : Jvm.MethodName)) ∈ zG := zK_7 67 rfl rfl
theorem zw_1508 : (Jvm.Cond.code ({ cls := "ConstructionLedgerModel", name := "openBefore", desc := "(IJ)J" } : Jvm.MethodName) prog_11_method_62_code (7 : Nat) (Option.some Jvm.ClassFile.FieldType.long)) ∈ zG := zK_7 68 rfl rfl
theorem zw_1509 : (Jvm.Cond.methodLink "ConstructionLedgerModel" (257 : Nat) ({ cls := "ConstructionLedgerModel", name := "openOf", desc := "(I)J" } : Jvm.MethodName)) ∈ zG := zK_7 69 rfl rfl
theorem zw_1511 : (Jvm.Cond.instanceMethod ({ cls := "ConstructionLedgerModel", name := "openOf", desc := "(I)J" } : Jvm.MethodName)) ∈ zG := zK_7 71 rfl rfl
theorem zw_1512 : (Jvm.Cond.code ({ cls := "ConstructionLedgerModel", name := "openOf", desc := "(I)J" } : Jvm.MethodName) prog_11_method_60_code (2 : Nat) (Option.some Jvm.ClassFile.FieldType.long)) ∈ zG := zK_7 72 rfl rfl
theorem zw_1513 : (Jvm.Cond.methodLink "ConstructionLedgerLaw" (202 : Nat) ({ cls := "ConstructionLedgerModel", name := "overdue", desc := "(I)J" } : Jvm.MethodName)) ∈ zG := zK_7 73 rfl rfl
theorem zw_1514 : (Jvm.Cond.instanceMethod ({ cls := "ConstructionLedgerModel", name := "overdue", desc := "(I)J" } : Jvm.MethodName)) ∈ zG := zK_7 74 rfl rfl
theorem zw_1515 : (Jvm.Cond.selects "ConstructionLedgerModel" ({ cls := "ConstructionLedgerModel", name := "overdue", desc := "(I)J" } : Jvm.MethodName) ({ cls := "ConstructionLedgerModel", name := "overdue", desc := "(I)J" } : Jvm.MethodName)) ∈ zG := zK_7 75 rfl rfl
theorem zw_1516 : (Jvm.Cond.code ({ cls := "ConstructionLedgerModel", name := "overdue", desc := "(I)J" } : Jvm.MethodName) prog_11_method_66_code (2 : Nat) (Option.some Jvm.ClassFile.FieldType.long)) ∈ zG := zK_7 76 rfl rfl
theorem zw_1517 : (Jvm.Cond.methodLink "ConstructionLedgerLaw" (215 : Nat) ({ cls := "ConstructionLedgerModel", name := "certificateCount", desc := "()I" } : Jvm.MethodName)) ∈ zG := zK_7 77 rfl rfl
theorem zw_1518 : (Jvm.Cond.instanceMethod ({ cls := "ConstructionLedgerModel", name := "certificateCount", desc := "()I" } : Jvm.MethodName)) ∈ zG := zK_7 78 rfl rfl
theorem zw_1519 : (Jvm.Cond.selects "ConstructionLedgerModel" ({ cls := "ConstructionLedgerModel", name := "certificateCount", desc := "()I" } : Jvm.MethodName) ({ cls := "ConstructionLedgerModel", name := "certificateCount", desc := "()I" } : Jvm.MethodName)) ∈ zG := zK_7 79 rfl rfl
theorem zw_1520 : (Jvm.Cond.code ({ cls := "ConstructionLedgerModel", name := "certificateCount", desc := "()I" } : Jvm.MethodName) prog_11_method_67_code (1 : Nat) (Option.some Jvm.ClassFile.FieldType.int)) ∈ zG := zK_7 80 rfl rfl
theorem zw_1521 : (Jvm.Cond.methodLink "ConstructionLedgerLaw" (218 : Nat) ({ cls := "ConstructionLedgerModel", name := "certificateContract", desc := "(I)I" } : Jvm.MethodName)) ∈ zG := zK_7 81 rfl rfl
theorem zw_1522 : (Jvm.Cond.instanceMethod ({ cls := "ConstructionLedgerModel", name := "certificateContract", desc := "(I)I" } : Jvm.MethodName)) ∈ zG := zK_7 82 rfl rfl
theorem zw_1523 : (Jvm.Cond.selects "ConstructionLedgerModel" ({ cls := "ConstructionLedgerModel", name := "certificateContract", desc := "(I)I" } : Jvm.MethodName) ({ cls := "ConstructionLedgerModel", name := "certificateContract", desc := "(I)I" } : Jvm.MethodName)) ∈ zG := zK_7 83 rfl rfl
theorem zw_1524 : (Jvm.Cond.code ({ cls := "ConstructionLedgerModel", name := "certificateContract", desc := "(I)I" } : Jvm.MethodName) prog_11_method_69_code (2 : Nat) (Option.some Jvm.ClassFile.FieldType.int)) ∈ zG := zK_7 84 rfl rfl
theorem zw_1525 : (Jvm.Cond.methodLink "ConstructionLedgerModel" (270 : Nat) ({ cls := "ConstructionLedgerModel", name := "isBill", desc := "(I)Z" } : Jvm.MethodName)) ∈ zG := zK_7 85 rfl rfl
theorem zw_1527 : (Jvm.Cond.instanceMethod ({ cls := "ConstructionLedgerModel", name := "isBill", desc := "(I)Z" } : Jvm.MethodName)) ∈ zG := zK_7 87 rfl rfl
theorem zw_1528 : (Jvm.Cond.code ({ cls := "ConstructionLedgerModel", name := "isBill", desc := "(I)Z" } : Jvm.MethodName) prog_11_method_68_code (2 : Nat) (Option.some Jvm.ClassFile.FieldType.boolean)) ∈ zG := zK_7 88 rfl rfl
theorem zw_1529 : (Jvm.Cond.methodLink "ConstructionLedgerLaw" (221 : Nat) ({ cls := "ConstructionLedgerModel", name := "amount", desc := "(I)J" } : Jvm.MethodName)) ∈ zG := zK_7 89 rfl rfl
theorem zw_1530 : (Jvm.Cond.instanceMethod ({ cls := "ConstructionLedgerModel", name := "amount", desc := "(I)J" } : Jvm.MethodName)) ∈ zG := zK_7 90 rfl rfl
theorem zw_1531 : (Jvm.Cond.selects "ConstructionLedgerModel" ({ cls := "ConstructionLedgerModel", name := "amount", desc := "(I)J" } : Jvm.MethodName) ({ cls := "ConstructionLedgerModel", name := "amount", desc := "(I)J" } : Jvm.MethodName)) ∈ zG := zK_7 91 rfl rfl
theorem zw_1532 : (Jvm.Cond.code ({ cls := "ConstructionLedgerModel", name := "amount", desc := "(I)J" } : Jvm.MethodName) prog_11_method_70_code (2 : Nat) (Option.some Jvm.ClassFile.FieldType.long)) ∈ zG := zK_7 92 rfl rfl
theorem zw_1533 : (Jvm.Cond.methodLink "ConstructionLedgerLaw" (224 : Nat) ({ cls := "ConstructionLedgerModel", name := "openAmount", desc := "(I)J" } : Jvm.MethodName)) ∈ zG := zK_7 93 rfl rfl
theorem zw_1534 : (Jvm.Cond.instanceMethod ({ cls := "ConstructionLedgerModel", name := "openAmount", desc := "(I)J" } : Jvm.MethodName)) ∈ zG := zK_7 94 rfl rfl
theorem zw_1535 : (Jvm.Cond.selects "ConstructionLedgerModel" ({ cls := "ConstructionLedgerModel", name := "openAmount", desc := "(I)J" } : Jvm.MethodName) ({ cls := "ConstructionLedgerModel", name := "openAmount", desc := "(I)J" } : Jvm.MethodName)) ∈ zG := zK_7 95 rfl rfl
theorem zw_1536 : (Jvm.Cond.code ({ cls := "ConstructionLedgerModel", name := "openAmount", desc := "(I)J" } : Jvm.MethodName) prog_11_method_71_code (2 : Nat) (Option.some Jvm.ClassFile.FieldType.long)) ∈ zG := zK_7 96 rfl rfl
theorem zw_1537 : (Jvm.Cond.methodLink "ConstructionLedgerLaw" (227 : Nat) ({ cls := "ConstructionLedgerModel", name := "dueDay", desc := "(I)I" } : Jvm.MethodName)) ∈ zG := zK_7 97 rfl rfl
theorem zw_1538 : (Jvm.Cond.instanceMethod ({ cls := "ConstructionLedgerModel", name := "dueDay", desc := "(I)I" } : Jvm.MethodName)) ∈ zG := zK_7 98 rfl rfl
theorem zw_1539 : (Jvm.Cond.selects "ConstructionLedgerModel" ({ cls := "ConstructionLedgerModel", name := "dueDay", desc := "(I)I" } : Jvm.MethodName) ({ cls := "ConstructionLedgerModel", name := "dueDay", desc := "(I)I" } : Jvm.MethodName)) ∈ zG := zK_7 99 rfl rfl
theorem zw_1540 : (Jvm.Cond.code ({ cls := "ConstructionLedgerModel", name := "dueDay", desc := "(I)I" } : Jvm.MethodName) prog_11_method_72_code (2 : Nat) (Option.some Jvm.ClassFile.FieldType.int)) ∈ zG := zK_7 100 rfl rfl
theorem zw_1541 : (Jvm.Cond.methodLink "ConstructionLedgerLaw" (230 : Nat) ({ cls := "ConstructionLedgerModel", name := "isBlocked", desc := "(I)Z" } : Jvm.MethodName)) ∈ zG := zK_7 101 rfl rfl
theorem zw_1542 : (Jvm.Cond.instanceMethod ({ cls := "ConstructionLedgerModel", name := "isBlocked", desc := "(I)Z" } : Jvm.MethodName)) ∈ zG := zK_7 102 rfl rfl
theorem zw_1543 : (Jvm.Cond.selects "ConstructionLedgerModel" ({ cls := "ConstructionLedgerModel", name := "isBlocked", desc := "(I)Z" } : Jvm.MethodName) ({ cls := "ConstructionLedgerModel", name := "isBlocked", desc := "(I)Z" } : Jvm.MethodName)) ∈ zG := zK_7 103 rfl rfl
theorem zw_1544 : (Jvm.Cond.code ({ cls := "ConstructionLedgerModel", name := "isBlocked", desc := "(I)Z" } : Jvm.MethodName) prog_11_method_74_code (2 : Nat) (Option.some Jvm.ClassFile.FieldType.boolean)) ∈ zG := zK_7 104 rfl rfl
theorem zw_1545 : (Jvm.Cond.methodLink "ConstructionLedgerModel" (273 : Nat) ({ cls := "ConstructionLedgerModel", name := "isHeld", desc := "(I)Z" } : Jvm.MethodName)) ∈ zG := zK_7 105 rfl rfl
theorem zw_1547 : (Jvm.Cond.instanceMethod ({ cls := "ConstructionLedgerModel", name := "isHeld", desc := "(I)Z" } : Jvm.MethodName)) ∈ zG := zK_7 107 rfl rfl
theorem zw_1548 : (Jvm.Cond.code ({ cls := "ConstructionLedgerModel", name := "isHeld", desc := "(I)Z" } : Jvm.MethodName) prog_11_method_73_code (4 : Nat) (Option.some Jvm.ClassFile.FieldType.boolean)) ∈ zG := zK_7 108 rfl rfl
theorem zw_1549 : (Jvm.Cond.methodLink "ConstructionLedgerLaw" (234 : Nat) ({ cls := "ConstructionLedgerModel", name := "dueBetween", desc := "(II)J" } : Jvm.MethodName)) ∈ zG := zK_7 109 rfl rfl
theorem zw_1550 : (Jvm.Cond.instanceMethod ({ cls := "ConstructionLedgerModel", name := "dueBetween", desc := "(II)J" } : Jvm.MethodName)) ∈ zG := zK_7 110 rfl rfl
theorem zw_1551 : (Jvm.Cond.selects "ConstructionLedgerModel" ({ cls := "ConstructionLedgerModel", name := "dueBetween", desc := "(II)J" } : Jvm.MethodName) ({ cls := "ConstructionLedgerModel", name := "dueBetween", desc := "(II)J" } : Jvm.MethodName)) ∈ zG := zK_7 111 rfl rfl
theorem zw_1552 : (Jvm.Cond.code ({ cls := "ConstructionLedgerModel", name := "dueBetween", desc := "(II)J" } : Jvm.MethodName) prog_11_method_75_code (6 : Nat) (Option.some Jvm.ClassFile.FieldType.long)) ∈ zG := zK_7 112 rfl rfl
theorem zw_1553 : (Jvm.Cond.methodLink "ConstructionLedgerLaw" (237 : Nat) ({ cls := "ConstructionLedgerModel", name := "settleDays", desc := "(II)I" } : Jvm.MethodName)) ∈ zG := zK_7 113 rfl rfl
theorem zw_1554 : (Jvm.Cond.instanceMethod ({ cls := "ConstructionLedgerModel", name := "settleDays", desc := "(II)I" } : Jvm.MethodName)) ∈ zG := zK_7 114 rfl rfl
theorem zw_1555 : (Jvm.Cond.selects "ConstructionLedgerModel" ({ cls := "ConstructionLedgerModel", name := "settleDays", desc := "(II)I" } : Jvm.MethodName) ({ cls := "ConstructionLedgerModel", name := "settleDays", desc := "(II)I" } : Jvm.MethodName)) ∈ zG := zK_7 115 rfl rfl
theorem zw_1556 : (Jvm.Cond.code ({ cls := "ConstructionLedgerModel", name := "settleDays", desc := "(II)I" } : Jvm.MethodName) prog_11_method_80_code (6 : Nat) (Option.some Jvm.ClassFile.FieldType.int)) ∈ zG := zK_7 116 rfl rfl
theorem zw_1557 : (Jvm.Cond.constantLong "ConstructionLedgerModel" (286 : Nat) (200 : Int64)) ∈ zG := zK_7 117 rfl rfl
theorem zw_1558 : (Jvm.Cond.methodLink "ConstructionLedgerModel" (288 : Nat) ({ cls := "ConstructionLedgerModel", name := "settles", desc := "()J" } : Jvm.MethodName)) ∈ zG := zK_7 118 rfl rfl
theorem zw_1560 : (Jvm.Cond.instanceMethod ({ cls := "ConstructionLedgerModel", name := "settles", desc := "()J" } : Jvm.MethodName)) ∈ zG := zK_7 120 rfl rfl
theorem zw_1561 : (Jvm.Cond.code ({ cls := "ConstructionLedgerModel", name := "settles", desc := "()J" } : Jvm.MethodName) prog_11_method_79_code (8 : Nat) (Option.some Jvm.ClassFile.FieldType.long)) ∈ zG := zK_7 121 rfl rfl
theorem zw_1562 : (Jvm.Cond.methodLink "ConstructionLedgerModel" (279 : Nat) ({ cls := "ConstructionLedgerModel", name := "dueNext", desc := "(JIJ)I" } : Jvm.MethodName)) ∈ zG := zK_7 122 rfl rfl
theorem zw_1564 : (Jvm.Cond.instanceMethod ({ cls := "ConstructionLedgerModel", name := "dueNext", desc := "(JIJ)I" } : Jvm.MethodName)) ∈ zG := zK_7 124 rfl rfl
theorem zw_1565 : (Jvm.Cond.code ({ cls := "ConstructionLedgerModel", name := "dueNext", desc := "(JIJ)I" } : Jvm.MethodName) prog_11_method_78_code (10 : Nat) (Option.some Jvm.ClassFile.FieldType.int)) ∈ zG := zK_7 125 rfl rfl
theorem zw_1566 : (Jvm.Cond.methodLink "ConstructionLedgerModel" (276 : Nat) ({ cls := "ConstructionLedgerModel", name := "payerOf", desc := "(I)I" } : Jvm.MethodName)) ∈ zG := zK_7 126 rfl rfl
theorem zw_1568 : (Jvm.Cond.instanceMethod ({ cls := "ConstructionLedgerModel", name := "payerOf", desc := "(I)I" } : Jvm.MethodName)) ∈ zG := zK_7 128 rfl rfl
theorem zw_1569 : (Jvm.Cond.code ({ cls := "ConstructionLedgerModel", name := "payerOf", desc := "(I)I" } : Jvm.MethodName) prog_11_method_76_code (2 : Nat) (Option.some Jvm.ClassFile.FieldType.int)) ∈ zG := zK_7 129 rfl rfl
theorem zw_1570 : (Jvm.Cond.methodLink "ConstructionLedgerModel" (283 : Nat) ({ cls := "ConstructionLedgerModel", name := "pays", desc := "(IJ)V" } : Jvm.MethodName)) ∈ zG := zK_7 130 rfl rfl
theorem zw_1572 : (Jvm.Cond.instanceMethod ({ cls := "ConstructionLedgerModel", name := "pays", desc := "(IJ)V" } : Jvm.MethodName)) ∈ zG := zK_7 132 rfl rfl
theorem zw_1573 : (Jvm.Cond.code ({ cls := "ConstructionLedgerModel", name := "pays", desc := "(IJ)V" } : Jvm.MethodName) prog_11_method_77_code (6 : Nat) (Option.none : Option Jvm.ClassFile.FieldType)) ∈ zG := zK_7 133 rfl rfl
theorem zw_1574 : (Jvm.Cond.methodLink "ConstructionLedgerLaw" (241 : Nat) ({ cls := "ConstructionLedgerModel", name := "variationCount", desc := "()I" } : Jvm.MethodName)) ∈ zG := zK_7 134 rfl rfl
theorem zw_1575 : (Jvm.Cond.instanceMethod ({ cls := "ConstructionLedgerModel", name := "variationCount", desc := "()I" } : Jvm.MethodName)) ∈ zG := zK_7 135 rfl rfl
theorem zw_1576 : (Jvm.Cond.selects "ConstructionLedgerModel" ({ cls := "ConstructionLedgerModel", name := "variationCount", desc := "()I" } : Jvm.MethodName) ({ cls := "ConstructionLedgerModel", name := "variationCount", desc := "()I" } : Jvm.MethodName)) ∈ zG := zK_7 136 rfl rfl
theorem zw_1577 : (Jvm.Cond.code ({ cls := "ConstructionLedgerModel", name := "variationCount", desc := "()I" } : Jvm.MethodName) prog_11_method_81_code (1 : Nat) (Option.some Jvm.ClassFile.FieldType.int)) ∈ zG := zK_7 137 rfl rfl
theorem zw_1578 : (Jvm.Cond.methodLink "ConstructionLedgerLaw" (244 : Nat) ({ cls := "ConstructionLedgerModel", name := "isApproved", desc := "(I)Z" } : Jvm.MethodName)) ∈ zG := zK_7 138 rfl rfl
theorem zw_1579 : (Jvm.Cond.instanceMethod ({ cls := "ConstructionLedgerModel", name := "isApproved", desc := "(I)Z" } : Jvm.MethodName)) ∈ zG := zK_7 139 rfl rfl
theorem zw_1580 : (Jvm.Cond.selects "ConstructionLedgerModel" ({ cls := "ConstructionLedgerModel", name := "isApproved", desc := "(I)Z" } : Jvm.MethodName) ({ cls := "ConstructionLedgerModel", name := "isApproved", desc := "(I)Z" } : Jvm.MethodName)) ∈ zG := zK_7 140 rfl rfl
theorem zw_1581 : (Jvm.Cond.code ({ cls := "ConstructionLedgerModel", name := "isApproved", desc := "(I)Z" } : Jvm.MethodName) prog_11_method_83_code (2 : Nat) (Option.some Jvm.ClassFile.FieldType.boolean)) ∈ zG := zK_7 141 rfl rfl
theorem zw_1582 : (Jvm.Cond.methodLink "ConstructionLedgerModel" (292 : Nat) ({ cls := "ConstructionLedgerModel", name := "isVariation", desc := "(I)Z" } : Jvm.MethodName)) ∈ zG := zK_7 142 rfl rfl
theorem zw_1584 : (Jvm.Cond.instanceMethod ({ cls := "ConstructionLedgerModel", name := "isVariation", desc := "(I)Z" } : Jvm.MethodName)) ∈ zG := zK_7 144 rfl rfl
theorem zw_1585 : (Jvm.Cond.code ({ cls := "ConstructionLedgerModel", name := "isVariation", desc := "(I)Z" } : Jvm.MethodName) prog_11_method_82_code (2 : Nat) (Option.some Jvm.ClassFile.FieldType.boolean)) ∈ zG := zK_7 145 rfl rfl
theorem zw_1586 : (Jvm.Cond.methodLink "ConstructionLedgerLaw" (247 : Nat) ({ cls := "ConstructionLedgerModel", name := "variationWorth", desc := "(I)J" } : Jvm.MethodName)) ∈ zG := zK_7 146 rfl rfl
theorem zw_1587 : (Jvm.Cond.instanceMethod ({ cls := "ConstructionLedgerModel", name := "variationWorth", desc := "(I)J" } : Jvm.MethodName)) ∈ zG := zK_7 147 rfl rfl
theorem zw_1588 : (Jvm.Cond.selects "ConstructionLedgerModel" ({ cls := "ConstructionLedgerModel", name := "variationWorth", desc := "(I)J" } : Jvm.MethodName) ({ cls := "ConstructionLedgerModel", name := "variationWorth", desc := "(I)J" } : Jvm.MethodName)) ∈ zG := zK_7 148 rfl rfl
theorem zw_1589 : (Jvm.Cond.code ({ cls := "ConstructionLedgerModel", name := "variationWorth", desc := "(I)J" } : Jvm.MethodName) prog_11_method_85_code (3 : Nat) (Option.some Jvm.ClassFile.FieldType.long)) ∈ zG := zK_7 149 rfl rfl
theorem zw_1590 : (Jvm.Cond.methodLink "ConstructionLedgerModel" (295 : Nat) ({ cls := "ConstructionLedgerModel", name := "quantityBy", desc := "(I)J" } : Jvm.MethodName)) ∈ zG := zK_7 150 rfl rfl
theorem zw_1592 : (Jvm.Cond.instanceMethod ({ cls := "ConstructionLedgerModel", name := "quantityBy", desc := "(I)J" } : Jvm.MethodName)) ∈ zG := zK_7 152 rfl rfl
theorem zw_1593 : (Jvm.Cond.code ({ cls := "ConstructionLedgerModel", name := "quantityBy", desc := "(I)J" } : Jvm.MethodName) prog_11_method_84_code (3 : Nat) (Option.some Jvm.ClassFile.FieldType.long)) ∈ zG := zK_7 153 rfl rfl
theorem zw_1594 : (Jvm.Cond.methodLink "ConstructionLedgerLaw" (251 : Nat) ({ cls := "ConstructionLedgerModel", name := "lienCount", desc := "()I" } : Jvm.MethodName)) ∈ zG := zK_7 154 rfl rfl
theorem zw_1595 : (Jvm.Cond.instanceMethod ({ cls := "ConstructionLedgerModel", name := "lienCount", desc := "()I" } : Jvm.MethodName)) ∈ zG := zK_7 155 rfl rfl
theorem zw_1596 : (Jvm.Cond.selects "ConstructionLedgerModel" ({ cls := "ConstructionLedgerModel", name := "lienCount", desc := "()I" } : Jvm.MethodName) ({ cls := "ConstructionLedgerModel", name := "lienCount", desc := "()I" } : Jvm.MethodName)) ∈ zG := zK_7 156 rfl rfl
theorem zw_1597 : (Jvm.Cond.code ({ cls := "ConstructionLedgerModel", name := "lienCount", desc := "()I" } : Jvm.MethodName) prog_11_method_87_code (1 : Nat) (Option.some Jvm.ClassFile.FieldType.int)) ∈ zG := zK_7 157 rfl rfl
theorem zw_1598 : (Jvm.Cond.methodLink "ConstructionLedgerLaw" (254 : Nat) ({ cls := "ConstructionLedgerModel", name := "claim", desc := "(I)J" } : Jvm.MethodName)) ∈ zG := zK_7 158 rfl rfl
theorem zw_1599 : (Jvm.Cond.instanceMethod ({ cls := "ConstructionLedgerModel", name := "claim", desc := "(I)J" } : Jvm.MethodName)) ∈ zG := zK_7 159 rfl rfl
theorem zw_1600 : (Jvm.Cond.selects "ConstructionLedgerModel" ({ cls := "ConstructionLedgerModel", name := "claim", desc := "(I)J" } : Jvm.MethodName) ({ cls := "ConstructionLedgerModel", name := "claim", desc := "(I)J" } : Jvm.MethodName)) ∈ zG := zK_7 160 rfl rfl
theorem zw_1601 : (Jvm.Cond.code ({ cls := "ConstructionLedgerModel", name := "claim", desc := "(I)J" } : Jvm.MethodName) prog_11_method_90_code (2 : Nat) (Option.some Jvm.ClassFile.FieldType.long)) ∈ zG := zK_7 161 rfl rfl
theorem zw_1602 : (Jvm.Cond.methodLink "ConstructionLedgerModel" (301 : Nat) ({ cls := "ConstructionLedgerModel", name := "isLien", desc := "(I)Z" } : Jvm.MethodName)) ∈ zG := zK_7 162 rfl rfl
theorem zw_1604 : (Jvm.Cond.instanceMethod ({ cls := "ConstructionLedgerModel", name := "isLien", desc := "(I)Z" } : Jvm.MethodName)) ∈ zG := zK_7 164 rfl rfl
theorem zw_1605 : (Jvm.Cond.code ({ cls := "ConstructionLedgerModel", name := "isLien", desc := "(I)Z" } : Jvm.MethodName) prog_11_method_88_code (2 : Nat) (Option.some Jvm.ClassFile.FieldType.boolean)) ∈ zG := zK_7 165 rfl rfl
theorem zw_1606 : (Jvm.Cond.methodLink "ConstructionLedgerModel" (304 : Nat) ({ cls := "ConstructionLedgerModel", name := "claimOf", desc := "(I)J" } : Jvm.MethodName)) ∈ zG := zK_7 166 rfl rfl
theorem zw_1608 : (Jvm.Cond.instanceMethod ({ cls := "ConstructionLedgerModel", name := "claimOf", desc := "(I)J" } : Jvm.MethodName)) ∈ zG := zK_7 168 rfl rfl
theorem zw_1609 : (Jvm.Cond.code ({ cls := "ConstructionLedgerModel", name := "claimOf", desc := "(I)J" } : Jvm.MethodName) prog_11_method_89_code (2 : Nat) (Option.some Jvm.ClassFile.FieldType.long)) ∈ zG := zK_7 169 rfl rfl
theorem zw_1610 : (Jvm.Cond.methodLink "ConstructionLedgerModel" (298 : Nat) ({ cls := "ConstructionLedgerModel", name := "lien", desc := "(I)I" } : Jvm.MethodName)) ∈ zG := zK_7 170 rfl rfl
theorem zw_1611 : (Jvm.Cond.static ({ cls := "ConstructionLedgerModel", name := "lien", desc := "(I)I" } : Jvm.MethodName)) ∈ zG := zK_7 171 rfl rfl
theorem zw_1612 : (Jvm.Cond.code ({ cls := "ConstructionLedgerModel", name := "lien", desc := "(I)I" } : Jvm.MethodName) prog_11_method_86_code (1 : Nat) (Option.some Jvm.ClassFile.FieldType.int)) ∈ zG := zK_7 172 rfl rfl
theorem zw_1613 : (Jvm.Cond.methodLink "ConstructionLedgerLaw" (257 : Nat) ({ cls := "ConstructionLedgerModel", name := "priority", desc := "(I)I" } : Jvm.MethodName)) ∈ zG := zK_7 173 rfl rfl
theorem zw_1614 : (Jvm.Cond.instanceMethod ({ cls := "ConstructionLedgerModel", name := "priority", desc := "(I)I" } : Jvm.MethodName)) ∈ zG := zK_7 174 rfl rfl
theorem zw_1615 : (Jvm.Cond.selects "ConstructionLedgerModel" ({ cls := "ConstructionLedgerModel", name := "priority", desc := "(I)I" } : Jvm.MethodName) ({ cls := "ConstructionLedgerModel", name := "priority", desc := "(I)I" } : Jvm.MethodName)) ∈ zG := zK_7 175 rfl rfl
theorem zw_1616 : (Jvm.Cond.code ({ cls := "ConstructionLedgerModel", name := "priority", desc := "(I)I" } : Jvm.MethodName) prog_11_method_94_code (4 : Nat) (Option.some Jvm.ClassFile.FieldType.int)) ∈ zG := zK_7 176 rfl rfl
theorem zw_1617 : (Jvm.Cond.methodLink "ConstructionLedgerModel" (313 : Nat) ({ cls := "ConstructionLedgerModel", name := "placeOf", desc := "(I)I" } : Jvm.MethodName)) ∈ zG := zK_7 177 rfl rfl
theorem zw_1619 : (Jvm.Cond.instanceMethod ({ cls := "ConstructionLedgerModel", name := "placeOf", desc := "(I)I" } : Jvm.MethodName)) ∈ zG := zK_7 179 rfl rfl
theorem zw_1620 : (Jvm.Cond.code ({ cls := "ConstructionLedgerModel", name := "placeOf", desc := "(I)I" } : Jvm.MethodName) prog_11_method_93_code (4 : Nat) (Option.some Jvm.ClassFile.FieldType.int)) ∈ zG := zK_7 180 rfl rfl
theorem zw_1621 : (Jvm.Cond.methodLink "ConstructionLedgerModel" (310 : Nat) ({ cls := "ConstructionLedgerModel", name := "isAhead", desc := "(II)Z" } : Jvm.MethodName)) ∈ zG := zK_7 181 rfl rfl
theorem zw_1623 : (Jvm.Cond.instanceMethod ({ cls := "ConstructionLedgerModel", name := "isAhead", desc := "(II)Z" } : Jvm.MethodName)) ∈ zG := zK_7 183 rfl rfl
theorem zw_1624 : (Jvm.Cond.code ({ cls := "ConstructionLedgerModel", name := "isAhead", desc := "(II)Z" } : Jvm.MethodName) prog_11_method_92_code (3 : Nat) (Option.some Jvm.ClassFile.FieldType.boolean)) ∈ zG := zK_7 184 rfl rfl
theorem zw_1625 : (Jvm.Cond.methodLink "ConstructionLedgerModel" (307 : Nat) ({ cls := "ConstructionLedgerModel", name := "rankOf", desc := "(I)J" } : Jvm.MethodName)) ∈ zG := zK_7 185 rfl rfl
theorem zw_1627 : (Jvm.Cond.instanceMethod ({ cls := "ConstructionLedgerModel", name := "rankOf", desc := "(I)J" } : Jvm.MethodName)) ∈ zG := zK_7 187 rfl rfl
theorem zw_1628 : (Jvm.Cond.code ({ cls := "ConstructionLedgerModel", name := "rankOf", desc := "(I)J" } : Jvm.MethodName) prog_11_method_91_code (2 : Nat) (Option.some Jvm.ClassFile.FieldType.long)) ∈ zG := zK_7 188 rfl rfl
theorem zw_1629 : (Jvm.Cond.methodLink "ConstructionLedgerLaw" (260 : Nat) ({ cls := "ConstructionLedgerModel", name := "share", desc := "(II)J" } : Jvm.MethodName)) ∈ zG := zK_7 189 rfl rfl
theorem zw_1630 : (Jvm.Cond.instanceMethod ({ cls := "ConstructionLedgerModel", name := "share", desc := "(II)J" } : Jvm.MethodName)) ∈ zG := zK_7 190 rfl rfl
theorem zw_1631 : (Jvm.Cond.selects "ConstructionLedgerModel" ({ cls := "ConstructionLedgerModel", name := "share", desc := "(II)J" } : Jvm.MethodName) ({ cls := "ConstructionLedgerModel", name := "share", desc := "(II)J" } : Jvm.MethodName)) ∈ zG := zK_7 191 rfl rfl
theorem zw_1632 : (Jvm.Cond.code ({ cls := "ConstructionLedgerModel", name := "share", desc := "(II)J" } : Jvm.MethodName) prog_11_method_98_code (11 : Nat) (Option.some Jvm.ClassFile.FieldType.long)) ∈ zG := zK_7 192 rfl rfl
theorem zw_1633 : (Jvm.Cond.constantLong "ConstructionLedgerModel" (316 : Nat) (99999999 : Int64)) ∈ zG := zK_7 193 rfl rfl
theorem zw_1634 : (Jvm.Cond.methodLink "ConstructionLedgerModel" (318 : Nat) ({ cls := "ConstructionLedgerModel", name := "claimsOf", desc := "(J)J" } : Jvm.MethodName)) ∈ zG := zK_7 194 rfl rfl
theorem zw_1636 : (Jvm.Cond.instanceMethod ({ cls := "ConstructionLedgerModel", name := "claimsOf", desc := "(J)J" } : Jvm.MethodName)) ∈ zG := zK_7 196 rfl rfl
theorem zw_1637 : (Jvm.Cond.code ({ cls := "ConstructionLedgerModel", name := "claimsOf", desc := "(J)J" } : Jvm.MethodName) prog_11_method_95_code (6 : Nat) (Option.some Jvm.ClassFile.FieldType.long)) ∈ zG := zK_7 197 rfl rfl
theorem zw_1638 : (Jvm.Cond.methodLink "ConstructionLedgerModel" (322 : Nat) ({ cls := "ConstructionLedgerModel", name := "partsOf", desc := "(JJJ)J" } : Jvm.MethodName)) ∈ zG := zK_7 198 rfl rfl
theorem zw_1640 : (Jvm.Cond.instanceMethod ({ cls := "ConstructionLedgerModel", name := "partsOf", desc := "(JJJ)J" } : Jvm.MethodName)) ∈ zG := zK_7 200 rfl rfl
theorem zw_1641 : (Jvm.Cond.code ({ cls := "ConstructionLedgerModel", name := "partsOf", desc := "(JJJ)J" } : Jvm.MethodName) prog_11_method_97_code (10 : Nat) (Option.some Jvm.ClassFile.FieldType.long)) ∈ zG := zK_7 201 rfl rfl
theorem zw_1642 : (Jvm.Cond.methodLink "ConstructionLedgerModel" (325 : Nat) ({ cls := "ConstructionLedgerModel", name := "aheadWith", desc := "(IJJ)J" } : Jvm.MethodName)) ∈ zG := zK_7 202 rfl rfl
theorem zw_1644 : (Jvm.Cond.instanceMethod ({ cls := "ConstructionLedgerModel", name := "aheadWith", desc := "(IJJ)J" } : Jvm.MethodName)) ∈ zG := zK_7 204 rfl rfl
theorem zw_1645 : (Jvm.Cond.code ({ cls := "ConstructionLedgerModel", name := "aheadWith", desc := "(IJJ)J" } : Jvm.MethodName) prog_11_method_96_code (9 : Nat) (Option.some Jvm.ClassFile.FieldType.long)) ∈ zG := zK_7 205 rfl rfl
theorem zw_1646 : (Jvm.Cond.methodLink "ConstructionLedgerLaw" (264 : Nat) ({ cls := "ConstructionLedgerModel", name := "measure", desc := "(III)I" } : Jvm.MethodName)) ∈ zG := zK_7 206 rfl rfl
theorem zw_1647 : (Jvm.Cond.instanceMethod ({ cls := "ConstructionLedgerModel", name := "measure", desc := "(III)I" } : Jvm.MethodName)) ∈ zG := zK_7 207 rfl rfl
theorem zw_1648 : (Jvm.Cond.selects "ConstructionLedgerModel" ({ cls := "ConstructionLedgerModel", name := "measure", desc := "(III)I" } : Jvm.MethodName) ({ cls := "ConstructionLedgerModel", name := "measure", desc := "(III)I" } : Jvm.MethodName)) ∈ zG := zK_7 208 rfl rfl
theorem zw_1649 : (Jvm.Cond.code ({ cls := "ConstructionLedgerModel", name := "measure", desc := "(III)I" } : Jvm.MethodName) prog_11_method_99_code (5 : Nat) (Option.some Jvm.ClassFile.FieldType.int)) ∈ zG := zK_7 209 rfl rfl
theorem zw_1650 : (Jvm.Cond.methodLink "ConstructionLedgerLaw" (267 : Nat) ({ cls := "ConstructionLedgerModel", name := "propose", desc := "(III)I" } : Jvm.MethodName)) ∈ zG := zK_7 210 rfl rfl
theorem zw_1651 : (Jvm.Cond.instanceMethod ({ cls := "ConstructionLedgerModel", name := "propose", desc := "(III)I" } : Jvm.MethodName)) ∈ zG := zK_7 211 rfl rfl
theorem zw_1652 : (Jvm.Cond.selects "ConstructionLedgerModel" ({ cls := "ConstructionLedgerModel", name := "propose", desc := "(III)I" } : Jvm.MethodName) ({ cls := "ConstructionLedgerModel", name := "propose", desc := "(III)I" } : Jvm.MethodName)) ∈ zG := zK_7 212 rfl rfl
theorem zw_1653 : (Jvm.Cond.code ({ cls := "ConstructionLedgerModel", name := "propose", desc := "(III)I" } : Jvm.MethodName) prog_11_method_100_code (5 : Nat) (Option.some Jvm.ClassFile.FieldType.int)) ∈ zG := zK_7 213 rfl rfl
theorem zw_1654 : (Jvm.Cond.constantLong "ConstructionLedgerModel" (329 : Nat) (-999 : Int64)) ∈ zG := zK_7 214 rfl rfl
theorem zw_1655 : (Jvm.Cond.constantLong "ConstructionLedgerModel" (331 : Nat) (999 : Int64)) ∈ zG := zK_7 215 rfl rfl
theorem zw_1656 : (Jvm.Cond.constantLong "ConstructionLedgerModel" (333 : Nat) (20 : Int64)) ∈ zG := zK_7 216 rfl rfl
theorem zw_1657 : (Jvm.Cond.methodLink "ConstructionLedgerLaw" (270 : Nat) ({ cls := "ConstructionLedgerModel", name := "approve", desc := "(I)I" } : Jvm.MethodName)) ∈ zG := zK_7 217 rfl rfl
theorem zw_1658 : (Jvm.Cond.instanceMethod ({ cls := "ConstructionLedgerModel", name := "approve", desc := "(I)I" } : Jvm.MethodName)) ∈ zG := zK_7 218 rfl rfl
theorem zw_1659 : (Jvm.Cond.selects "ConstructionLedgerModel" ({ cls := "ConstructionLedgerModel", name := "approve", desc := "(I)I" } : Jvm.MethodName) ({ cls := "ConstructionLedgerModel", name := "approve", desc := "(I)I" } : Jvm.MethodName)) ∈ zG := zK_7 219 rfl rfl
theorem zw_1660 : (Jvm.Cond.code ({ cls := "ConstructionLedgerModel", name := "approve", desc := "(I)I" } : Jvm.MethodName) prog_11_method_101_code (3 : Nat) (Option.some Jvm.ClassFile.FieldType.int)) ∈ zG := zK_7 220 rfl rfl
theorem zw_1661 : (Jvm.Cond.methodLink "ConstructionLedgerLaw" (273 : Nat) ({ cls := "ConstructionLedgerModel", name := "certify", desc := "(I)I" } : Jvm.MethodName)) ∈ zG := zK_7 221 rfl rfl
theorem zw_1662 : (Jvm.Cond.instanceMethod ({ cls := "ConstructionLedgerModel", name := "certify", desc := "(I)I" } : Jvm.MethodName)) ∈ zG := zK_7 222 rfl rfl
theorem zw_1663 : (Jvm.Cond.selects "ConstructionLedgerModel" ({ cls := "ConstructionLedgerModel", name := "certify", desc := "(I)I" } : Jvm.MethodName) ({ cls := "ConstructionLedgerModel", name := "certify", desc := "(I)I" } : Jvm.MethodName)) ∈ zG := zK_7 223 rfl rfl
theorem zw_1664 : (Jvm.Cond.code ({ cls := "ConstructionLedgerModel", name := "certify", desc := "(I)I" } : Jvm.MethodName) prog_11_method_102_code (5 : Nat) (Option.some Jvm.ClassFile.FieldType.int)) ∈ zG := zK_7 224 rfl rfl
theorem zw_1665 : (Jvm.Cond.constantLong "ConstructionLedgerModel" (335 : Nat) (40 : Int64)) ∈ zG := zK_7 225 rfl rfl
theorem zw_1666 : (Jvm.Cond.methodLink "ConstructionLedgerLaw" (276 : Nat) ({ cls := "ConstructionLedgerModel", name := "nextStage", desc := "(I)I" } : Jvm.MethodName)) ∈ zG := zK_7 226 rfl rfl
theorem zw_1667 : (Jvm.Cond.instanceMethod ({ cls := "ConstructionLedgerModel", name := "nextStage", desc := "(I)I" } : Jvm.MethodName)) ∈ zG := zK_7 227 rfl rfl
theorem zw_1668 : (Jvm.Cond.selects "ConstructionLedgerModel" ({ cls := "ConstructionLedgerModel", name := "nextStage", desc := "(I)I" } : Jvm.MethodName) ({ cls := "ConstructionLedgerModel", name := "nextStage", desc := "(I)I" } : Jvm.MethodName)) ∈ zG := zK_7 228 rfl rfl
theorem zw_1669 : (Jvm.Cond.code ({ cls := "ConstructionLedgerModel", name := "nextStage", desc := "(I)I" } : Jvm.MethodName) prog_11_method_104_code (4 : Nat) (Option.some Jvm.ClassFile.FieldType.int)) ∈ zG := zK_7 229 rfl rfl
theorem zw_1670 : (Jvm.Cond.methodLink "ConstructionLedgerModel" (337 : Nat) ({ cls := "ConstructionLedgerModel", name := "isDone", desc := "(I)Z" } : Jvm.MethodName)) ∈ zG := zK_7 230 rfl rfl
theorem zw_1672 : (Jvm.Cond.instanceMethod ({ cls := "ConstructionLedgerModel", name := "isDone", desc := "(I)Z" } : Jvm.MethodName)) ∈ zG := zK_7 232 rfl rfl
theorem zw_1673 : (Jvm.Cond.code ({ cls := "ConstructionLedgerModel", name := "isDone", desc := "(I)Z" } : Jvm.MethodName) prog_11_method_103_code (3 : Nat) (Option.some Jvm.ClassFile.FieldType.boolean)) ∈ zG := zK_7 233 rfl rfl
theorem zw_1674 : (Jvm.Cond.methodLink "ConstructionLedgerLaw" (279 : Nat) ({ cls := "ConstructionLedgerModel", name := "pay", desc := "(II)J" } : Jvm.MethodName)) ∈ zG := zK_7 234 rfl rfl
theorem zw_1675 : (Jvm.Cond.instanceMethod ({ cls := "ConstructionLedgerModel", name := "pay", desc := "(II)J" } : Jvm.MethodName)) ∈ zG := zK_7 235 rfl rfl
theorem zw_1676 : (Jvm.Cond.selects "ConstructionLedgerModel" ({ cls := "ConstructionLedgerModel", name := "pay", desc := "(II)J" } : Jvm.MethodName) ({ cls := "ConstructionLedgerModel", name := "pay", desc := "(II)J" } : Jvm.MethodName)) ∈ zG := zK_7 236 rfl rfl
theorem zw_1677 : (Jvm.Cond.code ({ cls := "ConstructionLedgerModel", name := "pay", desc := "(II)J" } : Jvm.MethodName) prog_11_method_105_code (3 : Nat) (Option.some Jvm.ClassFile.FieldType.long)) ∈ zG := zK_7 237 rfl rfl
theorem zw_1678 : (Jvm.Cond.methodLink "ConstructionLedgerLaw" (282 : Nat) ({ cls := "ConstructionLedgerModel", name := "deposit", desc := "(I)J" } : Jvm.MethodName)) ∈ zG := zK_7 238 rfl rfl
theorem zw_1679 : (Jvm.Cond.instanceMethod ({ cls := "ConstructionLedgerModel", name := "deposit", desc := "(I)J" } : Jvm.MethodName)) ∈ zG := zK_7 239 rfl rfl
theorem zw_1680 : (Jvm.Cond.selects "ConstructionLedgerModel" ({ cls := "ConstructionLedgerModel", name := "deposit", desc := "(I)J" } : Jvm.MethodName) ({ cls := "ConstructionLedgerModel", name := "deposit", desc := "(I)J" } : Jvm.MethodName)) ∈ zG := zK_8 0 rfl rfl
theorem zw_1681 : (Jvm.Cond.code ({ cls := "ConstructionLedgerModel", name := "deposit", desc := "(I)J" } : Jvm.MethodName) prog_11_method_106_code (2 : Nat) (Option.some Jvm.ClassFile.FieldType.long)) ∈ zG := zK_8 1 rfl rfl
theorem zw_1682 : (Jvm.Cond.constantLong "ConstructionLedgerModel" (340 : Nat) (9999999 : Int64)) ∈ zG := zK_8 2 rfl rfl
theorem zw_1683 : (Jvm.Cond.constantLong "ConstructionLedgerModel" (342 : Nat) (999999999 : Int64)) ∈ zG := zK_8 3 rfl rfl
theorem zw_1684 : (Jvm.Cond.methodLink "ConstructionLedgerLaw" (285 : Nat) ({ cls := "ConstructionLedgerModel", name := "pass", desc := "(I)I" } : Jvm.MethodName)) ∈ zG := zK_8 4 rfl rfl
theorem zw_1685 : (Jvm.Cond.instanceMethod ({ cls := "ConstructionLedgerModel", name := "pass", desc := "(I)I" } : Jvm.MethodName)) ∈ zG := zK_8 5 rfl rfl
theorem zw_1686 : (Jvm.Cond.selects "ConstructionLedgerModel" ({ cls := "ConstructionLedgerModel", name := "pass", desc := "(I)I" } : Jvm.MethodName) ({ cls := "ConstructionLedgerModel", name := "pass", desc := "(I)I" } : Jvm.MethodName)) ∈ zG := zK_8 6 rfl rfl
theorem zw_1687 : (Jvm.Cond.code ({ cls := "ConstructionLedgerModel", name := "pass", desc := "(I)I" } : Jvm.MethodName) prog_11_method_107_code (2 : Nat) (Option.some Jvm.ClassFile.FieldType.int)) ∈ zG := zK_8 7 rfl rfl
theorem zw_1688 : (Jvm.Cond.constantLong "ConstructionLedgerModel" (344 : Nat) (365 : Int64)) ∈ zG := zK_8 8 rfl rfl
theorem zw_1689 : (Jvm.Cond.constantLong "ConstructionLedgerModel" (346 : Nat) (100000 : Int64)) ∈ zG := zK_8 9 rfl rfl
theorem zw_1690 : (Jvm.Cond.methodLink "ConstructionLedgerLaw" (288 : Nat) ({ cls := "ConstructionLedgerModel", name := "settle", desc := "(I)J" } : Jvm.MethodName)) ∈ zG := zK_8 10 rfl rfl
theorem zw_1691 : (Jvm.Cond.instanceMethod ({ cls := "ConstructionLedgerModel", name := "settle", desc := "(I)J" } : Jvm.MethodName)) ∈ zG := zK_8 11 rfl rfl
theorem zw_1692 : (Jvm.Cond.selects "ConstructionLedgerModel" ({ cls := "ConstructionLedgerModel", name := "settle", desc := "(I)J" } : Jvm.MethodName) ({ cls := "ConstructionLedgerModel", name := "settle", desc := "(I)J" } : Jvm.MethodName)) ∈ zG := zK_8 12 rfl rfl
theorem zw_1693 : (Jvm.Cond.code ({ cls := "ConstructionLedgerModel", name := "settle", desc := "(I)J" } : Jvm.MethodName) prog_11_method_108_code (5 : Nat) (Option.some Jvm.ClassFile.FieldType.long)) ∈ zG := zK_8 13 rfl rfl
theorem zw_1694 : (Jvm.Cond.methodLink "ConstructionLedgerLaw" (291 : Nat) ({ cls := "ConstructionLedgerModel", name := "fileLien", desc := "(I)I" } : Jvm.MethodName)) ∈ zG := zK_8 14 rfl rfl
theorem zw_1695 : (Jvm.Cond.instanceMethod ({ cls := "ConstructionLedgerModel", name := "fileLien", desc := "(I)I" } : Jvm.MethodName)) ∈ zG := zK_8 15 rfl rfl
theorem zw_1696 : (Jvm.Cond.selects "ConstructionLedgerModel" ({ cls := "ConstructionLedgerModel", name := "fileLien", desc := "(I)I" } : Jvm.MethodName) ({ cls := "ConstructionLedgerModel", name := "fileLien", desc := "(I)I" } : Jvm.MethodName)) ∈ zG := zK_8 16 rfl rfl
theorem zw_1697 : (Jvm.Cond.code ({ cls := "ConstructionLedgerModel", name := "fileLien", desc := "(I)I" } : Jvm.MethodName) prog_11_method_110_code (5 : Nat) (Option.some Jvm.ClassFile.FieldType.int)) ∈ zG := zK_8 17 rfl rfl
theorem zw_1698 : (Jvm.Cond.methodLink "ConstructionLedgerModel" (348 : Nat) ({ cls := "ConstructionLedgerModel", name := "hasClaim", desc := "(I)Z" } : Jvm.MethodName)) ∈ zG := zK_8 18 rfl rfl
theorem zw_1700 : (Jvm.Cond.instanceMethod ({ cls := "ConstructionLedgerModel", name := "hasClaim", desc := "(I)Z" } : Jvm.MethodName)) ∈ zG := zK_8 20 rfl rfl
theorem zw_1701 : (Jvm.Cond.code ({ cls := "ConstructionLedgerModel", name := "hasClaim", desc := "(I)Z" } : Jvm.MethodName) prog_11_method_109_code (3 : Nat) (Option.some Jvm.ClassFile.FieldType.boolean)) ∈ zG := zK_8 21 rfl rfl
theorem zw_1702 : (Jvm.Cond.constantLong "ConstructionLedgerModel" (351 : Nat) (12 : Int64)) ∈ zG := zK_8 22 rfl rfl
theorem zw_1703 : (Jvm.Cond.methodLink "ConstructionLedgerLaw" (294 : Nat) ({ cls := "ConstructionLedgerModel", name := "withdrawLien", desc := "(I)J" } : Jvm.MethodName)) ∈ zG := zK_8 23 rfl rfl
theorem zw_1704 : (Jvm.Cond.instanceMethod ({ cls := "ConstructionLedgerModel", name := "withdrawLien", desc := "(I)J" } : Jvm.MethodName)) ∈ zG := zK_8 24 rfl rfl
theorem zw_1705 : (Jvm.Cond.selects "ConstructionLedgerModel" ({ cls := "ConstructionLedgerModel", name := "withdrawLien", desc := "(I)J" } : Jvm.MethodName) ({ cls := "ConstructionLedgerModel", name := "withdrawLien", desc := "(I)J" } : Jvm.MethodName)) ∈ zG := zK_8 25 rfl rfl
theorem zw_1706 : (Jvm.Cond.code ({ cls := "ConstructionLedgerModel", name := "withdrawLien", desc := "(I)J" } : Jvm.MethodName) prog_11_method_111_code (4 : Nat) (Option.some Jvm.ClassFile.FieldType.long)) ∈ zG := zK_8 26 rfl rfl
theorem zw_1707 : (Jvm.Cond.methodLink "ConstructionLedgerLaw" (298 : Nat) ({ cls := "ConstructionLedgerModel", name := "undo", desc := "()I" } : Jvm.MethodName)) ∈ zG := zK_8 27 rfl rfl
theorem zw_1708 : (Jvm.Cond.instanceMethod ({ cls := "ConstructionLedgerModel", name := "undo", desc := "()I" } : Jvm.MethodName)) ∈ zG := zK_8 28 rfl rfl
theorem zw_1709 : (Jvm.Cond.selects "ConstructionLedgerModel" ({ cls := "ConstructionLedgerModel", name := "undo", desc := "()I" } : Jvm.MethodName) ({ cls := "ConstructionLedgerModel", name := "undo", desc := "()I" } : Jvm.MethodName)) ∈ zG := zK_8 29 rfl rfl
theorem zw_1710 : (Jvm.Cond.code ({ cls := "ConstructionLedgerModel", name := "undo", desc := "()I" } : Jvm.MethodName) prog_11_method_112_code (1 : Nat) (Option.some Jvm.ClassFile.FieldType.int)) ∈ zG := zK_8 30 rfl rfl
theorem zw_1711 : (Jvm.Cond.methodLink "ConstructionLedgerLaw" (303 : Nat) ({ cls := "ConstructionLedgerModel", name := "checksum", desc := "()J" } : Jvm.MethodName)) ∈ zG := zK_8 31 rfl rfl
theorem zw_1712 : (Jvm.Cond.instanceMethod ({ cls := "ConstructionLedgerModel", name := "checksum", desc := "()J" } : Jvm.MethodName)) ∈ zG := zK_8 32 rfl rfl
theorem zw_1713 : (Jvm.Cond.selects "ConstructionLedgerModel" ({ cls := "ConstructionLedgerModel", name := "checksum", desc := "()J" } : Jvm.MethodName) ({ cls := "ConstructionLedgerModel", name := "checksum", desc := "()J" } : Jvm.MethodName)) ∈ zG := zK_8 33 rfl rfl
theorem zw_1714 : (Jvm.Cond.code ({ cls := "ConstructionLedgerModel", name := "checksum", desc := "()J" } : Jvm.MethodName) prog_11_method_113_code (4 : Nat) (Option.some Jvm.ClassFile.FieldType.long)) ∈ zG := zK_8 34 rfl rfl
theorem zw_1715 : (Jvm.Cond.constantLong "ConstructionLedgerModel" (353 : Nat) (31 : Int64)) ∈ zG := zK_8 35 rfl rfl
theorem zw_1717 : (Jvm.Cond.fieldLink "java/lang/String" (9 : Nat) "java/lang/String" "value" "[B") ∈ zG := zK_8 37 rfl rfl
theorem zw_1718 : (Jvm.Cond.fieldLink "java/lang/String" (15 : Nat) "java/lang/String" "coder" "B") ∈ zG := zK_8 38 rfl rfl
