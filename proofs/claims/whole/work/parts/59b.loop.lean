/-- what a round of the law owes: the class and the reference answer, alike, and the invariant holds again -/
def lw_LS (I : LgT → MdT → Prop) (IL : PgT → LgT → MdT → Prop) (σ : LgT) (ρ : MdT) (q : Nat → Int32) : Nat → Prop
  | 0 => ∃ (v : Int32) (σ' : LgT) (ρ' : MdT), f_X8_append σ (q 1) (q 2) (q 3) (q 4) (q 5) = some (v, σ') ∧ g_X9_append ρ (q 1) (q 2) (q 3) (q 4) (q 5) = some (v, ρ') ∧ I σ' ρ'
  | 1 => (∃ (v b9 : Int32) (s : Nat → LgT) (q_17 : LdT) (ρ' : MdT), f_X8_checkRange (q 1) (0 : Int32) (rj_rd_filled σ.2.2.1) = some (.inr ()) ∧ ld_q σ (q 1) = some q_17 ∧ (∀ g, ld_20 σ (q 1) q_17 g = some (v, s g)) ∧ g_X9_load ρ (q 1) = some (b9, ρ') ∧ md_thrown ρ' = 0 ∧ v.toInt64 = b9.toInt64 ∧ ∀ g, IL (pgT (ld_D σ (q 1) q_17 g)) (s g) ρ') ∨ (∃ (b9 : Int32) (ρ' : MdT), f_X8_checkRange (q 1) (0 : Int32) (rj_rd_filled σ.2.2.1) = some (.inl "java/lang/IllegalArgumentException") ∧ g_X9_load ρ (q 1) = some (b9, ρ') ∧ md_thrown ρ' = 1 ∧ I σ ρ')
  | 2 => ∃ (v : Int32) (ρ' : MdT), f_X8_errorOffset σ  = some v ∧ g_X9_errorOffset ρ  = some (v, ρ') ∧ I σ ρ'
  | 3 => ∃ (v : Int32) (ρ' : MdT), f_X8_day σ  = some v ∧ g_X9_day ρ  = some (v, ρ') ∧ I σ ρ'
  | 4 => ∃ (v : Int32) (ρ' : MdT), f_X8_contractCount σ  = some v ∧ g_X9_contractCount ρ  = some (v, ρ') ∧ I σ ρ'
  | 5 => (∃ (v : Int32) (b9 : Int32) (ρ' : MdT), f_X8_parent σ (q 1) = some (.inr v) ∧ g_X9_parent ρ (q 1) = some (b9, ρ') ∧ md_thrown ρ' = 0 ∧ v.toInt64 = b9.toInt64 ∧ I σ ρ') ∨ (∃ (b9 : Int32) (ρ' : MdT), f_X8_parent σ (q 1) = some (.inl "java/lang/IndexOutOfBoundsException") ∧ g_X9_parent ρ (q 1) = some (b9, ρ') ∧ md_thrown ρ' = 1 ∧ I σ ρ')
  | 6 => (∃ (v : Int32) (b9 : Int32) (ρ' : MdT), f_X8_itemCount σ (q 1) = some (.inr v) ∧ g_X9_itemCount ρ (q 1) = some (b9, ρ') ∧ md_thrown ρ' = 0 ∧ v.toInt64 = b9.toInt64 ∧ I σ ρ') ∨ (∃ (b9 : Int32) (ρ' : MdT), f_X8_itemCount σ (q 1) = some (.inl "java/lang/IndexOutOfBoundsException") ∧ g_X9_itemCount ρ (q 1) = some (b9, ρ') ∧ md_thrown ρ' = 1 ∧ I σ ρ')
  | 7 => (∃ (v : Int32) (b9 : Int32) (ρ' : MdT), f_X8_quantity σ (q 1) (q 2) = some (.inr v) ∧ g_X9_quantity ρ (q 1) (q 2) = some (b9, ρ') ∧ md_thrown ρ' = 0 ∧ v.toInt64 = b9.toInt64 ∧ I σ ρ') ∨ (∃ (b9 : Int32) (ρ' : MdT), f_X8_quantity σ (q 1) (q 2) = some (.inl "java/lang/IndexOutOfBoundsException") ∧ g_X9_quantity ρ (q 1) (q 2) = some (b9, ρ') ∧ md_thrown ρ' = 1 ∧ I σ ρ')
  | 8 => (∃ (v : Int32) (b9 : Int32) (σ' : LgT) (ρ' : MdT), f_X8_specialRate σ (q 1) (q 2) = some (.inr (v, σ')) ∧ g_X9_specialRate ρ (q 1) (q 2) = some (b9, ρ') ∧ md_thrown ρ' = 0 ∧ v.toInt64 = b9.toInt64 ∧ I σ' ρ') ∨ (∃ (b9 : Int32) (σ' : LgT) (ρ' : MdT), f_X8_specialRate σ (q 1) (q 2) = some (.inl ("java/lang/IndexOutOfBoundsException", σ')) ∧ g_X9_specialRate ρ (q 1) (q 2) = some (b9, ρ') ∧ md_thrown ρ' = 1 ∧ I σ' ρ')
  | 9 => (∃ (v : Int64) (b9 : Int64) (σ' : LgT) (ρ' : MdT), f_X8_itemValue σ (q 1) (q 2) = some (.inr (v, σ')) ∧ g_X9_itemValue ρ (q 1) (q 2) = some (b9, ρ') ∧ md_thrown ρ' = 0 ∧ v = b9 ∧ I σ' ρ') ∨ (∃ (b9 : Int64) (σ' : LgT) (ρ' : MdT), f_X8_itemValue σ (q 1) (q 2) = some (.inl ("java/lang/IndexOutOfBoundsException", σ')) ∧ g_X9_itemValue ρ (q 1) (q 2) = some (b9, ρ') ∧ md_thrown ρ' = 1 ∧ I σ' ρ')
  | 10 => (∃ (v : Int64) (b9 : Int64) (ρ' : MdT), f_X8_firstSum σ (q 1) = some (.inr v) ∧ g_X9_firstSum ρ (q 1) = some (b9, ρ') ∧ md_thrown ρ' = 0 ∧ v = b9 ∧ I σ ρ') ∨ (∃ (b9 : Int64) (ρ' : MdT), f_X8_firstSum σ (q 1) = some (.inl "java/lang/IndexOutOfBoundsException") ∧ g_X9_firstSum ρ (q 1) = some (b9, ρ') ∧ md_thrown ρ' = 1 ∧ I σ ρ')
  | 11 => (∃ (v : Int64) (b9 : Int64) (σ' : LgT) (ρ' : MdT), f_X8_presentSum σ (q 1) = some (.inr (v, σ')) ∧ g_X9_presentSum ρ (q 1) = some (b9, ρ') ∧ md_thrown ρ' = 0 ∧ v = b9 ∧ I σ' ρ') ∨ (∃ (b9 : Int64) (σ' : LgT) (ρ' : MdT), f_X8_presentSum σ (q 1) = some (.inl ("java/lang/IndexOutOfBoundsException", σ')) ∧ g_X9_presentSum ρ (q 1) = some (b9, ρ') ∧ md_thrown ρ' = 1 ∧ I σ' ρ')
  | 12 => (∃ (v : Int64) (b9 : Int64) (σ' : LgT) (ρ' : MdT), f_X8_grossValue σ (q 1) = some (.inr (v, σ')) ∧ g_X9_grossValue ρ (q 1) = some (b9, ρ') ∧ md_thrown ρ' = 0 ∧ v = b9 ∧ I σ' ρ') ∨ (∃ (b9 : Int64) (σ' : LgT) (ρ' : MdT), f_X8_grossValue σ (q 1) = some (.inl ("java/lang/IndexOutOfBoundsException", σ')) ∧ g_X9_grossValue ρ (q 1) = some (b9, ρ') ∧ md_thrown ρ' = 1 ∧ I σ' ρ')
  | 13 => (∃ (v : Int64) (b9 : Int64) (σ' : LgT) (ρ' : MdT), f_X8_retention σ (q 1) = some (.inr (v, σ')) ∧ g_X9_retention ρ (q 1) = some (b9, ρ') ∧ md_thrown ρ' = 0 ∧ v = b9 ∧ I σ' ρ') ∨ (∃ (b9 : Int64) (σ' : LgT) (ρ' : MdT), f_X8_retention σ (q 1) = some (.inl ("java/lang/IndexOutOfBoundsException", σ')) ∧ g_X9_retention ρ (q 1) = some (b9, ρ') ∧ md_thrown ρ' = 1 ∧ I σ' ρ')
  | 14 => (∃ (v : Int64) (b9 : Int64) (ρ' : MdT), f_X8_certified σ (q 1) = some (.inr v) ∧ g_X9_certified ρ (q 1) = some (b9, ρ') ∧ md_thrown ρ' = 0 ∧ v = b9 ∧ I σ ρ') ∨ (∃ (b9 : Int64) (ρ' : MdT), f_X8_certified σ (q 1) = some (.inl "java/lang/IndexOutOfBoundsException") ∧ g_X9_certified ρ (q 1) = some (b9, ρ') ∧ md_thrown ρ' = 1 ∧ I σ ρ')
  | 15 => (∃ (v : Int64) (b9 : Int64) (ρ' : MdT), f_X8_unpaid σ (q 1) = some (.inr v) ∧ g_X9_unpaid ρ (q 1) = some (b9, ρ') ∧ md_thrown ρ' = 0 ∧ v = b9 ∧ I σ ρ') ∨ (∃ (b9 : Int64) (ρ' : MdT), f_X8_unpaid σ (q 1) = some (.inl "java/lang/IndexOutOfBoundsException") ∧ g_X9_unpaid ρ (q 1) = some (b9, ρ') ∧ md_thrown ρ' = 1 ∧ I σ ρ')
  | 16 => (∃ (v : Int64) (b9 : Int64) (ρ' : MdT), f_X8_overdue σ (q 1) = some (.inr v) ∧ g_X9_overdue ρ (q 1) = some (b9, ρ') ∧ md_thrown ρ' = 0 ∧ v = b9 ∧ I σ ρ') ∨ (∃ (b9 : Int64) (ρ' : MdT), f_X8_overdue σ (q 1) = some (.inl "java/lang/IndexOutOfBoundsException") ∧ g_X9_overdue ρ (q 1) = some (b9, ρ') ∧ md_thrown ρ' = 1 ∧ I σ ρ')
  | 17 => (∃ (v : Int32) (b9 : Int32) (ρ' : MdT), f_X8_stage σ (q 1) = some (.inr v) ∧ g_X9_stage ρ (q 1) = some (b9, ρ') ∧ md_thrown ρ' = 0 ∧ v.toInt64 = b9.toInt64 ∧ I σ ρ') ∨ (∃ (b9 : Int32) (ρ' : MdT), f_X8_stage σ (q 1) = some (.inl "java/lang/IndexOutOfBoundsException") ∧ g_X9_stage ρ (q 1) = some (b9, ρ') ∧ md_thrown ρ' = 1 ∧ I σ ρ')
  | 18 => (∃ (v : Int64) (b9 : Int64) (σ' : LgT) (ρ' : MdT), f_X8_margin σ (q 1) = some (.inr (v, σ')) ∧ g_X9_margin ρ (q 1) = some (b9, ρ') ∧ md_thrown ρ' = 0 ∧ v = b9 ∧ I σ' ρ') ∨ (∃ (b9 : Int64) (σ' : LgT) (ρ' : MdT), f_X8_margin σ (q 1) = some (.inl ("java/lang/IndexOutOfBoundsException", σ')) ∧ g_X9_margin ρ (q 1) = some (b9, ρ') ∧ md_thrown ρ' = 1 ∧ I σ' ρ')
  | 19 => (∃ (v : Int64) (b9 : Int64) (ρ' : MdT), f_X8_account σ (q 1) = some (.inr v) ∧ g_X9_account ρ (q 1) = some (b9, ρ') ∧ md_thrown ρ' = 0 ∧ v = b9 ∧ I σ ρ') ∨ (∃ (b9 : Int64) (ρ' : MdT), f_X8_account σ (q 1) = some (.inl "java/lang/IndexOutOfBoundsException") ∧ g_X9_account ρ (q 1) = some (b9, ρ') ∧ md_thrown ρ' = 1 ∧ I σ ρ')
  | 20 => ∃ (v : Int32) (ρ' : MdT), f_X8_certificateCount σ  = some v ∧ g_X9_certificateCount ρ  = some (v, ρ') ∧ I σ ρ'
  | 21 => (∃ (v : Int32) (b9 : Int32) (ρ' : MdT), f_X8_certificateContract σ (q 1) = some (.inr v) ∧ g_X9_certificateContract ρ (q 1) = some (b9, ρ') ∧ md_thrown ρ' = 0 ∧ v.toInt64 = b9.toInt64 ∧ I σ ρ') ∨ (∃ (b9 : Int32) (ρ' : MdT), f_X8_certificateContract σ (q 1) = some (.inl "java/lang/IndexOutOfBoundsException") ∧ g_X9_certificateContract ρ (q 1) = some (b9, ρ') ∧ md_thrown ρ' = 1 ∧ I σ ρ')
  | 22 => (∃ (v : Int64) (b9 : Int64) (ρ' : MdT), f_X8_amount σ (q 1) = some (.inr v) ∧ g_X9_amount ρ (q 1) = some (b9, ρ') ∧ md_thrown ρ' = 0 ∧ v = b9 ∧ I σ ρ') ∨ (∃ (b9 : Int64) (ρ' : MdT), f_X8_amount σ (q 1) = some (.inl "java/lang/IndexOutOfBoundsException") ∧ g_X9_amount ρ (q 1) = some (b9, ρ') ∧ md_thrown ρ' = 1 ∧ I σ ρ')
  | 23 => (∃ (v : Int64) (b9 : Int64) (ρ' : MdT), f_X8_openAmount σ (q 1) = some (.inr v) ∧ g_X9_openAmount ρ (q 1) = some (b9, ρ') ∧ md_thrown ρ' = 0 ∧ v = b9 ∧ I σ ρ') ∨ (∃ (b9 : Int64) (ρ' : MdT), f_X8_openAmount σ (q 1) = some (.inl "java/lang/IndexOutOfBoundsException") ∧ g_X9_openAmount ρ (q 1) = some (b9, ρ') ∧ md_thrown ρ' = 1 ∧ I σ ρ')
  | 24 => (∃ (v : Int32) (b9 : Int32) (ρ' : MdT), f_X8_dueDay σ (q 1) = some (.inr v) ∧ g_X9_dueDay ρ (q 1) = some (b9, ρ') ∧ md_thrown ρ' = 0 ∧ v.toInt64 = b9.toInt64 ∧ I σ ρ') ∨ (∃ (b9 : Int32) (ρ' : MdT), f_X8_dueDay σ (q 1) = some (.inl "java/lang/IndexOutOfBoundsException") ∧ g_X9_dueDay ρ (q 1) = some (b9, ρ') ∧ md_thrown ρ' = 1 ∧ I σ ρ')
  | 25 => (∃ (v : Int32) (b9 : Int32) (ρ' : MdT), f_X8_isBlocked σ (q 1) = some (.inr v) ∧ g_X9_isBlocked ρ (q 1) = some (b9, ρ') ∧ md_thrown ρ' = 0 ∧ (v = 0 ↔ b9 = 0) ∧ I σ ρ') ∨ (∃ (b9 : Int32) (ρ' : MdT), f_X8_isBlocked σ (q 1) = some (.inl "java/lang/IndexOutOfBoundsException") ∧ g_X9_isBlocked ρ (q 1) = some (b9, ρ') ∧ md_thrown ρ' = 1 ∧ I σ ρ')
  | 26 => ∃ (v : Int64) (ρ' : MdT), f_X8_dueBetween σ (q 1) (q 2) = some v ∧ g_X9_dueBetween ρ (q 1) (q 2) = some (v, ρ') ∧ I σ ρ'
  | 27 => (∃ (v : Int32) (b9 : Int32) (σ' : LgT) (ρ' : MdT), f_X8_settleDays σ (q 1) (q 2) = some (.inr (v, σ')) ∧ g_X9_settleDays ρ (q 1) (q 2) = some (b9, ρ') ∧ md_thrown ρ' = 0 ∧ v.toInt64 = b9.toInt64 ∧ I σ' ρ') ∨ (∃ (b9 : Int32) (σ' : LgT) (ρ' : MdT), f_X8_settleDays σ (q 1) (q 2) = some (.inl ("java/lang/IndexOutOfBoundsException", σ')) ∧ g_X9_settleDays ρ (q 1) (q 2) = some (b9, ρ') ∧ md_thrown ρ' = 1 ∧ I σ' ρ') ∨ (∃ (b9 : Int32) (σ' : LgT) (ρ' : MdT), f_X8_settleDays σ (q 1) (q 2) = some (.inl ("java/lang/IllegalArgumentException", σ')) ∧ g_X9_settleDays ρ (q 1) (q 2) = some (b9, ρ') ∧ md_thrown ρ' = 2 ∧ I σ' ρ')
  | 28 => ∃ (v : Int32) (ρ' : MdT), f_X8_variationCount σ  = some v ∧ g_X9_variationCount ρ  = some (v, ρ') ∧ I σ ρ'
  | 29 => (∃ (v : Int32) (b9 : Int32) (ρ' : MdT), f_X8_isApproved σ (q 1) = some (.inr v) ∧ g_X9_isApproved ρ (q 1) = some (b9, ρ') ∧ md_thrown ρ' = 0 ∧ (v = 0 ↔ b9 = 0) ∧ I σ ρ') ∨ (∃ (b9 : Int32) (ρ' : MdT), f_X8_isApproved σ (q 1) = some (.inl "java/lang/IndexOutOfBoundsException") ∧ g_X9_isApproved ρ (q 1) = some (b9, ρ') ∧ md_thrown ρ' = 1 ∧ I σ ρ')
  | 30 => (∃ (v : Int64) (b9 : Int64) (σ' : LgT) (ρ' : MdT), f_X8_variationWorth σ (q 1) = some (.inr (v, σ')) ∧ g_X9_variationWorth ρ (q 1) = some (b9, ρ') ∧ md_thrown ρ' = 0 ∧ v = b9 ∧ I σ' ρ') ∨ (∃ (b9 : Int64) (σ' : LgT) (ρ' : MdT), f_X8_variationWorth σ (q 1) = some (.inl ("java/lang/IndexOutOfBoundsException", σ')) ∧ g_X9_variationWorth ρ (q 1) = some (b9, ρ') ∧ md_thrown ρ' = 1 ∧ I σ' ρ')
  | 31 => ∃ (v : Int32) (ρ' : MdT), f_X8_lienCount σ  = some v ∧ g_X9_lienCount ρ  = some (v, ρ') ∧ I σ ρ'
  | 32 => (∃ (v : Int64) (b9 : Int64) (ρ' : MdT), f_X8_claim σ (q 1) = some (.inr v) ∧ g_X9_claim ρ (q 1) = some (b9, ρ') ∧ md_thrown ρ' = 0 ∧ v = b9 ∧ I σ ρ') ∨ (∃ (b9 : Int64) (ρ' : MdT), f_X8_claim σ (q 1) = some (.inl "java/lang/IndexOutOfBoundsException") ∧ g_X9_claim ρ (q 1) = some (b9, ρ') ∧ md_thrown ρ' = 1 ∧ I σ ρ')
  | 33 => (∃ (v : Int32) (b9 : Int32) (ρ' : MdT), f_X8_priority σ (q 1) = some (.inr v) ∧ g_X9_priority ρ (q 1) = some (b9, ρ') ∧ md_thrown ρ' = 0 ∧ v.toInt64 = b9.toInt64 ∧ I σ ρ') ∨ (∃ (b9 : Int32) (ρ' : MdT), f_X8_priority σ (q 1) = some (.inl "java/lang/IndexOutOfBoundsException") ∧ g_X9_priority ρ (q 1) = some (b9, ρ') ∧ md_thrown ρ' = 1 ∧ I σ ρ')
  | 34 => (∃ (v : Int64) (b9 : Int64) (ρ' : MdT), f_X8_share σ (q 1) (q 2) = some (.inr v) ∧ g_X9_share ρ (q 1) (q 2) = some (b9, ρ') ∧ md_thrown ρ' = 0 ∧ v = b9 ∧ I σ ρ') ∨ (∃ (b9 : Int64) (ρ' : MdT), f_X8_share σ (q 1) (q 2) = some (.inl "java/lang/IndexOutOfBoundsException") ∧ g_X9_share ρ (q 1) (q 2) = some (b9, ρ') ∧ md_thrown ρ' = 1 ∧ I σ ρ') ∨ (∃ (b9 : Int64) (ρ' : MdT), f_X8_share σ (q 1) (q 2) = some (.inl "java/lang/IllegalArgumentException") ∧ g_X9_share ρ (q 1) (q 2) = some (b9, ρ') ∧ md_thrown ρ' = 2 ∧ I σ ρ')
  | 35 => (∃ (v : Int32) (b9 : Int32) (σ' : LgT) (ρ' : MdT), f_X8_measure σ (q 1) (q 2) (q 3) = some (.inr (v, σ')) ∧ g_X9_measure ρ (q 1) (q 2) (q 3) = some (b9, ρ') ∧ md_thrown ρ' = 0 ∧ v.toInt64 = b9.toInt64 ∧ I σ' ρ') ∨ (∃ (b9 : Int32) (σ' : LgT) (ρ' : MdT), f_X8_measure σ (q 1) (q 2) (q 3) = some (.inl ("java/lang/IndexOutOfBoundsException", σ')) ∧ g_X9_measure ρ (q 1) (q 2) (q 3) = some (b9, ρ') ∧ md_thrown ρ' = 1 ∧ I σ' ρ') ∨ (∃ (b9 : Int32) (σ' : LgT) (ρ' : MdT), f_X8_measure σ (q 1) (q 2) (q 3) = some (.inl ("java/lang/IllegalArgumentException", σ')) ∧ g_X9_measure ρ (q 1) (q 2) (q 3) = some (b9, ρ') ∧ md_thrown ρ' = 2 ∧ I σ' ρ')
  | 36 => (∃ (v : Int32) (b9 : Int32) (σ' : LgT) (ρ' : MdT), f_X8_propose σ (q 1) (q 2) (q 3) = some (.inr (v, σ')) ∧ g_X9_propose ρ (q 1) (q 2) (q 3) = some (b9, ρ') ∧ md_thrown ρ' = 0 ∧ v.toInt64 = b9.toInt64 ∧ I σ' ρ') ∨ (∃ (b9 : Int32) (σ' : LgT) (ρ' : MdT), f_X8_propose σ (q 1) (q 2) (q 3) = some (.inl ("java/lang/IndexOutOfBoundsException", σ')) ∧ g_X9_propose ρ (q 1) (q 2) (q 3) = some (b9, ρ') ∧ md_thrown ρ' = 1 ∧ I σ' ρ') ∨ (∃ (b9 : Int32) (σ' : LgT) (ρ' : MdT), f_X8_propose σ (q 1) (q 2) (q 3) = some (.inl ("java/lang/IllegalArgumentException", σ')) ∧ g_X9_propose ρ (q 1) (q 2) (q 3) = some (b9, ρ') ∧ md_thrown ρ' = 2 ∧ I σ' ρ') ∨ (∃ (b9 : Int32) (σ' : LgT) (ρ' : MdT), f_X8_propose σ (q 1) (q 2) (q 3) = some (.inl ("java/lang/IllegalStateException", σ')) ∧ g_X9_propose ρ (q 1) (q 2) (q 3) = some (b9, ρ') ∧ md_thrown ρ' = 3 ∧ I σ' ρ')
  | 37 => (∃ (v : Int32) (b9 : Int32) (σ' : LgT) (ρ' : MdT), f_X8_approve σ (q 1) = some (.inr (v, σ')) ∧ g_X9_approve ρ (q 1) = some (b9, ρ') ∧ md_thrown ρ' = 0 ∧ v.toInt64 = b9.toInt64 ∧ I σ' ρ') ∨ (∃ (b9 : Int32) (σ' : LgT) (ρ' : MdT), f_X8_approve σ (q 1) = some (.inl ("java/lang/IndexOutOfBoundsException", σ')) ∧ g_X9_approve ρ (q 1) = some (b9, ρ') ∧ md_thrown ρ' = 1 ∧ I σ' ρ') ∨ (∃ (b9 : Int32) (σ' : LgT) (ρ' : MdT), f_X8_approve σ (q 1) = some (.inl ("java/lang/IllegalStateException", σ')) ∧ g_X9_approve ρ (q 1) = some (b9, ρ') ∧ md_thrown ρ' = 2 ∧ I σ' ρ')
  | 38 => (∃ (v : Int32) (b9 : Int32) (σ' : LgT) (ρ' : MdT), f_X8_certify σ (q 1) = some (.inr (v, σ')) ∧ g_X9_certify ρ (q 1) = some (b9, ρ') ∧ md_thrown ρ' = 0 ∧ v.toInt64 = b9.toInt64 ∧ I σ' ρ') ∨ (∃ (b9 : Int32) (σ' : LgT) (ρ' : MdT), f_X8_certify σ (q 1) = some (.inl ("java/lang/IndexOutOfBoundsException", σ')) ∧ g_X9_certify ρ (q 1) = some (b9, ρ') ∧ md_thrown ρ' = 1 ∧ I σ' ρ') ∨ (∃ (b9 : Int32) (σ' : LgT) (ρ' : MdT), f_X8_certify σ (q 1) = some (.inl ("java/lang/IllegalStateException", σ')) ∧ g_X9_certify ρ (q 1) = some (b9, ρ') ∧ md_thrown ρ' = 2 ∧ I σ' ρ')
  | 39 => (∃ (v : Int32) (b9 : Int32) (σ' : LgT) (ρ' : MdT), f_X8_nextStage σ (q 1) = some (.inr (v, σ')) ∧ g_X9_nextStage ρ (q 1) = some (b9, ρ') ∧ md_thrown ρ' = 0 ∧ v.toInt64 = b9.toInt64 ∧ I σ' ρ') ∨ (∃ (b9 : Int32) (σ' : LgT) (ρ' : MdT), f_X8_nextStage σ (q 1) = some (.inl ("java/lang/IndexOutOfBoundsException", σ')) ∧ g_X9_nextStage ρ (q 1) = some (b9, ρ') ∧ md_thrown ρ' = 1 ∧ I σ' ρ') ∨ (∃ (b9 : Int32) (σ' : LgT) (ρ' : MdT), f_X8_nextStage σ (q 1) = some (.inl ("java/lang/IllegalStateException", σ')) ∧ g_X9_nextStage ρ (q 1) = some (b9, ρ') ∧ md_thrown ρ' = 2 ∧ I σ' ρ')
  | 40 => (∃ (v : Int64) (b9 : Int64) (σ' : LgT) (ρ' : MdT), f_X8_pay σ (q 1) (q 2) = some (.inr (v, σ')) ∧ g_X9_pay ρ (q 1) (q 2) = some (b9, ρ') ∧ md_thrown ρ' = 0 ∧ v = b9 ∧ I σ' ρ') ∨ (∃ (b9 : Int64) (σ' : LgT) (ρ' : MdT), f_X8_pay σ (q 1) (q 2) = some (.inl ("java/lang/IndexOutOfBoundsException", σ')) ∧ g_X9_pay ρ (q 1) (q 2) = some (b9, ρ') ∧ md_thrown ρ' = 1 ∧ I σ' ρ') ∨ (∃ (b9 : Int64) (σ' : LgT) (ρ' : MdT), f_X8_pay σ (q 1) (q 2) = some (.inl ("java/lang/IllegalArgumentException", σ')) ∧ g_X9_pay ρ (q 1) (q 2) = some (b9, ρ') ∧ md_thrown ρ' = 2 ∧ I σ' ρ') ∨ (∃ (b9 : Int64) (σ' : LgT) (ρ' : MdT), f_X8_pay σ (q 1) (q 2) = some (.inl ("java/lang/IllegalStateException", σ')) ∧ g_X9_pay ρ (q 1) (q 2) = some (b9, ρ') ∧ md_thrown ρ' = 3 ∧ I σ' ρ')
  | 41 => (∃ (v : Int64) (b9 : Int64) (σ' : LgT) (ρ' : MdT), f_X8_deposit σ (q 1) = some (.inr (v, σ')) ∧ g_X9_deposit ρ (q 1) = some (b9, ρ') ∧ md_thrown ρ' = 0 ∧ v = b9 ∧ I σ' ρ') ∨ (∃ (b9 : Int64) (σ' : LgT) (ρ' : MdT), f_X8_deposit σ (q 1) = some (.inl ("java/lang/IllegalArgumentException", σ')) ∧ g_X9_deposit ρ (q 1) = some (b9, ρ') ∧ md_thrown ρ' = 1 ∧ I σ' ρ') ∨ (∃ (b9 : Int64) (σ' : LgT) (ρ' : MdT), f_X8_deposit σ (q 1) = some (.inl ("java/lang/IllegalStateException", σ')) ∧ g_X9_deposit ρ (q 1) = some (b9, ρ') ∧ md_thrown ρ' = 2 ∧ I σ' ρ')
  | 42 => (∃ (v : Int32) (b9 : Int32) (σ' : LgT) (ρ' : MdT), f_X8_pass σ (q 1) = some (.inr (v, σ')) ∧ g_X9_pass ρ (q 1) = some (b9, ρ') ∧ md_thrown ρ' = 0 ∧ v.toInt64 = b9.toInt64 ∧ I σ' ρ') ∨ (∃ (b9 : Int32) (σ' : LgT) (ρ' : MdT), f_X8_pass σ (q 1) = some (.inl ("java/lang/IllegalArgumentException", σ')) ∧ g_X9_pass ρ (q 1) = some (b9, ρ') ∧ md_thrown ρ' = 1 ∧ I σ' ρ') ∨ (∃ (b9 : Int32) (σ' : LgT) (ρ' : MdT), f_X8_pass σ (q 1) = some (.inl ("java/lang/IllegalStateException", σ')) ∧ g_X9_pass ρ (q 1) = some (b9, ρ') ∧ md_thrown ρ' = 2 ∧ I σ' ρ')
  | 43 => (∃ (v : Int64) (b9 : Int64) (σ' : LgT) (ρ' : MdT), f_X8_settle σ (q 1) = some (.inr (v, σ')) ∧ g_X9_settle ρ (q 1) = some (b9, ρ') ∧ md_thrown ρ' = 0 ∧ v = b9 ∧ I σ' ρ') ∨ (∃ (b9 : Int64) (σ' : LgT) (ρ' : MdT), f_X8_settle σ (q 1) = some (.inl ("java/lang/IllegalArgumentException", σ')) ∧ g_X9_settle ρ (q 1) = some (b9, ρ') ∧ md_thrown ρ' = 1 ∧ I σ' ρ') ∨ (∃ (b9 : Int64) (σ' : LgT) (ρ' : MdT), f_X8_settle σ (q 1) = some (.inl ("java/lang/IllegalStateException", σ')) ∧ g_X9_settle ρ (q 1) = some (b9, ρ') ∧ md_thrown ρ' = 2 ∧ I σ' ρ')
  | 44 => (∃ (v : Int32) (b9 : Int32) (σ' : LgT) (ρ' : MdT), f_X8_fileLien σ (q 1) = some (.inr (v, σ')) ∧ g_X9_fileLien ρ (q 1) = some (b9, ρ') ∧ md_thrown ρ' = 0 ∧ v.toInt64 = b9.toInt64 ∧ I σ' ρ') ∨ (∃ (b9 : Int32) (σ' : LgT) (ρ' : MdT), f_X8_fileLien σ (q 1) = some (.inl ("java/lang/IndexOutOfBoundsException", σ')) ∧ g_X9_fileLien ρ (q 1) = some (b9, ρ') ∧ md_thrown ρ' = 1 ∧ I σ' ρ') ∨ (∃ (b9 : Int32) (σ' : LgT) (ρ' : MdT), f_X8_fileLien σ (q 1) = some (.inl ("java/lang/IllegalStateException", σ')) ∧ g_X9_fileLien ρ (q 1) = some (b9, ρ') ∧ md_thrown ρ' = 2 ∧ I σ' ρ')
  | 45 => (∃ (v : Int64) (b9 : Int64) (σ' : LgT) (ρ' : MdT), f_X8_withdrawLien σ (q 1) = some (.inr (v, σ')) ∧ g_X9_withdrawLien ρ (q 1) = some (b9, ρ') ∧ md_thrown ρ' = 0 ∧ v = b9 ∧ I σ' ρ') ∨ (∃ (b9 : Int64) (σ' : LgT) (ρ' : MdT), f_X8_withdrawLien σ (q 1) = some (.inl ("java/lang/IndexOutOfBoundsException", σ')) ∧ g_X9_withdrawLien ρ (q 1) = some (b9, ρ') ∧ md_thrown ρ' = 1 ∧ I σ' ρ') ∨ (∃ (b9 : Int64) (σ' : LgT) (ρ' : MdT), f_X8_withdrawLien σ (q 1) = some (.inl ("java/lang/IllegalStateException", σ')) ∧ g_X9_withdrawLien ρ (q 1) = some (b9, ρ') ∧ md_thrown ρ' = 2 ∧ I σ' ρ')
  | 46 => ∃ (v : Int32) (σ' : LgT) (ρ' : MdT), f_X8_undo σ  = some (v, σ') ∧ g_X9_undo ρ  = some (v, ρ') ∧ I σ' ρ'
  | 47 => ∃ (v : Int64) (σ' : LgT) (ρ' : MdT), f_X8_checksum σ  = some (v, σ') ∧ g_X9_checksum ρ  = some (v, ρ') ∧ I σ' ρ'
  | _ => I σ ρ
theorem zk_bipush_63 : (Int8.ofInt (63)).toInt32 = (63 : Int32) := by decide
theorem zk_iconst_6 : Int32.ofInt (6) = (6 : Int32) := by decide
section LOOP
variable {X : zC} {w : zV} {Q : State → Prop} {k n b L N : Nat} {xs q : Nat → Int32} {i : Int32} {h0 : zH} {σ : LgT} {ρ : MdT} {u : Nat → Int64} {I : LgT → MdT → Prop} {IL : PgT → LgT → MdT → Prop}
def lw_tg : List Nat := [248, 321, 377, 390, 403, 416, 472, 528, 596, 664, 731, 786, 841, 896, 951, 1006, 1061, 1116, 1172, 1227, 1282, 1295, 1351, 1406, 1461, 1517, 1580, 1618, 1686, 1699, 1762, 1817, 1830, 1885, 1941, 2008, 2088, 2168, 2224, 2280, 2336, 2403, 2458, 2514, 2569, 2625, 2680, 2693]
theorem lc_all (hN : 396 ≤ N) (hC : lw_C X w b L xs) (hs : lw_sc L xs i q) (hk : k + 12 ≤ 601024) (hn : n + 1000 ≤ 7293033) (hG : ∀ ρ u, PgW w N 0 (zu h0 389 (mL w ρ u)) σ) {tb : Nat} {te : va_E} (hTa : 389 ≤ tb) (hTb : N ≤ tb + 1) (hTc : zc N (gW w h0 σ ρ u) tb te) (hTj : zj te = true) (hga : rj_rd_ga σ.2.2.1 + 1 < N) (kk : ∀ σ' ρ', I σ' ρ' → lw_N X w Q b i N h0 k n σ' ρ') (kl : ∀ q_17 g σ' ρ', N ≤ g → IL (pgT (ld_D σ (q 1) q_17 g)) σ' ρ' → lw_N X w Q b i (g + 3) (ld_H w N h0 σ (q 1) q_17 g) k n σ' ρ') : ∀ (kv : Nat), lw_LS I IL σ ρ q kv → ∀ t, lw_tg[kv]? = some t → zZ X w Q k n false N (gW w h0 σ ρ u) t (lw_lv w b i) []
  | 0, hLS, t, ht0 => by
    cases ht0
    obtain ⟨v, σ', ρ', hf, hg, hI⟩ := hLS
    exact lc_append hN hC hs hk hn hf hg rfl (kk _ _ hI)
  | 1, hLS, t, ht0 => by
    cases ht0
    unfold lw_LS at hLS
    rcases hLS with ⟨v, b9, s, q_17, ρ', h8, hq, hf, hg, ht, hv, hI⟩ | ⟨b9, ρ', h8, hg, ht, hI⟩
    · exact lc_load hN hC hs hk hn hTa hTb hTc hTj hga h8 hq hf hg ht hv (fun g hg => kl _ _ _ _ hg (hI g))
    · exact lc_load_x1 hN hC hs hk hn h8 hg ht (kk _ _ hI)
  | 2, hLS, t, ht0 => by
    cases ht0
    obtain ⟨v, ρ', hf, hg, hI⟩ := hLS
    exact lc_errorOffset hN hC hs hk hn hf hg rfl (kk _ _ hI)
  | 3, hLS, t, ht0 => by
    cases ht0
    obtain ⟨v, ρ', hf, hg, hI⟩ := hLS
    exact lc_day hN hC hs hk hn hf hg rfl (kk _ _ hI)
  | 4, hLS, t, ht0 => by
    cases ht0
    obtain ⟨v, ρ', hf, hg, hI⟩ := hLS
    exact lc_contractCount hN hC hs hk hn hf hg rfl (kk _ _ hI)
  | 5, hLS, t, ht0 => by
    cases ht0
    unfold lw_LS at hLS
    rcases hLS with ⟨v, b9, ρ', hf, hg, ht, hv, hI⟩ | ⟨b9, ρ', hf, hg, ht, hI⟩
    · exact lc_parent hN hC hs hk hn hf hg ht hv (kk _ _ hI)
    · exact lc_parent_x1 hN hC hs hk hn hf hg ht (kk _ _ hI)
  | 6, hLS, t, ht0 => by
    cases ht0
    unfold lw_LS at hLS
    rcases hLS with ⟨v, b9, ρ', hf, hg, ht, hv, hI⟩ | ⟨b9, ρ', hf, hg, ht, hI⟩
    · exact lc_itemCount hN hC hs hk hn hf hg ht hv (kk _ _ hI)
    · exact lc_itemCount_x1 hN hC hs hk hn hf hg ht (kk _ _ hI)
  | 7, hLS, t, ht0 => by
    cases ht0
    unfold lw_LS at hLS
    rcases hLS with ⟨v, b9, ρ', hf, hg, ht, hv, hI⟩ | ⟨b9, ρ', hf, hg, ht, hI⟩
    · exact lc_quantity hN hC hs hk hn hf hg ht hv (kk _ _ hI)
    · exact lc_quantity_x1 hN hC hs hk hn hf hg ht (kk _ _ hI)
  | 8, hLS, t, ht0 => by
    cases ht0
    unfold lw_LS at hLS
    rcases hLS with ⟨v, b9, σ', ρ', hf, hg, ht, hv, hI⟩ | ⟨b9, σ', ρ', hf, hg, ht, hI⟩
    · exact lc_specialRate hN hC hs hk hn (hG ρ u) hf hg ht hv (kk _ _ hI)
    · exact lc_specialRate_x1 hN hC hs hk hn (hG ρ u) hf hg ht (kk _ _ hI)
  | 9, hLS, t, ht0 => by
    cases ht0
    unfold lw_LS at hLS
    rcases hLS with ⟨v, b9, σ', ρ', hf, hg, ht, hv, hI⟩ | ⟨b9, σ', ρ', hf, hg, ht, hI⟩
    · exact lc_itemValue hN hC hs hk hn (hG ρ u) hf hg ht hv (kk _ _ hI)
    · exact lc_itemValue_x1 hN hC hs hk hn (hG ρ u) hf hg ht (kk _ _ hI)
  | 10, hLS, t, ht0 => by
    cases ht0
    unfold lw_LS at hLS
    rcases hLS with ⟨v, b9, ρ', hf, hg, ht, hv, hI⟩ | ⟨b9, ρ', hf, hg, ht, hI⟩
    · exact lc_firstSum hN hC hs hk hn hf hg ht hv (kk _ _ hI)
    · exact lc_firstSum_x1 hN hC hs hk hn hf hg ht (kk _ _ hI)
  | 11, hLS, t, ht0 => by
    cases ht0
    unfold lw_LS at hLS
    rcases hLS with ⟨v, b9, σ', ρ', hf, hg, ht, hv, hI⟩ | ⟨b9, σ', ρ', hf, hg, ht, hI⟩
    · exact lc_presentSum hN hC hs hk hn (hG ρ u) hf hg ht hv (kk _ _ hI)
    · exact lc_presentSum_x1 hN hC hs hk hn (hG ρ u) hf hg ht (kk _ _ hI)
  | 12, hLS, t, ht0 => by
    cases ht0
    unfold lw_LS at hLS
    rcases hLS with ⟨v, b9, σ', ρ', hf, hg, ht, hv, hI⟩ | ⟨b9, σ', ρ', hf, hg, ht, hI⟩
    · exact lc_grossValue hN hC hs hk hn (hG ρ u) hf hg ht hv (kk _ _ hI)
    · exact lc_grossValue_x1 hN hC hs hk hn (hG ρ u) hf hg ht (kk _ _ hI)
  | 13, hLS, t, ht0 => by
    cases ht0
    unfold lw_LS at hLS
    rcases hLS with ⟨v, b9, σ', ρ', hf, hg, ht, hv, hI⟩ | ⟨b9, σ', ρ', hf, hg, ht, hI⟩
    · exact lc_retention hN hC hs hk hn (hG ρ u) hf hg ht hv (kk _ _ hI)
    · exact lc_retention_x1 hN hC hs hk hn (hG ρ u) hf hg ht (kk _ _ hI)
  | 14, hLS, t, ht0 => by
    cases ht0
    unfold lw_LS at hLS
    rcases hLS with ⟨v, b9, ρ', hf, hg, ht, hv, hI⟩ | ⟨b9, ρ', hf, hg, ht, hI⟩
    · exact lc_certified hN hC hs hk hn hf hg ht hv (kk _ _ hI)
    · exact lc_certified_x1 hN hC hs hk hn hf hg ht (kk _ _ hI)
  | 15, hLS, t, ht0 => by
    cases ht0
    unfold lw_LS at hLS
    rcases hLS with ⟨v, b9, ρ', hf, hg, ht, hv, hI⟩ | ⟨b9, ρ', hf, hg, ht, hI⟩
    · exact lc_unpaid hN hC hs hk hn hf hg ht hv (kk _ _ hI)
    · exact lc_unpaid_x1 hN hC hs hk hn hf hg ht (kk _ _ hI)
  | 16, hLS, t, ht0 => by
    cases ht0
    unfold lw_LS at hLS
    rcases hLS with ⟨v, b9, ρ', hf, hg, ht, hv, hI⟩ | ⟨b9, ρ', hf, hg, ht, hI⟩
    · exact lc_overdue hN hC hs hk hn hf hg ht hv (kk _ _ hI)
    · exact lc_overdue_x1 hN hC hs hk hn hf hg ht (kk _ _ hI)
  | 17, hLS, t, ht0 => by
    cases ht0
    unfold lw_LS at hLS
    rcases hLS with ⟨v, b9, ρ', hf, hg, ht, hv, hI⟩ | ⟨b9, ρ', hf, hg, ht, hI⟩
    · exact lc_stage hN hC hs hk hn hf hg ht hv (kk _ _ hI)
    · exact lc_stage_x1 hN hC hs hk hn hf hg ht (kk _ _ hI)
  | 18, hLS, t, ht0 => by
    cases ht0
    unfold lw_LS at hLS
    rcases hLS with ⟨v, b9, σ', ρ', hf, hg, ht, hv, hI⟩ | ⟨b9, σ', ρ', hf, hg, ht, hI⟩
    · exact lc_margin hN hC hs hk hn (hG ρ u) hf hg ht hv (kk _ _ hI)
    · exact lc_margin_x1 hN hC hs hk hn (hG ρ u) hf hg ht (kk _ _ hI)
  | 19, hLS, t, ht0 => by
    cases ht0
    unfold lw_LS at hLS
    rcases hLS with ⟨v, b9, ρ', hf, hg, ht, hv, hI⟩ | ⟨b9, ρ', hf, hg, ht, hI⟩
    · exact lc_account hN hC hs hk hn hf hg ht hv (kk _ _ hI)
    · exact lc_account_x1 hN hC hs hk hn hf hg ht (kk _ _ hI)
  | 20, hLS, t, ht0 => by
    cases ht0
    obtain ⟨v, ρ', hf, hg, hI⟩ := hLS
    exact lc_certificateCount hN hC hs hk hn hf hg rfl (kk _ _ hI)
  | 21, hLS, t, ht0 => by
    cases ht0
    unfold lw_LS at hLS
    rcases hLS with ⟨v, b9, ρ', hf, hg, ht, hv, hI⟩ | ⟨b9, ρ', hf, hg, ht, hI⟩
    · exact lc_certificateContract hN hC hs hk hn hf hg ht hv (kk _ _ hI)
    · exact lc_certificateContract_x1 hN hC hs hk hn hf hg ht (kk _ _ hI)
  | 22, hLS, t, ht0 => by
    cases ht0
    unfold lw_LS at hLS
    rcases hLS with ⟨v, b9, ρ', hf, hg, ht, hv, hI⟩ | ⟨b9, ρ', hf, hg, ht, hI⟩
    · exact lc_amount hN hC hs hk hn hf hg ht hv (kk _ _ hI)
    · exact lc_amount_x1 hN hC hs hk hn hf hg ht (kk _ _ hI)
  | 23, hLS, t, ht0 => by
    cases ht0
    unfold lw_LS at hLS
    rcases hLS with ⟨v, b9, ρ', hf, hg, ht, hv, hI⟩ | ⟨b9, ρ', hf, hg, ht, hI⟩
    · exact lc_openAmount hN hC hs hk hn hf hg ht hv (kk _ _ hI)
    · exact lc_openAmount_x1 hN hC hs hk hn hf hg ht (kk _ _ hI)
  | 24, hLS, t, ht0 => by
    cases ht0
    unfold lw_LS at hLS
    rcases hLS with ⟨v, b9, ρ', hf, hg, ht, hv, hI⟩ | ⟨b9, ρ', hf, hg, ht, hI⟩
    · exact lc_dueDay hN hC hs hk hn hf hg ht hv (kk _ _ hI)
    · exact lc_dueDay_x1 hN hC hs hk hn hf hg ht (kk _ _ hI)
  | 25, hLS, t, ht0 => by
    cases ht0
    unfold lw_LS at hLS
    rcases hLS with ⟨v, b9, ρ', hf, hg, ht, hv, hI⟩ | ⟨b9, ρ', hf, hg, ht, hI⟩
    · by_cases h0 : v = 0
      · exact lc_isBlocked_F hN hC hs hk hn hf h0 hg ht (hv.mp h0) (kk _ _ hI)
      · exact lc_isBlocked_T hN hC hs hk hn hf h0 hg ht (fun z => h0 (hv.mpr z)) (kk _ _ hI)
    · exact lc_isBlocked_x1 hN hC hs hk hn hf hg ht (kk _ _ hI)
  | 26, hLS, t, ht0 => by
    cases ht0
    obtain ⟨v, ρ', hf, hg, hI⟩ := hLS
    exact lc_dueBetween hN hC hs hk hn hf hg rfl (kk _ _ hI)
  | 27, hLS, t, ht0 => by
    cases ht0
    unfold lw_LS at hLS
    rcases hLS with ⟨v, b9, σ', ρ', hf, hg, ht, hv, hI⟩ | ⟨b9, σ', ρ', hf, hg, ht, hI⟩ | ⟨b9, σ', ρ', hf, hg, ht, hI⟩
    · exact lc_settleDays hN hC hs hk hn hf hg ht hv (kk _ _ hI)
    · exact lc_settleDays_x1 hN hC hs hk hn hf hg ht (kk _ _ hI)
    · exact lc_settleDays_x2 hN hC hs hk hn hf hg ht (kk _ _ hI)
  | 28, hLS, t, ht0 => by
    cases ht0
    obtain ⟨v, ρ', hf, hg, hI⟩ := hLS
    exact lc_variationCount hN hC hs hk hn hf hg rfl (kk _ _ hI)
  | 29, hLS, t, ht0 => by
    cases ht0
    unfold lw_LS at hLS
    rcases hLS with ⟨v, b9, ρ', hf, hg, ht, hv, hI⟩ | ⟨b9, ρ', hf, hg, ht, hI⟩
    · by_cases h0 : v = 0
      · exact lc_isApproved_F hN hC hs hk hn hf h0 hg ht (hv.mp h0) (kk _ _ hI)
      · exact lc_isApproved_T hN hC hs hk hn hf h0 hg ht (fun z => h0 (hv.mpr z)) (kk _ _ hI)
    · exact lc_isApproved_x1 hN hC hs hk hn hf hg ht (kk _ _ hI)
  | 30, hLS, t, ht0 => by
    cases ht0
    unfold lw_LS at hLS
    rcases hLS with ⟨v, b9, σ', ρ', hf, hg, ht, hv, hI⟩ | ⟨b9, σ', ρ', hf, hg, ht, hI⟩
    · exact lc_variationWorth hN hC hs hk hn (hG ρ u) hf hg ht hv (kk _ _ hI)
    · exact lc_variationWorth_x1 hN hC hs hk hn (hG ρ u) hf hg ht (kk _ _ hI)
  | 31, hLS, t, ht0 => by
    cases ht0
    obtain ⟨v, ρ', hf, hg, hI⟩ := hLS
    exact lc_lienCount hN hC hs hk hn hf hg rfl (kk _ _ hI)
  | 32, hLS, t, ht0 => by
    cases ht0
    unfold lw_LS at hLS
    rcases hLS with ⟨v, b9, ρ', hf, hg, ht, hv, hI⟩ | ⟨b9, ρ', hf, hg, ht, hI⟩
    · exact lc_claim hN hC hs hk hn hf hg ht hv (kk _ _ hI)
    · exact lc_claim_x1 hN hC hs hk hn hf hg ht (kk _ _ hI)
  | 33, hLS, t, ht0 => by
    cases ht0
    unfold lw_LS at hLS
    rcases hLS with ⟨v, b9, ρ', hf, hg, ht, hv, hI⟩ | ⟨b9, ρ', hf, hg, ht, hI⟩
    · exact lc_priority hN hC hs hk hn hf hg ht hv (kk _ _ hI)
    · exact lc_priority_x1 hN hC hs hk hn hf hg ht (kk _ _ hI)
  | 34, hLS, t, ht0 => by
    cases ht0
    unfold lw_LS at hLS
    rcases hLS with ⟨v, b9, ρ', hf, hg, ht, hv, hI⟩ | ⟨b9, ρ', hf, hg, ht, hI⟩ | ⟨b9, ρ', hf, hg, ht, hI⟩
    · exact lc_share hN hC hs hk hn hf hg ht hv (kk _ _ hI)
    · exact lc_share_x1 hN hC hs hk hn hf hg ht (kk _ _ hI)
    · exact lc_share_x2 hN hC hs hk hn hf hg ht (kk _ _ hI)
  | 35, hLS, t, ht0 => by
    cases ht0
    unfold lw_LS at hLS
    rcases hLS with ⟨v, b9, σ', ρ', hf, hg, ht, hv, hI⟩ | ⟨b9, σ', ρ', hf, hg, ht, hI⟩ | ⟨b9, σ', ρ', hf, hg, ht, hI⟩
    · exact lc_measure hN hC hs hk hn hf hg ht hv (kk _ _ hI)
    · exact lc_measure_x1 hN hC hs hk hn hf hg ht (kk _ _ hI)
    · exact lc_measure_x2 hN hC hs hk hn hf hg ht (kk _ _ hI)
  | 36, hLS, t, ht0 => by
    cases ht0
    unfold lw_LS at hLS
    rcases hLS with ⟨v, b9, σ', ρ', hf, hg, ht, hv, hI⟩ | ⟨b9, σ', ρ', hf, hg, ht, hI⟩ | ⟨b9, σ', ρ', hf, hg, ht, hI⟩ | ⟨b9, σ', ρ', hf, hg, ht, hI⟩
    · exact lc_propose hN hC hs hk hn hf hg ht hv (kk _ _ hI)
    · exact lc_propose_x1 hN hC hs hk hn hf hg ht (kk _ _ hI)
    · exact lc_propose_x2 hN hC hs hk hn hf hg ht (kk _ _ hI)
    · exact lc_propose_x3 hN hC hs hk hn hf hg ht (kk _ _ hI)
  | 37, hLS, t, ht0 => by
    cases ht0
    unfold lw_LS at hLS
    rcases hLS with ⟨v, b9, σ', ρ', hf, hg, ht, hv, hI⟩ | ⟨b9, σ', ρ', hf, hg, ht, hI⟩ | ⟨b9, σ', ρ', hf, hg, ht, hI⟩
    · exact lc_approve hN hC hs hk hn hf hg ht hv (kk _ _ hI)
    · exact lc_approve_x1 hN hC hs hk hn hf hg ht (kk _ _ hI)
    · exact lc_approve_x2 hN hC hs hk hn hf hg ht (kk _ _ hI)
  | 38, hLS, t, ht0 => by
    cases ht0
    unfold lw_LS at hLS
    rcases hLS with ⟨v, b9, σ', ρ', hf, hg, ht, hv, hI⟩ | ⟨b9, σ', ρ', hf, hg, ht, hI⟩ | ⟨b9, σ', ρ', hf, hg, ht, hI⟩
    · exact lc_certify hN hC hs hk hn (hG ρ u) hf hg ht hv (kk _ _ hI)
    · exact lc_certify_x1 hN hC hs hk hn (hG ρ u) hf hg ht (kk _ _ hI)
    · exact lc_certify_x2 hN hC hs hk hn (hG ρ u) hf hg ht (kk _ _ hI)
  | 39, hLS, t, ht0 => by
    cases ht0
    unfold lw_LS at hLS
    rcases hLS with ⟨v, b9, σ', ρ', hf, hg, ht, hv, hI⟩ | ⟨b9, σ', ρ', hf, hg, ht, hI⟩ | ⟨b9, σ', ρ', hf, hg, ht, hI⟩
    · exact lc_nextStage hN hC hs hk hn hf hg ht hv (kk _ _ hI)
    · exact lc_nextStage_x1 hN hC hs hk hn hf hg ht (kk _ _ hI)
    · exact lc_nextStage_x2 hN hC hs hk hn hf hg ht (kk _ _ hI)
  | 40, hLS, t, ht0 => by
    cases ht0
    unfold lw_LS at hLS
    rcases hLS with ⟨v, b9, σ', ρ', hf, hg, ht, hv, hI⟩ | ⟨b9, σ', ρ', hf, hg, ht, hI⟩ | ⟨b9, σ', ρ', hf, hg, ht, hI⟩ | ⟨b9, σ', ρ', hf, hg, ht, hI⟩
    · exact lc_pay hN hC hs hk hn hf hg ht hv (kk _ _ hI)
    · exact lc_pay_x1 hN hC hs hk hn hf hg ht (kk _ _ hI)
    · exact lc_pay_x2 hN hC hs hk hn hf hg ht (kk _ _ hI)
    · exact lc_pay_x3 hN hC hs hk hn hf hg ht (kk _ _ hI)
  | 41, hLS, t, ht0 => by
    cases ht0
    unfold lw_LS at hLS
    rcases hLS with ⟨v, b9, σ', ρ', hf, hg, ht, hv, hI⟩ | ⟨b9, σ', ρ', hf, hg, ht, hI⟩ | ⟨b9, σ', ρ', hf, hg, ht, hI⟩
    · exact lc_deposit hN hC hs hk hn hf hg ht hv (kk _ _ hI)
    · exact lc_deposit_x1 hN hC hs hk hn hf hg ht (kk _ _ hI)
    · exact lc_deposit_x2 hN hC hs hk hn hf hg ht (kk _ _ hI)
  | 42, hLS, t, ht0 => by
    cases ht0
    unfold lw_LS at hLS
    rcases hLS with ⟨v, b9, σ', ρ', hf, hg, ht, hv, hI⟩ | ⟨b9, σ', ρ', hf, hg, ht, hI⟩ | ⟨b9, σ', ρ', hf, hg, ht, hI⟩
    · exact lc_pass hN hC hs hk hn hf hg ht hv (kk _ _ hI)
    · exact lc_pass_x1 hN hC hs hk hn hf hg ht (kk _ _ hI)
    · exact lc_pass_x2 hN hC hs hk hn hf hg ht (kk _ _ hI)
  | 43, hLS, t, ht0 => by
    cases ht0
    unfold lw_LS at hLS
    rcases hLS with ⟨v, b9, σ', ρ', hf, hg, ht, hv, hI⟩ | ⟨b9, σ', ρ', hf, hg, ht, hI⟩ | ⟨b9, σ', ρ', hf, hg, ht, hI⟩
    · exact lc_settle hN hC hs hk hn hf hg ht hv (kk _ _ hI)
    · exact lc_settle_x1 hN hC hs hk hn hf hg ht (kk _ _ hI)
    · exact lc_settle_x2 hN hC hs hk hn hf hg ht (kk _ _ hI)
  | 44, hLS, t, ht0 => by
    cases ht0
    unfold lw_LS at hLS
    rcases hLS with ⟨v, b9, σ', ρ', hf, hg, ht, hv, hI⟩ | ⟨b9, σ', ρ', hf, hg, ht, hI⟩ | ⟨b9, σ', ρ', hf, hg, ht, hI⟩
    · exact lc_fileLien hN hC hs hk hn hf hg ht hv (kk _ _ hI)
    · exact lc_fileLien_x1 hN hC hs hk hn hf hg ht (kk _ _ hI)
    · exact lc_fileLien_x2 hN hC hs hk hn hf hg ht (kk _ _ hI)
  | 45, hLS, t, ht0 => by
    cases ht0
    unfold lw_LS at hLS
    rcases hLS with ⟨v, b9, σ', ρ', hf, hg, ht, hv, hI⟩ | ⟨b9, σ', ρ', hf, hg, ht, hI⟩ | ⟨b9, σ', ρ', hf, hg, ht, hI⟩
    · exact lc_withdrawLien hN hC hs hk hn hf hg ht hv (kk _ _ hI)
    · exact lc_withdrawLien_x1 hN hC hs hk hn hf hg ht (kk _ _ hI)
    · exact lc_withdrawLien_x2 hN hC hs hk hn hf hg ht (kk _ _ hI)
  | 46, hLS, t, ht0 => by
    cases ht0
    obtain ⟨v, σ', ρ', hf, hg, hI⟩ := hLS
    exact lc_undo hN hC hs hk hn hf hg rfl (kk _ _ hI)
  | 47, hLS, t, ht0 => by
    cases ht0
    obtain ⟨v, σ', ρ', hf, hg, hI⟩ := hLS
    exact lc_checksum hN hC hs hk hn (hG ρ u) hf hg rfl (kk _ _ hI)
  | n + 48, hLS, t, ht0 => by simp [lw_tg] at ht0
theorem and63 (x : Int32) : ∃ kv : Nat, kv < 64 ∧ x &&& 63 = Int32.ofNat kv ∧ (x &&& 63).toInt = (kv : Int) := by
  have hle : (x &&& 63).toBitVec.toNat ≤ 63 := by
    rw [Int32.toBitVec_and, BitVec.toNat_and]
    exact Nat.and_le_right
  have he : x &&& 63 = Int32.ofNat (x &&& 63).toBitVec.toNat := by
    rw [← Int32.toBitVec_inj, Int32.toBitVec_ofNat', BitVec.ofNat_toNat, BitVec.setWidth_eq]
  refine ⟨(x &&& 63).toBitVec.toNat, by omega, he, ?_⟩
  have h2 := Int32.toInt_ofNat_of_lt (n := (x &&& 63).toBitVec.toNat) (by omega)
  rw [← he] at h2
  exact h2
theorem six_lt {L t : Nat} (hL : L ≤ 3072) (ht : t ≤ 512) : (Int32.ofNat L - 6 < Int32.ofNat (6 * t)) ↔ ¬ 6 * t + 6 ≤ L := by
  rw [Int32.lt_iff_toInt_lt, Int32.toInt_sub, Int32.toInt_ofNat_of_lt (n := L) (by omega), Int32.toInt_ofNat_of_lt (n := 6 * t) (by omega), show (6 : Int32).toInt = 6 from rfl, Int.bmod_eq_of_le (by omega) (by omega)]
  omega
theorem lw_scOf {L t : Nat} {xs : Nat → Int32} (hL : L ≤ 3072) (ht : 6 * t + 6 ≤ L) : lw_sc L xs (Int32.ofNat (6 * t)) (fun j => xs (6 * t + j)) := by
  intro j hj
  rw [← Int32.ofNat_add]
  have h3 := Int32.toNatClampNeg_ofNat_of_lt (n := 6 * t + j) (by omega)
  refine ⟨?_, by rw [h3]⟩
  rintro (z | z)
  · rw [Int32.lt_iff_toInt_lt, Int32.toInt_ofNat_of_lt (n := 6 * t + j) (by omega), show (0 : Int32).toInt = 0 from rfl] at z
    omega
  · rw [h3] at z
    omega
/-! what the heap holds for a state: its Pricing, and the last place that anything is known of -/
def PrOK (w : zV) (N : Nat) (h : zH) (T : PgT) : Prop := zc N h (T.1 + 0) (pgO w T.1 T.2.1 T.2.2.1) ∧ (∃ s, zc N h (T.1 + 1) (stC w s)) ∧ zc N h (T.1 + 2) (pgC w T.2.2.2.1 T.2.2.2.2) ∧ ¬ lin 0 T.1 ∧ ¬ lin 0 (T.1 + 1) ∧ ¬ lin 0 (T.1 + 2) ∧ (T.1 + 2 < 389 ∨ 396 ≤ T.1)
def WI (N : Nat) (h : zH) : Prop := 396 ≤ N ∧ (N = 396 ∨ zj (h (N - 1)) = true)
/-- the state whose reader knows of the present Pricing, with what its stack holds -/
def lgs (σ : LgT) (g : Nat) (s : Nat → Int32) : LgT := (σ.1, σ.2.1, rs_rd_stk (rs_rd_ga σ.2.2.1 g) s, σ.2.2.2.1, σ.2.2.2.2.1, σ.2.2.2.2.2)
theorem lgs_cell {w : zV} {a : Nat} {σ : LgT} {g : Nat} {s : Nat → Int32} (o : Nat) : lcell w a (lgs σ g s) o = lcell w a σ o := by
  unfold lcell
  by_cases c0 : o = 0
  · simp only [if_pos c0]
    rfl
  · by_cases c1 : o < 38
    · simp only [if_neg c0, if_pos c1]
      generalize o - 1 = k
      match k with
      | 0 => rfl
      | 1 => rfl
      | k + 2 => rfl
    · simp only [if_neg c0, if_neg c1]
      rfl
theorem PrOK_ns {w : zV} {N : Nat} {h : zH} {T T' : PgT} (h1 : PrOK w N h T) (h2 : PrOK w N h T') : T'.1 ≠ T.1 + 1 ∧ T'.1 + 2 ≠ T.1 + 1 := by
  obtain ⟨a1, ⟨s, a2⟩, a3, -⟩ := h1
  obtain ⟨b1, ⟨s', b2⟩, b3, -⟩ := h2
  refine ⟨fun e => ?_, fun e => ?_⟩
  · have := b1.2
    rw [Nat.add_zero, e, a2.2] at this
    cases this
  · have e2 : T'.1 + 1 = T.1 + 0 := by omega
    have := b2.2
    rw [e2, a1.2] at this
    cases this
theorem lw_sync {w : zV} {N : Nat} {h : zH} {σ : LgT} {T0 : PgT} (h0 : PrOK w N h T0) (e0 : T0.1 = rj_rd_ga σ.2.2.1) (hP : PrOK w N h (pgT (σ.2.2.2.2.2 σ.1.toNatClampNeg))) (hW : WI N h) : ∃ (h1 : zH) (s : Nat → Int32), (∀ ρ u, gW w h σ ρ u = gW w h1 (lgs σ (pj_pr_pricing (σ.2.2.2.2.2 σ.1.toNatClampNeg)) s) ρ u) ∧ WI N h1 ∧ (∀ T, PrOK w N h T → PrOK w N h1 T) ∧ ∀ ρ u, PgW w N 0 (zu h1 389 (mL w ρ u)) (lgs σ (pj_pr_pricing (σ.2.2.2.2.2 σ.1.toNatClampNeg)) s) := by
  have hz : ∀ (f : zH) (ρ : MdT) (u : Nat → Int64) (j : Nat), (j < 389 ∨ 396 ≤ j) → zu f 389 (mL w ρ u) j = f j := fun f ρ u j hj => zu_far (m := 7) rfl (by omega)
  have up : ∀ (j : Nat), j ≠ T0.1 + 1 → va_up h (T0.1 + 1) (stC w (rj_rd_stk σ.2.2.1)) j = h j := fun j hj => by simp [va_up, hj]
  have us : va_up h (T0.1 + 1) (stC w (rj_rd_stk σ.2.2.1)) (T0.1 + 1) = stC w (rj_rd_stk σ.2.2.1) := by simp [va_up]
  have hk : ∀ T, PrOK w N h T → PrOK w N (va_up h (T0.1 + 1) (stC w (rj_rd_stk σ.2.2.1))) T := by
    intro T hT
    obtain ⟨n1, n2⟩ := PrOK_ns h0 hT
    obtain ⟨b1, ⟨s', b2⟩, b3, b4⟩ := hT
    refine ⟨⟨b1.1, by rw [up _ (by omega)]; exact b1.2⟩, ?_, ⟨b3.1, by rw [up _ n2]; exact b3.2⟩, b4⟩
    by_cases c : T.1 + 1 = T0.1 + 1
    · exact ⟨_, b2.1, by rw [c]; exact us⟩
    · exact ⟨s', b2.1, by rw [up _ c]; exact b2.2⟩
  obtain ⟨hw1, hw2⟩ := hW
  obtain ⟨d1, ⟨s0, d2⟩, d3, d4, d5, d6, d7⟩ := hk _ hP
  obtain ⟨z1, ⟨sz, z2⟩, z3, z4, z5, z6, z7⟩ := h0
  have zs : (T0.1 + 1 < 389 ∨ 396 ≤ T0.1 + 1) := by omega
  refine ⟨va_up h (T0.1 + 1) (stC w (rj_rd_stk σ.2.2.1)), s0, fun ρ u => ?_, ⟨hw1, ?_⟩, hk, fun ρ u => ?_⟩
  · unfold gW
    funext j
    by_cases c : lin 0 j
    · rw [lg_in c, lg_in c, lgs_cell]
    · by_cases c1 : j = T0.1 + 1
      · subst c1
        rw [lg_o2 c (by rw [e0]) (by rw [hz _ _ _ _ zs, z2.2]; rfl)]
        by_cases c2 : T0.1 + 1 = pj_pr_pricing (σ.2.2.2.2.2 σ.1.toNatClampNeg) + 1
        · have e3 : stC w (rj_rd_stk σ.2.2.1) = stC w s0 := by
            have := d2.2
            rw [show (pgT (σ.2.2.2.2.2 σ.1.toNatClampNeg)).1 + 1 = T0.1 + 1 from c2.symm, us] at this
            exact this
          rw [lg_o2 (σ := lgs σ (pj_pr_pricing (σ.2.2.2.2.2 σ.1.toNatClampNeg)) s0) c c2 (by rw [hz _ _ _ _ zs, us]; rfl)]
          exact e3
        · rw [lg_o1 (σ := lgs σ (pj_pr_pricing (σ.2.2.2.2.2 σ.1.toNatClampNeg)) s0) c c2, hz _ _ _ _ zs, us]
      · have e4 : zu (va_up h (T0.1 + 1) (stC w (rj_rd_stk σ.2.2.1))) 389 (mL w ρ u) j = zu h 389 (mL w ρ u) j := by
          simp only [zu]
          rw [up j c1]
        rw [lg_o1 c (by rw [← e0]; exact c1)]
        by_cases c2 : j = pj_pr_pricing (σ.2.2.2.2.2 σ.1.toNatClampNeg) + 1
        · have zs2 : (j < 389 ∨ 396 ≤ j) := by
            have : (pgT (σ.2.2.2.2.2 σ.1.toNatClampNeg)).1 = pj_pr_pricing (σ.2.2.2.2.2 σ.1.toNatClampNeg) := rfl
            omega
          have e5 : h j = stC w s0 := by
            have := d2.2
            rw [show (pgT (σ.2.2.2.2.2 σ.1.toNatClampNeg)).1 + 1 = j from c2.symm, up j c1] at this
            exact this
          rw [lg_o2 (σ := lgs σ (pj_pr_pricing (σ.2.2.2.2.2 σ.1.toNatClampNeg)) s0) c c2 (by rw [e4, hz _ _ _ _ zs2, e5]; rfl), hz _ _ _ _ zs2]
          exact e5
        · rw [lg_o1 (σ := lgs σ (pj_pr_pricing (σ.2.2.2.2.2 σ.1.toNatClampNeg)) s0) c c2, e4]
  · rcases hw2 with c | c
    · exact Or.inl c
    · refine Or.inr ?_
      by_cases c2 : N - 1 = T0.1 + 1
      · rw [c2, us]
        rfl
      · rw [up _ c2]
        exact c
  · have d7' : pj_pr_pricing (σ.2.2.2.2.2 σ.1.toNatClampNeg) + 2 < 389 ∨ 396 ≤ pj_pr_pricing (σ.2.2.2.2.2 σ.1.toNatClampNeg) := d7
    have q1 := zc_f (a := 389) (m := 7) (L := mL w ρ u) (b := pj_pr_pricing (σ.2.2.2.2.2 σ.1.toNatClampNeg) + 0) d1 (by omega) rfl
    have q2 := zc_f (a := 389) (m := 7) (L := mL w ρ u) (b := pj_pr_pricing (σ.2.2.2.2.2 σ.1.toNatClampNeg) + 1) d2 (by omega) rfl
    have q3 := zc_f (a := 389) (m := 7) (L := mL w ρ u) (b := pj_pr_pricing (σ.2.2.2.2.2 σ.1.toNatClampNeg) + 2) d3 (by omega) rfl
    exact ⟨rfl, q1, ⟨s0, q2⟩, q3, d4, d5, d6⟩
theorem PrOK_ld {w : zV} {N g : Nat} {h : zH} {σ : LgT} {p1 : Int32} {q_17 : LdT} (hN : 396 ≤ N) (hg : N ≤ g) : (∀ T, PrOK w N h T → PrOK w (g + 3) (ld_H w N h σ p1 q_17 g) T) ∧ PrOK w (g + 3) (ld_H w N h σ p1 q_17 g) (pgT (ld_D σ p1 q_17 g)) ∧ WI (g + 3) (ld_H w N h σ p1 q_17 g) := by
  have hk : ∀ (x : Nat) (e : va_E), zc N h x e → zc (g + 3) (ld_H w N h σ p1 q_17 g) x e := fun x e hx => by
    have := hx.1
    exact zc_f (m := 3) (zc_f (m := 3) (zc_J hx (by omega)) (by omega) rfl) (by omega) rfl
  refine ⟨fun T hT => ?_, ?_, ?_⟩
  · obtain ⟨b1, ⟨s', b2⟩, b3, b4⟩ := hT
    exact ⟨hk _ _ b1, ⟨s', hk _ _ b2⟩, hk _ _ b3, b4⟩
  · refine ⟨⟨show g + 0 < g + 3 by omega, ?_⟩, ⟨fun _ => 0, show g + 1 < g + 3 by omega, ?_⟩, ⟨show g + 2 < g + 3 by omega, ?_⟩, show ¬ lin 0 g by omega, show ¬ lin 0 (g + 1) by omega, show ¬ lin 0 (g + 2) by omega, Or.inr (show 396 ≤ g by omega)⟩
    · exact (zc_w (a := g) (o := 0) (N := g + 3) (by omega) rfl).2
    · show zu _ g _ (g + 1) = _
      exact (zc_o (a := g) (o := 1) (zc_w (a := g) (o := 1) (N := g + 3) (by omega) rfl) rfl).2
    · exact (zc_w (a := g) (o := 2) (N := g + 3) (by omega) rfl).2
  · refine ⟨by omega, Or.inr ?_⟩
    rw [show g + 3 - 1 = g + 2 by omega, show ld_H w N h σ p1 q_17 g (g + 2) = _ from (zc_w (a := g) (o := 2) (N := g + 3) (by omega) rfl).2]
    rfl
theorem lw_off : ∀ (kv tt : Nat), lw_tg[kv]? = some tt → (#[208, 281, 337, 350, 363, 376, 432, 488, 556, 624, 691, 746, 801, 856, 911, 966, 1021, 1076, 1132, 1187, 1242, 1255, 1311, 1366, 1421, 1477, 1540, 1578, 1646, 1659, 1722, 1777, 1790, 1845, 1901, 1968, 2048, 2128, 2184, 2240, 2296, 2363, 2418, 2474, 2529, 2585, 2640, 2653] : Array Int)[kv]? = some ((tt : Int) - 40)
  | 0, tt, h => by cases h; rfl
  | 1, tt, h => by cases h; rfl
  | 2, tt, h => by cases h; rfl
  | 3, tt, h => by cases h; rfl
  | 4, tt, h => by cases h; rfl
  | 5, tt, h => by cases h; rfl
  | 6, tt, h => by cases h; rfl
  | 7, tt, h => by cases h; rfl
  | 8, tt, h => by cases h; rfl
  | 9, tt, h => by cases h; rfl
  | 10, tt, h => by cases h; rfl
  | 11, tt, h => by cases h; rfl
  | 12, tt, h => by cases h; rfl
  | 13, tt, h => by cases h; rfl
  | 14, tt, h => by cases h; rfl
  | 15, tt, h => by cases h; rfl
  | 16, tt, h => by cases h; rfl
  | 17, tt, h => by cases h; rfl
  | 18, tt, h => by cases h; rfl
  | 19, tt, h => by cases h; rfl
  | 20, tt, h => by cases h; rfl
  | 21, tt, h => by cases h; rfl
  | 22, tt, h => by cases h; rfl
  | 23, tt, h => by cases h; rfl
  | 24, tt, h => by cases h; rfl
  | 25, tt, h => by cases h; rfl
  | 26, tt, h => by cases h; rfl
  | 27, tt, h => by cases h; rfl
  | 28, tt, h => by cases h; rfl
  | 29, tt, h => by cases h; rfl
  | 30, tt, h => by cases h; rfl
  | 31, tt, h => by cases h; rfl
  | 32, tt, h => by cases h; rfl
  | 33, tt, h => by cases h; rfl
  | 34, tt, h => by cases h; rfl
  | 35, tt, h => by cases h; rfl
  | 36, tt, h => by cases h; rfl
  | 37, tt, h => by cases h; rfl
  | 38, tt, h => by cases h; rfl
  | 39, tt, h => by cases h; rfl
  | 40, tt, h => by cases h; rfl
  | 41, tt, h => by cases h; rfl
  | 42, tt, h => by cases h; rfl
  | 43, tt, h => by cases h; rfl
  | 44, tt, h => by cases h; rfl
  | 45, tt, h => by cases h; rfl
  | 46, tt, h => by cases h; rfl
  | 47, tt, h => by cases h; rfl
  | n + 48, tt, h => by simp [lw_tg] at h
theorem z_lv0 {h : zH} {st : List Value} {lv : List (Nat × Value)} {pc N : Nat} (kk : zZ X w Q k n false N h pc [] st) : zZ X w Q k n false N h pc lv st := fun H locs ls hP hs hS hL => kk H locs ls hP hs hS ⟨hL.1, hL.2.1, fun q z => absurd z List.not_mem_nil⟩
set_option maxRecDepth 20000 in
theorem lw_loop (hC : lw_C X w b L xs) (hL : L ≤ 3072) {J : (PgT → Prop) → Nat → LgT → MdT → Prop} (hJ : ∀ ok t σ ρ, t < 512 → J ok t σ ρ → ∀ q kv, lw_LS (J ok (t + 1)) (fun T σ' ρ' => ∀ ok' : PgT → Prop, (∀ T, ok T → ok' T) → ok' T → J ok' (t + 1) σ' ρ') σ ρ q kv) (hJm : ∀ ok t σ ρ, J ok t σ ρ → J ok (t + 1) σ ρ)
    (hJo : ∀ (ok ok' : PgT → Prop) t σ ρ, (∀ T, ok T → ok' T) → J ok t σ ρ → J ok' t σ ρ) (hJp : ∀ ok t σ ρ, J ok t σ ρ → ok (pgT (σ.2.2.2.2.2 σ.1.toNatClampNeg)) ∧ ∃ T, ok T ∧ T.1 = rj_rd_ga σ.2.2.1) (hJs : ∀ ok t σ ρ s, J ok t σ ρ → J ok t (lgs σ (pj_pr_pricing (σ.2.2.2.2.2 σ.1.toNatClampNeg)) s) ρ)
    (hfin : ∀ (k' n' N : Nat) (h0 : zH) (σ : LgT) (ρ : MdT) (u : Nat → Int64), k' ≤ 601024 → n' ≤ 7293033 → zZ X w Q k' n' false N (gW w h0 σ ρ u) 2714 [] [.int 1]) :
    ∀ (m t k n N : Nat) (h0 : zH) (σ : LgT) (ρ : MdT) (u : Nat → Int64), t + m = 512 → k ≤ 600 + 12 * t → n ≤ 100000 + 1000 * t → WI N h0 → J (PrOK w N h0) t σ ρ → zZ X w Q k n false N (gW w h0 σ ρ u) 23 (lw_lv w b (Int32.ofNat (6 * t))) [] := by
  obtain ⟨C, hX, hb, hw⟩ := id hC
  intro m
  induction m with
  | zero =>
    intro t k n N h0 σ ρ u ht hk hn hWI hJt
    have h512 : t = 512 := by omega
    subst h512
    refine z_iload (pc' := 25) C 0 dL_law_23 rfl rfl ?_
    refine z_aload_n (pc' := 26) C 4 dL_law_25 rfl rfl rfl ?_
    refine z_xlen (pc' := 27) C hX hb hw dL_law_26 rfl ?_
    refine z_bipush (pc' := 29) C dL_law_27 zk_bipush_6 rfl ?_
    refine z_isub (pc' := 30) C dL_law_29 rfl ?_
    have hc := (six_lt (L := L) (t := 512) hL (by omega)).mpr (by omega)
    refine z_icmp_gt (pc' := 33) C 2713 (if_pos hc : (if _ < _ then some () else (none : Option Unit)) = some ()) dL_law_30 rfl rfl (fun _ _ => ?_) (fun q _ => absurd hc q)
    refine z_iconst (pc' := 2714) C dL_law_2713 zk_iconst_1 rfl ?_
    exact z_lv0 (hfin k n N h0 σ ρ u (by omega) (by omega))
  | succ m ih =>
    intro t k n N h0 σ ρ u ht hk hn hWI hJt
    refine z_iload (pc' := 25) C 0 dL_law_23 rfl rfl ?_
    refine z_aload_n (pc' := 26) C 4 dL_law_25 rfl rfl rfl ?_
    refine z_xlen (pc' := 27) C hX hb hw dL_law_26 rfl ?_
    refine z_bipush (pc' := 29) C dL_law_27 zk_bipush_6 rfl ?_
    refine z_isub (pc' := 30) C dL_law_29 rfl ?_
    by_cases hle : 6 * t + 6 ≤ L
    · have hc : ¬ (Int32.ofNat L - 6 < Int32.ofNat (6 * t)) := fun z => (six_lt hL (by omega)).mp z hle
      refine z_icmp_gt (pc' := 33) C 2713 (if_neg hc : (if _ < _ then (none : Option Unit) else some ()) = some ()) dL_law_30 rfl rfl (fun z _ => absurd z hc) (fun _ _ => ?_)
      have hs := lw_scOf (xs := xs) hL hle
      refine z_aload_n (pc' := 34) C 4 dL_law_33 rfl rfl rfl ?_
      refine z_iload (pc' := 36) C 0 dL_law_34 rfl rfl ?_
      have hs0 := hs 0 (by omega)
      rw [show Int32.ofNat (6 * t) + Int32.ofNat 0 = Int32.ofNat (6 * t) from Int32.add_zero _] at hs0
      refine z_sld (pc' := 37) C hX hb hw hs0 dL_law_36 rfl ?_
      refine z_bipush (pc' := 39) C dL_law_37 zk_bipush_63 rfl ?_
      refine z_iand (pc' := 40) C dL_law_39 rfl ?_
      obtain ⟨kv, hkv, -, hkI⟩ := and63 (xs (6 * t + 0))
      have hN : ∀ N' h' σ' ρ', WI N' h' → J (PrOK w N' h') (t + 1) σ' ρ' → lw_N X w Q b (Int32.ofNat (6 * t)) N' h' k n σ' ρ' := by
        intro N' h' σ' ρ' hW' hJ' k' n' u' hk' hn'
        refine z_iinc (pc' := 2710) C 0 (lw_lv w b (Int32.ofNat (6 * t) + 6)) dL_law_2707 rfl zk_iconst_6 rfl rfl rfl ?_
        refine z_goto C 23 dL_law_2710 rfl ?_
        rw [show Int32.ofNat (6 * t) + 6 = Int32.ofNat (6 * (t + 1)) from (Int32.ofNat_add (6 * t) 6).symm]
        exact ih (t + 1) k' n' N' h' σ' ρ' u' (by omega) (by omega) (by omega) hW' hJ'
      by_cases h48 : kv < 48
      · obtain ⟨tt, htt⟩ : ∃ tt, lw_tg[kv]? = some tt := ⟨lw_tg[kv]'h48, List.getElem?_eq_getElem h48⟩
        have hoff : (#[208, 281, 337, 350, 363, 376, 432, 488, 556, 624, 691, 746, 801, 856, 911, 966, 1021, 1076, 1132, 1187, 1242, 1255, 1311, 1366, 1421, 1477, 1540, 1578, 1646, 1659, 1722, 1777, 1790, 1845, 1901, 1968, 2048, 2128, 2184, 2240, 2296, 2363, 2418, 2474, 2529, 2585, 2640, 2653] : Array Int)[kv]? = some ((tt : Int) - 40) := lw_off kv tt htt
        refine z_tabI C tt dL_law_40 (by rw [hkI]; omega) (by rw [hkI]; omega) (by rw [hkI, show ((kv : Int) - 0).toNat = kv by omega]; exact hoff) (by omega) ?_
        obtain ⟨hp, T0, hT0, e0⟩ := hJp _ _ _ _ hJt
        obtain ⟨h1, s, g1, g2, g3, g4⟩ := lw_sync hT0 e0 hp hWI
        rw [g1]
        have hJ1 := hJo _ _ _ _ _ g3 (hJs _ _ _ _ s hJt)
        generalize hσ : lgs σ (pj_pr_pricing (σ.2.2.2.2.2 σ.1.toNatClampNeg)) s = σ1 at hJ1 g4 ⊢
        obtain ⟨-, T1, hT1, e1⟩ := hJp _ _ _ _ hJ1
        obtain ⟨v1, ⟨s1, v2⟩, -⟩ := hT1
        have hga : rj_rd_ga σ1.2.2.1 + 1 < N := by rw [← e1]; exact v2.1
        obtain ⟨tb, te, w1, w2, w3, w4⟩ : ∃ (tb : Nat) (te : MdT → (Nat → Int64) → va_E), 389 ≤ tb ∧ N ≤ tb + 1 ∧ (∀ ρ u, zc N (gW w h1 σ1 ρ u) tb (te ρ u)) ∧ ∀ ρ u, zj (te ρ u) = true := by
          obtain ⟨x1, x2⟩ := g2
          by_cases c : N = 396
          · exact ⟨395, fun ρ u => .inl (w.2.2.1 1, 1, .inr (.inl u)), by omega, by omega, fun ρ u => gW_c (k := 6) (by omega) rfl, fun ρ u => rfl⟩
          · refine ⟨N - 1, fun ρ u => gW w h1 σ1 ρ u (N - 1), by omega, by omega, fun ρ u => ⟨by omega, rfl⟩, fun ρ u => ?_⟩
            have x3 := x2.resolve_left c
            have hz : zu h1 389 (mL w ρ u) (N - 1) = h1 (N - 1) := zu_far (m := 7) rfl (by omega)
            have hno : ¬ lin 0 (N - 1) := by omega
            show zj (lgH w 0 (zu h1 389 (mL w ρ u)) σ1 (N - 1)) = true
            rw [lg_out hno]
            split
            · rfl
            · rw [hz]
              exact x3
        refine lc_all (I := J (PrOK w N h1) (t + 1)) hWI.1 hC hs (by omega) (by omega) g4 w1 w2 (w3 ρ u) (w4 ρ u) hga (fun σ' ρ' hI => hN N h1 σ' ρ' g2 hI) (fun q_17 g σ' ρ' hg hI => ?_) kv (hJ _ t σ1 ρ (by omega) hJ1 _ kv) tt htt
        obtain ⟨y1, y2, y3⟩ := PrOK_ld (w := w) (h := h1) (σ := σ1) (p1 := xs (6 * t + 1)) (q_17 := q_17) hWI.1 hg
        exact hN _ _ _ _ y3 (hI _ y1 y2)
      · refine z_tabO C 2707 dL_law_40 (Or.inr (by rw [hkI]; omega)) rfl ?_
        exact hN N h0 σ ρ hWI (hJm _ t σ ρ hJt) k n u (by omega) (by omega)
    · have hc := (six_lt (L := L) (t := t) hL (by omega)).mpr hle
      refine z_icmp_gt (pc' := 33) C 2713 (if_pos hc : (if _ < _ then some () else (none : Option Unit)) = some ()) dL_law_30 rfl rfl (fun _ _ => ?_) (fun q _ => absurd hc q)
      refine z_iconst (pc' := 2714) C dL_law_2713 zk_iconst_1 rfl ?_
      exact z_lv0 (hfin k n N h0 σ ρ u (by omega) (by omega))
end LOOP
