/-! classes, methods, numbers -/
def FU : Nat := 1000000
def DR : Nat := 20
def zrd (d : Nat) : Room := { frames := 12 + d, cells := 0, slots := 0, locals := 500 + 60 * d }
abbrev zr (f lo : Nat) : Room := { frames := f, cells := 0, slots := 0, locals := lo }
theorem zb_0 : (0 : Int32) &&& 1 = 0 := by decide
theorem zb_1 : (1 : Int32) &&& 1 = 1 := by decide
theorem zl_0 : Int64.ofNat ((0 : Fin 2) : Nat) = (0 : Int64) := by decide
theorem zl_1 : Int64.ofNat ((1 : Fin 2) : Nat) = (1 : Int64) := by decide
theorem zRm_r {d nL : Nat} (h : Nat.ble nL 30 = true := by rfl) : zRm (zrd d) (zrd (d + 1)) nL = true := by
  have := Nat.le_of_ble_eq_true h
  simp only [zRm, zrd, Bool.and_eq_true]
  exact ⟨Nat.ble_eq_true_of_le (by omega), Nat.ble_eq_true_of_le (by omega)⟩
theorem zRm_c {rm : Room} {d nL : Nat} (h : zRm rm (zrd 0) nL = true) : zRm rm (zrd (d + 1)) nL = true := by
  have h := zRm_s h
  simp only [zrd] at h
  simp only [zRm, zrd, Bool.and_eq_true]
  exact ⟨Nat.ble_eq_true_of_le (by omega), Nat.ble_eq_true_of_le (by omega)⟩
theorem zus_0 : ∀ q ∈ u_ws RX0 TX0 6, q ∈ zG := by
  have e : u_ws RX0 TX0 6 = [.lays "ConstructionLedger$Certificates" "ConstructionLedger$Certificates" "count" "I", .laysFinal "ConstructionLedger$Certificates" "ConstructionLedger$Certificates" "contract" "[I", .laysFinal "ConstructionLedger$Certificates" "ConstructionLedger$Certificates" "amount" "[J", .laysFinal "ConstructionLedger$Certificates" "ConstructionLedger$Certificates" "open" "[J", .laysFinal "ConstructionLedger$Certificates" "ConstructionLedger$Certificates" "issued" "[I", .laysFinal "ConstructionLedger$Certificates" "ConstructionLedger$Certificates" "due" "[I"] := rfl
  rw [e]
  exact List.forall_mem_cons.mpr ⟨zw_192, List.forall_mem_cons.mpr ⟨zw_194, List.forall_mem_cons.mpr ⟨zw_196, List.forall_mem_cons.mpr ⟨zw_198, List.forall_mem_cons.mpr ⟨zw_200, List.forall_mem_cons.mpr ⟨zw_202, fun _ h => absurd h List.not_mem_nil⟩⟩⟩⟩⟩⟩
theorem zci_0 : zci 0 RX0 TX0 6 tyX0 := ⟨rfl, zus_0, tyX0_ok, nmX0⟩
theorem zy_X0_init : zY yX0_init cX0_init 1 none 0 := ⟨zw_174, zw_9, by decide +kernel, by decide +kernel, by decide +kernel⟩
theorem zy_X0_add : zY yX0_add cX0_add 6 (some .int) 4 := ⟨zw_1105, zw_9, by decide +kernel, by decide +kernel, by decide +kernel⟩
theorem zy_X0_copyFrom : zY yX0_copyFrom cX0_copyFrom 2 none 1 := ⟨zw_692, zw_9, by decide +kernel, by decide +kernel, by decide +kernel⟩
theorem zy_X0_certifiedOf : zY yX0_certifiedOf cX0_certifiedOf 5 (some .long) 1 := ⟨zw_432, zw_9, by decide +kernel, by decide +kernel, by decide +kernel⟩
theorem zy_X0_unpaidOf : zY yX0_unpaidOf cX0_unpaidOf 5 (some .long) 1 := ⟨zw_440, zw_9, by decide +kernel, by decide +kernel, by decide +kernel⟩
theorem zy_X0_overdueOf : zY yX0_overdueOf cX0_overdueOf 6 (some .long) 2 := ⟨zw_851, zw_9, by decide +kernel, by decide +kernel, by decide +kernel⟩
theorem zy_X0_openDueBetween : zY yX0_openDueBetween cX0_openDueBetween 6 (some .long) 2 := ⟨zw_368, zw_9, by decide +kernel, by decide +kernel, by decide +kernel⟩
theorem zy_X0_hasOpenUpTo : zY yX0_hasOpenUpTo cX0_hasOpenUpTo 4 (some .boolean) 2 := ⟨zw_924, zw_9, by decide +kernel, by decide +kernel, by decide +kernel⟩
theorem zy_X0_isPaid : zY yX0_isPaid cX0_isPaid 2 (some .boolean) 1 := ⟨zw_943, zw_9, by decide +kernel, by decide +kernel, by decide +kernel⟩
theorem zy_X0_nextDueDay : zY yX0_nextDueDay cX0_nextDueDay 5 (some .int) 2 := ⟨zw_964, zw_9, by decide +kernel, by decide +kernel, by decide +kernel⟩
theorem zy_X0_sortByDueDay : zY yX0_sortByDueDay cX0_sortByDueDay 4 none 1 := ⟨zw_939, zw_9, by decide +kernel, by decide +kernel, by decide +kernel⟩
theorem zus_1 : ∀ q ∈ u_ws RX1 TX1 8, q ∈ zG := by
  have e : u_ws RX1 TX1 8 = [.lays "ConstructionLedger$Contracts" "ConstructionLedger$Contracts" "count" "I", .laysFinal "ConstructionLedger$Contracts" "ConstructionLedger$Contracts" "parent" "[I", .laysFinal "ConstructionLedger$Contracts" "ConstructionLedger$Contracts" "retentionPercent" "[I", .laysFinal "ConstructionLedger$Contracts" "ConstructionLedger$Contracts" "limitPercent" "[I", .laysFinal "ConstructionLedger$Contracts" "ConstructionLedger$Contracts" "paymentDays" "[I", .laysFinal "ConstructionLedger$Contracts" "ConstructionLedger$Contracts" "rank" "[I", .laysFinal "ConstructionLedger$Contracts" "ConstructionLedger$Contracts" "linked" "[Z", .laysFinal "ConstructionLedger$Contracts" "ConstructionLedger$Contracts" "stage" "[I"] := rfl
  rw [e]
  exact List.forall_mem_cons.mpr ⟨zw_69, List.forall_mem_cons.mpr ⟨zw_71, List.forall_mem_cons.mpr ⟨zw_73, List.forall_mem_cons.mpr ⟨zw_75, List.forall_mem_cons.mpr ⟨zw_77, List.forall_mem_cons.mpr ⟨zw_79, List.forall_mem_cons.mpr ⟨zw_81, List.forall_mem_cons.mpr ⟨zw_83, fun _ h => absurd h List.not_mem_nil⟩⟩⟩⟩⟩⟩⟩⟩
theorem zci_1 : zci 1 RX1 TX1 8 tyX1 := ⟨rfl, zus_1, tyX1_ok, nmX1⟩
theorem zy_X1_init : zY yX1_init cX1_init 1 none 0 := ⟨zw_47, zw_4, by decide +kernel, by decide +kernel, by decide +kernel⟩
theorem zy_X1_add : zY yX1_add cX1_add 7 none 6 := ⟨zw_616, zw_4, by decide +kernel, by decide +kernel, by decide +kernel⟩
theorem zy_X1_copyFrom : zY yX1_copyFrom cX1_copyFrom 3 none 1 := ⟨zw_677, zw_4, by decide +kernel, by decide +kernel, by decide +kernel⟩
theorem zus_2 : ∀ q ∈ u_ws RX2 TX2 5, q ∈ zG := by
  have e : u_ws RX2 TX2 5 = [.laysFinal "ConstructionLedger$Items" "ConstructionLedger$Items" "count" "[I", .laysFinal "ConstructionLedger$Items" "ConstructionLedger$Items" "first" "[I", .laysFinal "ConstructionLedger$Items" "ConstructionLedger$Items" "price" "[I", .laysFinal "ConstructionLedger$Items" "ConstructionLedger$Items" "quantity" "[I", .laysFinal "ConstructionLedger$Items" "ConstructionLedger$Items" "progress" "[I"] := rfl
  rw [e]
  exact List.forall_mem_cons.mpr ⟨zw_133, List.forall_mem_cons.mpr ⟨zw_135, List.forall_mem_cons.mpr ⟨zw_137, List.forall_mem_cons.mpr ⟨zw_139, List.forall_mem_cons.mpr ⟨zw_141, fun _ h => absurd h List.not_mem_nil⟩⟩⟩⟩⟩
theorem zci_2 : zci 2 RX2 TX2 5 tyX2 := ⟨rfl, zus_2, tyX2_ok, nmX2⟩
theorem zy_X2_init : zY yX2_init cX2_init 1 none 0 := ⟨zw_120, zw_7, by decide +kernel, by decide +kernel, by decide +kernel⟩
theorem zy_X2_slotOf : zY yX2_slotOf cX2_slotOf 2 (some .int) 2 := ⟨zw_396, zw_7, by decide +kernel, by decide +kernel, by decide +kernel⟩
theorem zy_X2_clear : zY yX2_clear cX2_clear 2 none 0 := ⟨zw_532, zw_7, by decide +kernel, by decide +kernel, by decide +kernel⟩
theorem zy_X2_add : zY yX2_add cX2_add 5 none 3 := ⟨zw_635, zw_7, by decide +kernel, by decide +kernel, by decide +kernel⟩
theorem zy_X2_copyFrom : zY yX2_copyFrom cX2_copyFrom 2 none 1 := ⟨zw_682, zw_7, by decide +kernel, by decide +kernel, by decide +kernel⟩
theorem zy_X2_specialRateOf : zY yX2_specialRateOf cX2_specialRateOf 4 (some .int) 2 := ⟨zw_759, zw_7, by decide +kernel, by decide +kernel, by decide +kernel⟩
theorem zy_X2_fullValueOf : zY yX2_fullValueOf cX2_fullValueOf 4 (some .long) 3 := ⟨zw_798, zw_7, by decide +kernel, by decide +kernel, by decide +kernel⟩
theorem zy_X2_valueOf : zY yX2_valueOf cX2_valueOf 5 (some .long) 2 := ⟨zw_400, zw_7, by decide +kernel, by decide +kernel, by decide +kernel⟩
theorem zy_X2_firstSumOf : zY yX2_firstSumOf cX2_firstSumOf 6 (some .long) 1 := ⟨zw_783, zw_7, by decide +kernel, by decide +kernel, by decide +kernel⟩
theorem zy_X2_areComplete : zY yX2_areComplete cX2_areComplete 3 (some .boolean) 1 := ⟨zw_1116, zw_7, by decide +kernel, by decide +kernel, by decide +kernel⟩
theorem zus_3 : ∀ q ∈ u_ws RX3 TX3 5, q ∈ zG := by
  have e : u_ws RX3 TX3 5 = [.lays "ConstructionLedger$Liens" "ConstructionLedger$Liens" "count" "I", .laysFinal "ConstructionLedger$Liens" "ConstructionLedger$Liens" "contract" "[I", .laysFinal "ConstructionLedger$Liens" "ConstructionLedger$Liens" "amount" "[J", .laysFinal "ConstructionLedger$Liens" "ConstructionLedger$Liens" "filed" "[I", .laysFinal "ConstructionLedger$Liens" "ConstructionLedger$Liens" "withdrawn" "[Z"] := rfl
  rw [e]
  exact List.forall_mem_cons.mpr ⟨zw_223, List.forall_mem_cons.mpr ⟨zw_225, List.forall_mem_cons.mpr ⟨zw_227, List.forall_mem_cons.mpr ⟨zw_229, List.forall_mem_cons.mpr ⟨zw_231, fun _ h => absurd h List.not_mem_nil⟩⟩⟩⟩⟩
theorem zci_3 : zci 3 RX3 TX3 5 tyX3 := ⟨rfl, zus_3, tyX3_ok, nmX3⟩
theorem zy_X3_init : zY yX3_init cX3_init 1 none 0 := ⟨zw_209, zw_10, by decide +kernel, by decide +kernel, by decide +kernel⟩
theorem zy_X3_add : zY yX3_add cX3_add 5 (some .int) 3 := ⟨zw_1169, zw_10, by decide +kernel, by decide +kernel, by decide +kernel⟩
theorem zy_X3_copyFrom : zY yX3_copyFrom cX3_copyFrom 3 none 1 := ⟨zw_697, zw_10, by decide +kernel, by decide +kernel, by decide +kernel⟩
theorem zus_4 : ∀ q ∈ u_ws RX4 TX4 4, q ∈ zG := by
  have e : u_ws RX4 TX4 4 = [.lays "ConstructionLedger$Pricing" "ConstructionLedger$Pricing" "threshold" "I", .lays "ConstructionLedger$Pricing" "ConstructionLedger$Pricing" "length" "I", .laysFinal "ConstructionLedger$Pricing" "ConstructionLedger$Pricing" "code" "[I", .laysFinal "ConstructionLedger$Pricing" "ConstructionLedger$Pricing" "stack" "[I"] := rfl
  rw [e]
  exact List.forall_mem_cons.mpr ⟨zw_107, List.forall_mem_cons.mpr ⟨zw_109, List.forall_mem_cons.mpr ⟨zw_111, List.forall_mem_cons.mpr ⟨zw_113, fun _ h => absurd h List.not_mem_nil⟩⟩⟩⟩
theorem zci_4 : zci 4 RX4 TX4 4 tyX4 := ⟨rfl, zus_4, tyX4_ok, nmX4⟩
theorem zy_X4_init : zY yX4_init cX4_init 2 none 1 := ⟨zw_94, zw_5, by decide +kernel, by decide +kernel, by decide +kernel⟩
theorem zy_X4_add : zY yX4_add cX4_add 2 none 1 := ⟨zw_659, zw_5, by decide +kernel, by decide +kernel, by decide +kernel⟩
theorem zy_X4_fullValue : zY yX4_fullValue cX4_fullValue 8 (some .long) 3 := ⟨zw_404, zw_5, by decide +kernel, by decide +kernel, by decide +kernel⟩
theorem zy_X4_excessOf : zY yX4_excessOf cX4_excessOf 3 (some .int) 2 := ⟨zw_763, zw_5, by decide +kernel, by decide +kernel, by decide +kernel⟩
theorem zy_X4_boundOf : zY yX4_boundOf cX4_boundOf 2 (some .int) 1 := ⟨zw_408, zw_5, by decide +kernel, by decide +kernel, by decide +kernel⟩
theorem zy_X4_rate : zY yX4_rate cX4_rate 7 (some .int) 3 := ⟨zw_412, zw_5, by decide +kernel, by decide +kernel, by decide +kernel⟩
theorem zy_X4_operand : zY yX4_operand cX4_operand 4 (some .int) 4 := ⟨zw_415, zw_5, by decide +kernel, by decide +kernel, by decide +kernel⟩
theorem zy_X4_result : zY yX4_result cX4_result 5 (some .int) 3 := ⟨zw_418, zw_5, by decide +kernel, by decide +kernel, by decide +kernel⟩
theorem zus_5 : ∀ q ∈ u_ws RX5 TX5 9, q ∈ zG := by
  have e : u_ws RX5 TX5 9 = [.lays "ConstructionLedger$Project" "ConstructionLedger$Project" "day" "I", .laysFinal "ConstructionLedger$Project" "ConstructionLedger$Project" "accounts" "[J", .laysFinal "ConstructionLedger$Project" "ConstructionLedger$Project" "contracts" "LConstructionLedger$Contracts;", .lays "ConstructionLedger$Project" "ConstructionLedger$Project" "pricing" "LConstructionLedger$Pricing;", .laysFinal "ConstructionLedger$Project" "ConstructionLedger$Project" "items" "LConstructionLedger$Items;", .laysFinal "ConstructionLedger$Project" "ConstructionLedger$Project" "variations" "LConstructionLedger$Variations;", .laysFinal "ConstructionLedger$Project" "ConstructionLedger$Project" "certificates" "LConstructionLedger$Certificates;", .laysFinal "ConstructionLedger$Project" "ConstructionLedger$Project" "liens" "LConstructionLedger$Liens;", .laysFinal "ConstructionLedger$Project" "ConstructionLedger$Project" "order" "[I"] := rfl
  rw [e]
  exact List.forall_mem_cons.mpr ⟨zw_255, List.forall_mem_cons.mpr ⟨zw_257, List.forall_mem_cons.mpr ⟨zw_259, List.forall_mem_cons.mpr ⟨zw_261, List.forall_mem_cons.mpr ⟨zw_263, List.forall_mem_cons.mpr ⟨zw_265, List.forall_mem_cons.mpr ⟨zw_267, List.forall_mem_cons.mpr ⟨zw_269, List.forall_mem_cons.mpr ⟨zw_271, fun _ h => absurd h List.not_mem_nil⟩⟩⟩⟩⟩⟩⟩⟩⟩
theorem zci_5 : zci 5 RX5 TX5 9 tyX5 := ⟨rfl, zus_5, tyX5_ok, nmX5⟩
theorem zy_X5_init : zY yX5_init cX5_init 1 none 0 := ⟨zw_41, zw_3, by decide +kernel, by decide +kernel, by decide +kernel⟩
theorem zy_X5_clear : zY yX5_clear cX5_clear 3 none 1 := ⟨zw_528, zw_3, by decide +kernel, by decide +kernel, by decide +kernel⟩
theorem zy_X5_copyFrom : zY yX5_copyFrom cX5_copyFrom 2 none 1 := ⟨zw_670, zw_3, by decide +kernel, by decide +kernel, by decide +kernel⟩
theorem zy_X5_presentSumOf : zY yX5_presentSumOf cX5_presentSumOf 6 (some .long) 1 := ⟨zw_794, zw_3, by decide +kernel, by decide +kernel, by decide +kernel⟩
theorem zy_X5_grossOf : zY yX5_grossOf cX5_grossOf 5 (some .long) 1 := ⟨zw_393, zw_3, by decide +kernel, by decide +kernel, by decide +kernel⟩
theorem zy_X5_retentionOf : zY yX5_retentionOf cX5_retentionOf 10 (some .long) 2 := ⟨zw_817, zw_3, by decide +kernel, by decide +kernel, by decide +kernel⟩
theorem zy_X5_amountToCertify : zY yX5_amountToCertify cX5_amountToCertify 6 (some .long) 1 := ⟨zw_1100, zw_3, by decide +kernel, by decide +kernel, by decide +kernel⟩
theorem zy_X5_marginOf : zY yX5_marginOf cX5_marginOf 5 (some .long) 1 := ⟨zw_869, zw_3, by decide +kernel, by decide +kernel, by decide +kernel⟩
theorem zy_X5_overdueOf : zY yX5_overdueOf cX5_overdueOf 2 (some .long) 1 := ⟨zw_847, zw_3, by decide +kernel, by decide +kernel, by decide +kernel⟩
theorem zy_X5_quantityWith : zY yX5_quantityWith cX5_quantityWith 2 (some .int) 1 := ⟨zw_991, zw_3, by decide +kernel, by decide +kernel, by decide +kernel⟩
theorem zy_X5_worthOf : zY yX5_worthOf cX5_worthOf 4 (some .long) 1 := ⟨zw_987, zw_3, by decide +kernel, by decide +kernel, by decide +kernel⟩
theorem zy_X5_isHeldBack : zY yX5_isHeldBack cX5_isHeldBack 3 (some .boolean) 1 := ⟨zw_920, zw_3, by decide +kernel, by decide +kernel, by decide +kernel⟩
theorem zy_X5_payerHolds : zY yX5_payerHolds cX5_payerHolds 2 (some .long) 1 := ⟨zw_955, zw_3, by decide +kernel, by decide +kernel, by decide +kernel⟩
theorem zy_X5_transfer : zY yX5_transfer cX5_transfer 5 none 2 := ⟨zw_960, zw_3, by decide +kernel, by decide +kernel, by decide +kernel⟩
theorem zy_X5_settleUntilPaid : zY yX5_settleUntilPaid cX5_settleUntilPaid 9 (some .long) 2 := ⟨zw_935, zw_3, by decide +kernel, by decide +kernel, by decide +kernel⟩
theorem zy_X5_settleOneDay : zY yX5_settleOneDay cX5_settleOneDay 4 (some .long) 0 := ⟨zw_947, zw_3, by decide +kernel, by decide +kernel, by decide +kernel⟩
theorem zy_X5_payFromAccount : zY yX5_payFromAccount cX5_payFromAccount 4 (some .long) 1 := ⟨zw_951, zw_3, by decide +kernel, by decide +kernel, by decide +kernel⟩
theorem zy_X5_claimOf : zY yX5_claimOf cX5_claimOf 2 (some .long) 1 := ⟨zw_436, zw_3, by decide +kernel, by decide +kernel, by decide +kernel⟩
theorem zy_X5_hasClaim : zY yX5_hasClaim cX5_hasClaim 3 (some .boolean) 1 := ⟨zw_1165, zw_3, by decide +kernel, by decide +kernel, by decide +kernel⟩
theorem zy_X5_rankOf : zY yX5_rankOf cX5_rankOf 2 (some .int) 1 := ⟨zw_1022, zw_3, by decide +kernel, by decide +kernel, by decide +kernel⟩
theorem zy_X5_precedes : zY yX5_precedes cX5_precedes 3 (some .boolean) 2 := ⟨zw_1018, zw_3, by decide +kernel, by decide +kernel, by decide +kernel⟩
theorem zy_X5_lienAt : zY yX5_lienAt cX5_lienAt 5 (some .int) 1 := ⟨zw_1014, zw_3, by decide +kernel, by decide +kernel, by decide +kernel⟩
theorem zy_X5_claimsOfRank : zY yX5_claimsOfRank cX5_claimsOfRank 5 (some .long) 1 := ⟨zw_1038, zw_3, by decide +kernel, by decide +kernel, by decide +kernel⟩
theorem zy_X5_shareOf : zY yX5_shareOf cX5_shareOf 9 (some .long) 2 := ⟨zw_1034, zw_3, by decide +kernel, by decide +kernel, by decide +kernel⟩
theorem zy_X5_partOf : zY yX5_partOf cX5_partOf 13 (some .long) 3 := ⟨zw_1042, zw_3, by decide +kernel, by decide +kernel, by decide +kernel⟩
theorem zy_X5_checksumOfAll : zY yX5_checksumOfAll cX5_checksumOfAll 4 (some .long) 0 := ⟨zw_388, zw_3, by decide +kernel, by decide +kernel, by decide +kernel⟩
theorem zus_6 : ∀ q ∈ u_ws RX6 TX6 12, q ∈ zG := by
  have e : u_ws RX6 TX6 12 = [.laysFinal "ConstructionLedger$SetupReader" "ConstructionLedger$SetupReader" "text" "[B", .lays "ConstructionLedger$SetupReader" "ConstructionLedger$SetupReader" "filled" "I", .laysFinal "ConstructionLedger$SetupReader" "ConstructionLedger$SetupReader" "draft" "LConstructionLedger$Project;", .lays "ConstructionLedger$SetupReader" "ConstructionLedger$SetupReader" "length" "I", .lays "ConstructionLedger$SetupReader" "ConstructionLedger$SetupReader" "at" "I", .lays "ConstructionLedger$SetupReader" "ConstructionLedger$SetupReader" "kind" "I", .lays "ConstructionLedger$SetupReader" "ConstructionLedger$SetupReader" "start" "I", .lays "ConstructionLedger$SetupReader" "ConstructionLedger$SetupReader" "value" "I", .lays "ConstructionLedger$SetupReader" "ConstructionLedger$SetupReader" "error" "I", .lays "ConstructionLedger$SetupReader" "ConstructionLedger$SetupReader" "errorAt" "I", .lays "ConstructionLedger$SetupReader" "ConstructionLedger$SetupReader" "hasThreshold" "Z", .lays "ConstructionLedger$SetupReader" "ConstructionLedger$SetupReader" "hasRate" "Z"] := rfl
  rw [e]
  exact List.forall_mem_cons.mpr ⟨zw_289, List.forall_mem_cons.mpr ⟨zw_291, List.forall_mem_cons.mpr ⟨zw_293, List.forall_mem_cons.mpr ⟨zw_295, List.forall_mem_cons.mpr ⟨zw_297, List.forall_mem_cons.mpr ⟨zw_299, List.forall_mem_cons.mpr ⟨zw_301, List.forall_mem_cons.mpr ⟨zw_303, List.forall_mem_cons.mpr ⟨zw_305, List.forall_mem_cons.mpr ⟨zw_307, List.forall_mem_cons.mpr ⟨zw_309, List.forall_mem_cons.mpr ⟨zw_311, fun _ h => absurd h List.not_mem_nil⟩⟩⟩⟩⟩⟩⟩⟩⟩⟩⟩⟩
theorem zci_6 : zci 6 RX6 TX6 12 tyX6 := ⟨rfl, zus_6, tyX6_ok, nmX6⟩
theorem zy_X6_init : zY yX6_init cX6_init 1 none 0 := ⟨zw_35, zw_2, by decide +kernel, by decide +kernel, by decide +kernel⟩
theorem zy_X6_addBytes : zY yX6_addBytes cX6_addBytes 3 none 1 := ⟨zw_340, zw_2, by decide +kernel, by decide +kernel, by decide +kernel⟩
theorem zy_X6_read : zY yX6_read cX6_read 3 (some .int) 1 := ⟨zw_523, zw_2, by decide +kernel, by decide +kernel, by decide +kernel⟩
theorem zy_X6_readHead : zY yX6_readHead cX6_readHead 5 none 0 := ⟨zw_541, zw_2, by decide +kernel, by decide +kernel, by decide +kernel⟩
theorem zy_X6_readStatement : zY yX6_readStatement cX6_readStatement 1 none 0 := ⟨zw_620, zw_2, by decide +kernel, by decide +kernel, by decide +kernel⟩
theorem zy_X6_readSub : zY yX6_readSub cX6_readSub 7 none 0 := ⟨zw_625, zw_2, by decide +kernel, by decide +kernel, by decide +kernel⟩
theorem zy_X6_readItem : zY yX6_readItem cX6_readItem 5 none 0 := ⟨zw_631, zw_2, by decide +kernel, by decide +kernel, by decide +kernel⟩
theorem zy_X6_readSum : zY yX6_readSum cX6_readSum 4 none 1 := ⟨zw_642, zw_2, by decide +kernel, by decide +kernel, by decide +kernel⟩
theorem zy_X6_readTerm : zY yX6_readTerm cX6_readTerm 4 none 1 := ⟨zw_646, zw_2, by decide +kernel, by decide +kernel, by decide +kernel⟩
theorem zy_X6_readFactor : zY yX6_readFactor cX6_readFactor 2 none 1 := ⟨zw_650, zw_2, by decide +kernel, by decide +kernel, by decide +kernel⟩
theorem zy_X6_addOperand : zY yX6_addOperand cX6_addOperand 2 none 1 := ⟨zw_655, zw_2, by decide +kernel, by decide +kernel, by decide +kernel⟩
theorem zy_X6_failAt : zY yX6_failAt cX6_failAt 3 none 2 := ⟨zw_602, zw_2, by decide +kernel, by decide +kernel, by decide +kernel⟩
theorem zy_X6_take : zY yX6_take cX6_take 2 none 1 := ⟨zw_611, zw_2, by decide +kernel, by decide +kernel, by decide +kernel⟩
theorem zy_X6_takeWord : zY yX6_takeWord cX6_takeWord 2 none 1 := ⟨zw_546, zw_2, by decide +kernel, by decide +kernel, by decide +kernel⟩
theorem zy_X6_takeNumber : zY yX6_takeNumber cX6_takeNumber 4 (some .int) 2 := ⟨zw_607, zw_2, by decide +kernel, by decide +kernel, by decide +kernel⟩
theorem zy_X6_isWord : zY yX6_isWord cX6_isWord 3 (some .boolean) 1 := ⟨zw_550, zw_2, by decide +kernel, by decide +kernel, by decide +kernel⟩
theorem zy_X6_advance : zY yX6_advance cX6_advance 2 none 0 := ⟨zw_536, zw_2, by decide +kernel, by decide +kernel, by decide +kernel⟩
theorem zus_7 : ∀ q ∈ u_ws RX7 TX7 4, q ∈ zG := by
  have e : u_ws RX7 TX7 4 = [.lays "ConstructionLedger$Variations" "ConstructionLedger$Variations" "count" "I", .laysFinal "ConstructionLedger$Variations" "ConstructionLedger$Variations" "slot" "[I", .laysFinal "ConstructionLedger$Variations" "ConstructionLedger$Variations" "change" "[I", .laysFinal "ConstructionLedger$Variations" "ConstructionLedger$Variations" "approved" "[Z"] := rfl
  rw [e]
  exact List.forall_mem_cons.mpr ⟨zw_161, List.forall_mem_cons.mpr ⟨zw_163, List.forall_mem_cons.mpr ⟨zw_165, List.forall_mem_cons.mpr ⟨zw_167, fun _ h => absurd h List.not_mem_nil⟩⟩⟩⟩
theorem zci_7 : zci 7 RX7 TX7 4 tyX7 := ⟨rfl, zus_7, tyX7_ok, nmX7⟩
theorem zy_X7_init : zY yX7_init cX7_init 1 none 0 := ⟨zw_148, zw_8, by decide +kernel, by decide +kernel, by decide +kernel⟩
theorem zy_X7_add : zY yX7_add cX7_add 3 (some .int) 2 := ⟨zw_1081, zw_8, by decide +kernel, by decide +kernel, by decide +kernel⟩
theorem zy_X7_copyFrom : zY yX7_copyFrom cX7_copyFrom 3 none 1 := ⟨zw_687, zw_8, by decide +kernel, by decide +kernel, by decide +kernel⟩
theorem zus_8 : ∀ q ∈ u_ws RX8 TX8 5, q ∈ zG := by
  have e : u_ws RX8 TX8 5 = [.laysFinal "ConstructionLedger" "ConstructionLedger" "reader" "LConstructionLedger$SetupReader;", .laysFinal "ConstructionLedger" "ConstructionLedger" "states" "[LConstructionLedger$Project;", .lays "ConstructionLedger" "ConstructionLedger" "present" "I", .lays "ConstructionLedger" "ConstructionLedger" "undoSteps" "I", .laysFinal "ConstructionLedger" "ConstructionLedger" "forecast" "LConstructionLedger$Project;"] := rfl
  rw [e]
  exact List.forall_mem_cons.mpr ⟨zw_322, List.forall_mem_cons.mpr ⟨zw_324, List.forall_mem_cons.mpr ⟨zw_326, List.forall_mem_cons.mpr ⟨zw_328, List.forall_mem_cons.mpr ⟨zw_330, fun _ h => absurd h List.not_mem_nil⟩⟩⟩⟩⟩
theorem zci_8 : zci 8 RX8 TX8 5 tyX8 := ⟨rfl, zus_8, tyX8_ok, nmX8⟩
theorem zy_X8_init : zY yX8_init cX8_init 2 none 0 := ⟨zw_27, zw_1, by decide +kernel, by decide +kernel, by decide +kernel⟩
theorem zy_X8_append : zY yX8_append cX8_append 6 (some .int) 5 := ⟨zw_336, zw_1, by decide +kernel, by decide +kernel, by decide +kernel⟩
theorem zy_X8_load : zY yX8_load cX8_load 4 (some .int) 1 := ⟨zw_449, zw_1, by decide +kernel, by decide +kernel, by decide +kernel⟩
theorem zy_X8_errorOffset : zY yX8_errorOffset cX8_errorOffset 1 (some .int) 0 := ⟨zw_344, zw_1, by decide +kernel, by decide +kernel, by decide +kernel⟩
theorem zy_X8_day : zY yX8_day cX8_day 1 (some .int) 0 := ⟨zw_348, zw_1, by decide +kernel, by decide +kernel, by decide +kernel⟩
theorem zy_X8_contractCount : zY yX8_contractCount cX8_contractCount 1 (some .int) 0 := ⟨zw_356, zw_1, by decide +kernel, by decide +kernel, by decide +kernel⟩
theorem zy_X8_parent : zY yX8_parent cX8_parent 2 (some .int) 1 := ⟨zw_706, zw_1, by decide +kernel, by decide +kernel, by decide +kernel⟩
theorem zy_X8_itemCount : zY yX8_itemCount cX8_itemCount 2 (some .int) 1 := ⟨zw_736, zw_1, by decide +kernel, by decide +kernel, by decide +kernel⟩
theorem zy_X8_quantity : zY yX8_quantity cX8_quantity 3 (some .int) 2 := ⟨zw_743, zw_1, by decide +kernel, by decide +kernel, by decide +kernel⟩
theorem zy_X8_specialRate : zY yX8_specialRate cX8_specialRate 4 (some .int) 2 := ⟨zw_755, zw_1, by decide +kernel, by decide +kernel, by decide +kernel⟩
theorem zy_X8_itemValue : zY yX8_itemValue cX8_itemValue 4 (some .long) 2 := ⟨zw_771, zw_1, by decide +kernel, by decide +kernel, by decide +kernel⟩
theorem zy_X8_firstSum : zY yX8_firstSum cX8_firstSum 2 (some .long) 1 := ⟨zw_779, zw_1, by decide +kernel, by decide +kernel, by decide +kernel⟩
theorem zy_X8_presentSum : zY yX8_presentSum cX8_presentSum 2 (some .long) 1 := ⟨zw_790, zw_1, by decide +kernel, by decide +kernel, by decide +kernel⟩
theorem zy_X8_grossValue : zY yX8_grossValue cX8_grossValue 2 (some .long) 1 := ⟨zw_805, zw_1, by decide +kernel, by decide +kernel, by decide +kernel⟩
theorem zy_X8_retention : zY yX8_retention cX8_retention 2 (some .long) 1 := ⟨zw_813, zw_1, by decide +kernel, by decide +kernel, by decide +kernel⟩
theorem zy_X8_certified : zY yX8_certified cX8_certified 2 (some .long) 1 := ⟨zw_827, zw_1, by decide +kernel, by decide +kernel, by decide +kernel⟩
theorem zy_X8_unpaid : zY yX8_unpaid cX8_unpaid 2 (some .long) 1 := ⟨zw_835, zw_1, by decide +kernel, by decide +kernel, by decide +kernel⟩
theorem zy_X8_overdue : zY yX8_overdue cX8_overdue 2 (some .long) 1 := ⟨zw_843, zw_1, by decide +kernel, by decide +kernel, by decide +kernel⟩
theorem zy_X8_stage : zY yX8_stage cX8_stage 2 (some .int) 1 := ⟨zw_858, zw_1, by decide +kernel, by decide +kernel, by decide +kernel⟩
theorem zy_X8_margin : zY yX8_margin cX8_margin 2 (some .long) 1 := ⟨zw_865, zw_1, by decide +kernel, by decide +kernel, by decide +kernel⟩
theorem zy_X8_account : zY yX8_account cX8_account 2 (some .long) 1 := ⟨zw_877, zw_1, by decide +kernel, by decide +kernel, by decide +kernel⟩
theorem zy_X8_certificateCount : zY yX8_certificateCount cX8_certificateCount 1 (some .int) 0 := ⟨zw_360, zw_1, by decide +kernel, by decide +kernel, by decide +kernel⟩
theorem zy_X8_certificateContract : zY yX8_certificateContract cX8_certificateContract 2 (some .int) 1 := ⟨zw_884, zw_1, by decide +kernel, by decide +kernel, by decide +kernel⟩
theorem zy_X8_amount : zY yX8_amount cX8_amount 2 (some .long) 1 := ⟨zw_895, zw_1, by decide +kernel, by decide +kernel, by decide +kernel⟩
theorem zy_X8_openAmount : zY yX8_openAmount cX8_openAmount 2 (some .long) 1 := ⟨zw_902, zw_1, by decide +kernel, by decide +kernel, by decide +kernel⟩
theorem zy_X8_dueDay : zY yX8_dueDay cX8_dueDay 2 (some .int) 1 := ⟨zw_909, zw_1, by decide +kernel, by decide +kernel, by decide +kernel⟩
theorem zy_X8_isBlocked : zY yX8_isBlocked cX8_isBlocked 2 (some .boolean) 1 := ⟨zw_916, zw_1, by decide +kernel, by decide +kernel, by decide +kernel⟩
theorem zy_X8_dueBetween : zY yX8_dueBetween cX8_dueBetween 3 (some .long) 2 := ⟨zw_364, zw_1, by decide +kernel, by decide +kernel, by decide +kernel⟩
theorem zy_X8_settleDays : zY yX8_settleDays cX8_settleDays 3 (some .int) 2 := ⟨zw_931, zw_1, by decide +kernel, by decide +kernel, by decide +kernel⟩
theorem zy_X8_variationCount : zY yX8_variationCount cX8_variationCount 1 (some .int) 0 := ⟨zw_372, zw_1, by decide +kernel, by decide +kernel, by decide +kernel⟩
theorem zy_X8_isApproved : zY yX8_isApproved cX8_isApproved 2 (some .boolean) 1 := ⟨zw_972, zw_1, by decide +kernel, by decide +kernel, by decide +kernel⟩
theorem zy_X8_variationWorth : zY yX8_variationWorth cX8_variationWorth 2 (some .long) 1 := ⟨zw_983, zw_1, by decide +kernel, by decide +kernel, by decide +kernel⟩
theorem zy_X8_lienCount : zY yX8_lienCount cX8_lienCount 1 (some .int) 0 := ⟨zw_376, zw_1, by decide +kernel, by decide +kernel, by decide +kernel⟩
theorem zy_X8_claim : zY yX8_claim cX8_claim 2 (some .long) 1 := ⟨zw_998, zw_1, by decide +kernel, by decide +kernel, by decide +kernel⟩
theorem zy_X8_priority : zY yX8_priority cX8_priority 2 (some .int) 1 := ⟨zw_1010, zw_1, by decide +kernel, by decide +kernel, by decide +kernel⟩
theorem zy_X8_share : zY yX8_share cX8_share 3 (some .long) 2 := ⟨zw_1029, zw_1, by decide +kernel, by decide +kernel, by decide +kernel⟩
theorem zy_X8_measure : zY yX8_measure cX8_measure 7 (some .int) 3 := ⟨zw_1049, zw_1, by decide +kernel, by decide +kernel, by decide +kernel⟩
theorem zy_X8_propose : zY yX8_propose cX8_propose 4 (some .int) 3 := ⟨zw_1057, zw_1, by decide +kernel, by decide +kernel, by decide +kernel⟩
theorem zy_X8_approve : zY yX8_approve cX8_approve 4 (some .int) 1 := ⟨zw_1088, zw_1, by decide +kernel, by decide +kernel, by decide +kernel⟩
theorem zy_X8_certify : zY yX8_certify cX8_certify 6 (some .int) 1 := ⟨zw_1096, zw_1, by decide +kernel, by decide +kernel, by decide +kernel⟩
theorem zy_X8_nextStage : zY yX8_nextStage cX8_nextStage 3 (some .int) 1 := ⟨zw_1112, zw_1, by decide +kernel, by decide +kernel, by decide +kernel⟩
theorem zy_X8_pay : zY yX8_pay cX8_pay 4 (some .long) 2 := ⟨zw_1123, zw_1, by decide +kernel, by decide +kernel, by decide +kernel⟩
theorem zy_X8_deposit : zY yX8_deposit cX8_deposit 4 (some .long) 1 := ⟨zw_1133, zw_1, by decide +kernel, by decide +kernel, by decide +kernel⟩
theorem zy_X8_pass : zY yX8_pass cX8_pass 3 (some .int) 1 := ⟨zw_1146, zw_1, by decide +kernel, by decide +kernel, by decide +kernel⟩
theorem zy_X8_settle : zY yX8_settle cX8_settle 2 (some .long) 1 := ⟨zw_1154, zw_1, by decide +kernel, by decide +kernel, by decide +kernel⟩
theorem zy_X8_fileLien : zY yX8_fileLien cX8_fileLien 5 (some .int) 1 := ⟨zw_1161, zw_1, by decide +kernel, by decide +kernel, by decide +kernel⟩
theorem zy_X8_withdrawLien : zY yX8_withdrawLien cX8_withdrawLien 4 (some .long) 1 := ⟨zw_1176, zw_1, by decide +kernel, by decide +kernel, by decide +kernel⟩
theorem zy_X8_undo : zY yX8_undo cX8_undo 1 (some .int) 0 := ⟨zw_380, zw_1, by decide +kernel, by decide +kernel, by decide +kernel⟩
theorem zy_X8_checksum : zY yX8_checksum cX8_checksum 1 (some .long) 0 := ⟨zw_384, zw_1, by decide +kernel, by decide +kernel, by decide +kernel⟩
theorem zy_X8_project : zY yX8_project cX8_project 1 (some (.object "ConstructionLedger$Project")) 0 := ⟨zw_352, zw_1, by decide +kernel, by decide +kernel, by decide +kernel⟩
theorem zy_X8_beginChange : zY yX8_beginChange cX8_beginChange 2 (some (.object "ConstructionLedger$Project")) 0 := ⟨zw_665, zw_1, by decide +kernel, by decide +kernel, by decide +kernel⟩
theorem zy_X8_checkContract : zY yX8_checkContract cX8_checkContract 2 none 1 := ⟨zw_710, zw_1, by decide +kernel, by decide +kernel, by decide +kernel⟩
theorem zy_X8_checkItem : zY yX8_checkItem cX8_checkItem 3 none 2 := ⟨zw_747, zw_1, by decide +kernel, by decide +kernel, by decide +kernel⟩
theorem zy_X8_checkCertificate : zY yX8_checkCertificate cX8_checkCertificate 2 none 1 := ⟨zw_888, zw_1, by decide +kernel, by decide +kernel, by decide +kernel⟩
theorem zy_X8_checkVariation : zY yX8_checkVariation cX8_checkVariation 2 none 1 := ⟨zw_976, zw_1, by decide +kernel, by decide +kernel, by decide +kernel⟩
theorem zy_X8_checkLien : zY yX8_checkLien cX8_checkLien 2 none 1 := ⟨zw_1002, zw_1, by decide +kernel, by decide +kernel, by decide +kernel⟩
theorem zy_X8_checkProject : zY yX8_checkProject cX8_checkProject 1 none 0 := ⟨zw_1138, zw_1, by decide +kernel, by decide +kernel, by decide +kernel⟩
theorem zy_X8_checkIndex : zY yX8_checkIndex cX8_checkIndex 2 none 2 := ⟨zw_713, zw_1, by decide +kernel, by decide +kernel, by decide +kernel⟩
theorem zy_X8_checkRange : zY yX8_checkRange cX8_checkRange 3 none 3 := ⟨zw_452, zw_1, by decide +kernel, by decide +kernel, by decide +kernel⟩
theorem zy_X8_checkState : zY yX8_checkState cX8_checkState 1 none 1 := ⟨zw_1061, zw_1, by decide +kernel, by decide +kernel, by decide +kernel⟩
theorem zus_9 : ∀ q ∈ u_ws RX9 TX9 17, q ∈ zG := by
  have e : u_ws RX9 TX9 17 = [.lays "ConstructionLedgerModel" "ConstructionLedgerModel" "thrown" "I", .laysFinal "ConstructionLedgerModel" "ConstructionLedgerModel" "rows" "[J", .laysFinal "ConstructionLedgerModel" "ConstructionLedgerModel" "read" "[J", .laysFinal "ConstructionLedgerModel" "ConstructionLedgerModel" "aside" "[J", .lays "ConstructionLedgerModel" "ConstructionLedgerModel" "now" "I", .lays "ConstructionLedgerModel" "ConstructionLedgerModel" "undoable" "I", .laysFinal "ConstructionLedgerModel" "ConstructionLedgerModel" "text" "[I", .lays "ConstructionLedgerModel" "ConstructionLedgerModel" "bytes" "I", .lays "ConstructionLedgerModel" "ConstructionLedgerModel" "errorAt" "I", .lays "ConstructionLedgerModel" "ConstructionLedgerModel" "size" "I", .lays "ConstructionLedgerModel" "ConstructionLedgerModel" "next" "I", .lays "ConstructionLedgerModel" "ConstructionLedgerModel" "error" "I", .lays "ConstructionLedgerModel" "ConstructionLedgerModel" "place" "I", .lays "ConstructionLedgerModel" "ConstructionLedgerModel" "began" "I", .lays "ConstructionLedgerModel" "ConstructionLedgerModel" "nested" "I", .lays "ConstructionLedgerModel" "ConstructionLedgerModel" "once" "I", .laysFinal "ConstructionLedgerModel" "ConstructionLedgerModel" "pile" "[J"] := rfl
  rw [e]
  exact List.forall_mem_cons.mpr ⟨zw_1201, List.forall_mem_cons.mpr ⟨zw_1203, List.forall_mem_cons.mpr ⟨zw_1205, List.forall_mem_cons.mpr ⟨zw_1207, List.forall_mem_cons.mpr ⟨zw_1209, List.forall_mem_cons.mpr ⟨zw_1211, List.forall_mem_cons.mpr ⟨zw_1213, List.forall_mem_cons.mpr ⟨zw_1215, List.forall_mem_cons.mpr ⟨zw_1217, List.forall_mem_cons.mpr ⟨zw_1219, List.forall_mem_cons.mpr ⟨zw_1221, List.forall_mem_cons.mpr ⟨zw_1223, List.forall_mem_cons.mpr ⟨zw_1225, List.forall_mem_cons.mpr ⟨zw_1227, List.forall_mem_cons.mpr ⟨zw_1229, List.forall_mem_cons.mpr ⟨zw_1231, List.forall_mem_cons.mpr ⟨zw_1233, fun _ h => absurd h List.not_mem_nil⟩⟩⟩⟩⟩⟩⟩⟩⟩⟩⟩⟩⟩⟩⟩⟩⟩
theorem zci_9 : zci 9 RX9 TX9 17 tyX9 := ⟨rfl, zus_9, tyX9_ok, nmX9⟩
theorem zy_X9_init : zY yX9_init cX9_init 1 none 0 := ⟨zw_1181, zw_11, by decide +kernel, by decide +kernel, by decide +kernel⟩
theorem zy_X9_thrown : zY yX9_thrown cX9_thrown 1 (some .int) 0 := ⟨zw_1239, zw_11, by decide +kernel, by decide +kernel, by decide +kernel⟩
theorem zy_X9_isIn : zY yX9_isIn cX9_isIn 6 (some .boolean) 3 := ⟨zw_1250, zw_11, by decide +kernel, by decide +kernel, by decide +kernel⟩
theorem zy_X9_clamped : zY yX9_clamped cX9_clamped 6 (some .long) 3 := ⟨zw_1427, zw_11, by decide +kernel, by decide +kernel, by decide +kernel⟩
theorem zy_X9_get : zY yX9_get cX9_get 2 (some .long) 1 := ⟨zw_1352, zw_11, by decide +kernel, by decide +kernel, by decide +kernel⟩
theorem zy_X9_small : zY yX9_small cX9_small 2 (some .int) 1 := ⟨zw_1360, zw_11, by decide +kernel, by decide +kernel, by decide +kernel⟩
theorem zy_X9_put : zY yX9_put cX9_put 4 none 2 := ⟨zw_1356, zw_11, by decide +kernel, by decide +kernel, by decide +kernel⟩
theorem zy_X9_change : zY yX9_change cX9_change 3 none 0 := ⟨zw_1348, zw_11, by decide +kernel, by decide +kernel, by decide +kernel⟩
theorem zy_X9_right : zY yX9_right cX9_right 3 (some .boolean) 2 := ⟨zw_1254, zw_11, by decide +kernel, by decide +kernel, by decide +kernel⟩
theorem zy_X9_append : zY yX9_append cX9_append 8 (some .int) 5 := ⟨zw_1243, zw_11, by decide +kernel, by decide +kernel, by decide +kernel⟩
theorem zy_X9_fails : zY yX9_fails cX9_fails 3 none 2 := ⟨zw_1281, zw_11, by decide +kernel, by decide +kernel, by decide +kernel⟩
theorem zy_X9_sees : zY yX9_sees cX9_sees 1 (some .int) 0 := ⟨zw_1275, zw_11, by decide +kernel, by decide +kernel, by decide +kernel⟩
theorem zy_X9_isWord : zY yX9_isWord cX9_isWord 5 (some .boolean) 1 := ⟨zw_1271, zw_11, by decide +kernel, by decide +kernel, by decide +kernel⟩
theorem zy_X9_takes : zY yX9_takes cX9_takes 2 (some .boolean) 1 := ⟨zw_1267, zw_11, by decide +kernel, by decide +kernel, by decide +kernel⟩
theorem zy_X9_needs : zY yX9_needs cX9_needs 2 none 1 := ⟨zw_1263, zw_11, by decide +kernel, by decide +kernel, by decide +kernel⟩
theorem zy_X9_wants : zY yX9_wants cX9_wants 2 none 1 := ⟨zw_1296, zw_11, by decide +kernel, by decide +kernel, by decide +kernel⟩
theorem zy_X9_isDigit : zY yX9_isDigit cX9_isDigit 1 (some .boolean) 0 := ⟨zw_1290, zw_11, by decide +kernel, by decide +kernel, by decide +kernel⟩
theorem zy_X9_reads : zY yX9_reads cX9_reads 4 (some .int) 2 := ⟨zw_1286, zw_11, by decide +kernel, by decide +kernel, by decide +kernel⟩
theorem zy_X9_codes : zY yX9_codes cX9_codes 3 none 2 := ⟨zw_1340, zw_11, by decide +kernel, by decide +kernel, by decide +kernel⟩
theorem zy_X9_sum : zY yX9_sum cX9_sum 2 none 0 := ⟨zw_1328, zw_11, by decide +kernel, by decide +kernel, by decide +kernel⟩
theorem zy_X9_term : zY yX9_term cX9_term 2 none 0 := ⟨zw_1332, zw_11, by decide +kernel, by decide +kernel, by decide +kernel⟩
theorem zy_X9_factor : zY yX9_factor cX9_factor 1 none 0 := ⟨zw_1336, zw_11, by decide +kernel, by decide +kernel, by decide +kernel⟩
theorem zy_X9_first : zY yX9_first cX9_first 3 (some .boolean) 2 := ⟨zw_1323, zw_11, by decide +kernel, by decide +kernel, by decide +kernel⟩
theorem zy_X9_terms : zY yX9_terms cX9_terms 2 none 1 := ⟨zw_1302, zw_11, by decide +kernel, by decide +kernel, by decide +kernel⟩
theorem zy_X9_subLine : zY yX9_subLine cX9_subLine 4 none 1 := ⟨zw_1311, zw_11, by decide +kernel, by decide +kernel, by decide +kernel⟩
theorem zy_X9_itemLine : zY yX9_itemLine cX9_itemLine 3 none 0 := ⟨zw_1317, zw_11, by decide +kernel, by decide +kernel, by decide +kernel⟩
theorem zy_X9_statement : zY yX9_statement cX9_statement 2 none 0 := ⟨zw_1306, zw_11, by decide +kernel, by decide +kernel, by decide +kernel⟩
theorem zy_X9_texts : zY yX9_texts cX9_texts 2 none 0 := ⟨zw_1258, zw_11, by decide +kernel, by decide +kernel, by decide +kernel⟩
theorem zy_X9_load : zY yX9_load cX9_load 3 (some .int) 1 := ⟨zw_1247, zw_11, by decide +kernel, by decide +kernel, by decide +kernel⟩
theorem zy_X9_errorOffset : zY yX9_errorOffset cX9_errorOffset 1 (some .int) 0 := ⟨zw_1364, zw_11, by decide +kernel, by decide +kernel, by decide +kernel⟩
theorem zy_X9_rateOf : zY yX9_rateOf cX9_rateOf 16 (some .long) 3 := ⟨zw_1422, zw_11, by decide +kernel, by decide +kernel, by decide +kernel⟩
theorem zy_X9_at : zY yX9_at cX9_at 2 (some .int) 1 := ⟨zw_1384, zw_11, by decide +kernel, by decide +kernel, by decide +kernel⟩
theorem zy_X9_itemAt : zY yX9_itemAt cX9_itemAt 3 (some .int) 2 := ⟨zw_1404, zw_11, by decide +kernel, by decide +kernel, by decide +kernel⟩
theorem zy_X9_quantityOf : zY yX9_quantityOf cX9_quantityOf 7 (some .long) 2 := ⟨zw_1400, zw_11, by decide +kernel, by decide +kernel, by decide +kernel⟩
theorem zy_X9_boundOf : zY yX9_boundOf cX9_boundOf 5 (some .long) 2 := ⟨zw_1416, zw_11, by decide +kernel, by decide +kernel, by decide +kernel⟩
theorem zy_X9_rateBy : zY yX9_rateBy cX9_rateBy 5 (some .long) 3 := ⟨zw_1412, zw_11, by decide +kernel, by decide +kernel, by decide +kernel⟩
theorem zy_X9_fullBy : zY yX9_fullBy cX9_fullBy 7 (some .long) 3 := ⟨zw_1440, zw_11, by decide +kernel, by decide +kernel, by decide +kernel⟩
theorem zy_X9_valueOf : zY yX9_valueOf cX9_valueOf 3 (some .long) 2 := ⟨zw_1436, zw_11, by decide +kernel, by decide +kernel, by decide +kernel⟩
theorem zy_X9_isContract : zY yX9_isContract cX9_isContract 2 (some .boolean) 1 := ⟨zw_1380, zw_11, by decide +kernel, by decide +kernel, by decide +kernel⟩
theorem zy_X9_isItem : zY yX9_isItem cX9_isItem 3 (some .boolean) 2 := ⟨zw_1396, zw_11, by decide +kernel, by decide +kernel, by decide +kernel⟩
theorem zy_X9_day : zY yX9_day cX9_day 1 (some .int) 0 := ⟨zw_1368, zw_11, by decide +kernel, by decide +kernel, by decide +kernel⟩
theorem zy_X9_contractCount : zY yX9_contractCount cX9_contractCount 1 (some .int) 0 := ⟨zw_1372, zw_11, by decide +kernel, by decide +kernel, by decide +kernel⟩
theorem zy_X9_parent : zY yX9_parent cX9_parent 2 (some .int) 1 := ⟨zw_1376, zw_11, by decide +kernel, by decide +kernel, by decide +kernel⟩
theorem zy_X9_itemCount : zY yX9_itemCount cX9_itemCount 2 (some .int) 1 := ⟨zw_1388, zw_11, by decide +kernel, by decide +kernel, by decide +kernel⟩
theorem zy_X9_quantity : zY yX9_quantity cX9_quantity 3 (some .int) 2 := ⟨zw_1392, zw_11, by decide +kernel, by decide +kernel, by decide +kernel⟩
theorem zy_X9_specialRate : zY yX9_specialRate cX9_specialRate 3 (some .int) 2 := ⟨zw_1408, zw_11, by decide +kernel, by decide +kernel, by decide +kernel⟩
theorem zy_X9_itemValue : zY yX9_itemValue cX9_itemValue 3 (some .long) 2 := ⟨zw_1432, zw_11, by decide +kernel, by decide +kernel, by decide +kernel⟩
theorem zy_X9_firstOf : zY yX9_firstOf cX9_firstOf 5 (some .long) 1 := ⟨zw_1448, zw_11, by decide +kernel, by decide +kernel, by decide +kernel⟩
theorem zy_X9_presentOf : zY yX9_presentOf cX9_presentOf 5 (some .long) 1 := ⟨zw_1456, zw_11, by decide +kernel, by decide +kernel, by decide +kernel⟩
theorem zy_X9_grossOf : zY yX9_grossOf cX9_grossOf 5 (some .long) 1 := ⟨zw_1464, zw_11, by decide +kernel, by decide +kernel, by decide +kernel⟩
theorem zy_X9_heldOf : zY yX9_heldOf cX9_heldOf 4 (some .long) 1 := ⟨zw_1472, zw_11, by decide +kernel, by decide +kernel, by decide +kernel⟩
theorem zy_X9_firstSum : zY yX9_firstSum cX9_firstSum 2 (some .long) 1 := ⟨zw_1444, zw_11, by decide +kernel, by decide +kernel, by decide +kernel⟩
theorem zy_X9_presentSum : zY yX9_presentSum cX9_presentSum 2 (some .long) 1 := ⟨zw_1452, zw_11, by decide +kernel, by decide +kernel, by decide +kernel⟩
theorem zy_X9_grossValue : zY yX9_grossValue cX9_grossValue 2 (some .long) 1 := ⟨zw_1460, zw_11, by decide +kernel, by decide +kernel, by decide +kernel⟩
theorem zy_X9_retention : zY yX9_retention cX9_retention 2 (some .long) 1 := ⟨zw_1468, zw_11, by decide +kernel, by decide +kernel, by decide +kernel⟩
theorem zy_X9_stage : zY yX9_stage cX9_stage 2 (some .int) 1 := ⟨zw_1477, zw_11, by decide +kernel, by decide +kernel, by decide +kernel⟩
theorem zy_X9_margin : zY yX9_margin cX9_margin 5 (some .long) 1 := ⟨zw_1481, zw_11, by decide +kernel, by decide +kernel, by decide +kernel⟩
theorem zy_X9_account : zY yX9_account cX9_account 2 (some .long) 1 := ⟨zw_1485, zw_11, by decide +kernel, by decide +kernel, by decide +kernel⟩
theorem zy_X9_bill : zY yX9_bill cX9_bill 1 (some .int) 1 := ⟨zw_1496, zw_11, by decide +kernel, by decide +kernel, by decide +kernel⟩
theorem zy_X9_openOf : zY yX9_openOf cX9_openOf 2 (some .long) 1 := ⟨zw_1512, zw_11, by decide +kernel, by decide +kernel, by decide +kernel⟩
theorem zy_X9_certifiedOf : zY yX9_certifiedOf cX9_certifiedOf 5 (some .long) 1 := ⟨zw_1493, zw_11, by decide +kernel, by decide +kernel, by decide +kernel⟩
theorem zy_X9_openBefore : zY yX9_openBefore cX9_openBefore 7 (some .long) 2 := ⟨zw_1508, zw_11, by decide +kernel, by decide +kernel, by decide +kernel⟩
theorem zy_X9_unpaidOf : zY yX9_unpaidOf cX9_unpaidOf 2 (some .long) 1 := ⟨zw_1504, zw_11, by decide +kernel, by decide +kernel, by decide +kernel⟩
theorem zy_X9_certified : zY yX9_certified cX9_certified 2 (some .long) 1 := ⟨zw_1489, zw_11, by decide +kernel, by decide +kernel, by decide +kernel⟩
theorem zy_X9_unpaid : zY yX9_unpaid cX9_unpaid 2 (some .long) 1 := ⟨zw_1500, zw_11, by decide +kernel, by decide +kernel, by decide +kernel⟩
theorem zy_X9_overdue : zY yX9_overdue cX9_overdue 2 (some .long) 1 := ⟨zw_1516, zw_11, by decide +kernel, by decide +kernel, by decide +kernel⟩
theorem zy_X9_certificateCount : zY yX9_certificateCount cX9_certificateCount 1 (some .int) 0 := ⟨zw_1520, zw_11, by decide +kernel, by decide +kernel, by decide +kernel⟩
theorem zy_X9_isBill : zY yX9_isBill cX9_isBill 2 (some .boolean) 1 := ⟨zw_1528, zw_11, by decide +kernel, by decide +kernel, by decide +kernel⟩
theorem zy_X9_certificateContract : zY yX9_certificateContract cX9_certificateContract 2 (some .int) 1 := ⟨zw_1524, zw_11, by decide +kernel, by decide +kernel, by decide +kernel⟩
theorem zy_X9_amount : zY yX9_amount cX9_amount 2 (some .long) 1 := ⟨zw_1532, zw_11, by decide +kernel, by decide +kernel, by decide +kernel⟩
theorem zy_X9_openAmount : zY yX9_openAmount cX9_openAmount 2 (some .long) 1 := ⟨zw_1536, zw_11, by decide +kernel, by decide +kernel, by decide +kernel⟩
theorem zy_X9_dueDay : zY yX9_dueDay cX9_dueDay 2 (some .int) 1 := ⟨zw_1540, zw_11, by decide +kernel, by decide +kernel, by decide +kernel⟩
theorem zy_X9_isHeld : zY yX9_isHeld cX9_isHeld 4 (some .boolean) 1 := ⟨zw_1548, zw_11, by decide +kernel, by decide +kernel, by decide +kernel⟩
theorem zy_X9_isBlocked : zY yX9_isBlocked cX9_isBlocked 2 (some .boolean) 1 := ⟨zw_1544, zw_11, by decide +kernel, by decide +kernel, by decide +kernel⟩
theorem zy_X9_dueBetween : zY yX9_dueBetween cX9_dueBetween 6 (some .long) 2 := ⟨zw_1552, zw_11, by decide +kernel, by decide +kernel, by decide +kernel⟩
theorem zy_X9_payerOf : zY yX9_payerOf cX9_payerOf 2 (some .int) 1 := ⟨zw_1569, zw_11, by decide +kernel, by decide +kernel, by decide +kernel⟩
theorem zy_X9_pays : zY yX9_pays cX9_pays 6 none 2 := ⟨zw_1573, zw_11, by decide +kernel, by decide +kernel, by decide +kernel⟩
theorem zy_X9_dueNext : zY yX9_dueNext cX9_dueNext 10 (some .int) 3 := ⟨zw_1565, zw_11, by decide +kernel, by decide +kernel, by decide +kernel⟩
theorem zy_X9_settles : zY yX9_settles cX9_settles 8 (some .long) 0 := ⟨zw_1561, zw_11, by decide +kernel, by decide +kernel, by decide +kernel⟩
theorem zy_X9_settleDays : zY yX9_settleDays cX9_settleDays 6 (some .int) 2 := ⟨zw_1556, zw_11, by decide +kernel, by decide +kernel, by decide +kernel⟩
theorem zy_X9_variationCount : zY yX9_variationCount cX9_variationCount 1 (some .int) 0 := ⟨zw_1577, zw_11, by decide +kernel, by decide +kernel, by decide +kernel⟩
theorem zy_X9_isVariation : zY yX9_isVariation cX9_isVariation 2 (some .boolean) 1 := ⟨zw_1585, zw_11, by decide +kernel, by decide +kernel, by decide +kernel⟩
theorem zy_X9_isApproved : zY yX9_isApproved cX9_isApproved 2 (some .boolean) 1 := ⟨zw_1581, zw_11, by decide +kernel, by decide +kernel, by decide +kernel⟩
theorem zy_X9_quantityBy : zY yX9_quantityBy cX9_quantityBy 3 (some .long) 1 := ⟨zw_1593, zw_11, by decide +kernel, by decide +kernel, by decide +kernel⟩
theorem zy_X9_variationWorth : zY yX9_variationWorth cX9_variationWorth 3 (some .long) 1 := ⟨zw_1589, zw_11, by decide +kernel, by decide +kernel, by decide +kernel⟩
theorem zy_X9_lien : zY yX9_lien cX9_lien 1 (some .int) 1 := ⟨zw_1612, zw_11, by decide +kernel, by decide +kernel, by decide +kernel⟩
theorem zy_X9_lienCount : zY yX9_lienCount cX9_lienCount 1 (some .int) 0 := ⟨zw_1597, zw_11, by decide +kernel, by decide +kernel, by decide +kernel⟩
theorem zy_X9_isLien : zY yX9_isLien cX9_isLien 2 (some .boolean) 1 := ⟨zw_1605, zw_11, by decide +kernel, by decide +kernel, by decide +kernel⟩
theorem zy_X9_claimOf : zY yX9_claimOf cX9_claimOf 2 (some .long) 1 := ⟨zw_1609, zw_11, by decide +kernel, by decide +kernel, by decide +kernel⟩
theorem zy_X9_claim : zY yX9_claim cX9_claim 2 (some .long) 1 := ⟨zw_1601, zw_11, by decide +kernel, by decide +kernel, by decide +kernel⟩
theorem zy_X9_rankOf : zY yX9_rankOf cX9_rankOf 2 (some .long) 1 := ⟨zw_1628, zw_11, by decide +kernel, by decide +kernel, by decide +kernel⟩
theorem zy_X9_isAhead : zY yX9_isAhead cX9_isAhead 3 (some .boolean) 2 := ⟨zw_1624, zw_11, by decide +kernel, by decide +kernel, by decide +kernel⟩
theorem zy_X9_placeOf : zY yX9_placeOf cX9_placeOf 4 (some .int) 1 := ⟨zw_1620, zw_11, by decide +kernel, by decide +kernel, by decide +kernel⟩
theorem zy_X9_priority : zY yX9_priority cX9_priority 4 (some .int) 1 := ⟨zw_1616, zw_11, by decide +kernel, by decide +kernel, by decide +kernel⟩
theorem zy_X9_claimsOf : zY yX9_claimsOf cX9_claimsOf 6 (some .long) 1 := ⟨zw_1637, zw_11, by decide +kernel, by decide +kernel, by decide +kernel⟩
theorem zy_X9_aheadWith : zY yX9_aheadWith cX9_aheadWith 9 (some .long) 3 := ⟨zw_1645, zw_11, by decide +kernel, by decide +kernel, by decide +kernel⟩
theorem zy_X9_partsOf : zY yX9_partsOf cX9_partsOf 10 (some .long) 3 := ⟨zw_1641, zw_11, by decide +kernel, by decide +kernel, by decide +kernel⟩
theorem zy_X9_share : zY yX9_share cX9_share 11 (some .long) 2 := ⟨zw_1632, zw_11, by decide +kernel, by decide +kernel, by decide +kernel⟩
theorem zy_X9_measure : zY yX9_measure cX9_measure 5 (some .int) 3 := ⟨zw_1649, zw_11, by decide +kernel, by decide +kernel, by decide +kernel⟩
theorem zy_X9_propose : zY yX9_propose cX9_propose 5 (some .int) 3 := ⟨zw_1653, zw_11, by decide +kernel, by decide +kernel, by decide +kernel⟩
theorem zy_X9_approve : zY yX9_approve cX9_approve 3 (some .int) 1 := ⟨zw_1660, zw_11, by decide +kernel, by decide +kernel, by decide +kernel⟩
theorem zy_X9_certify : zY yX9_certify cX9_certify 5 (some .int) 1 := ⟨zw_1664, zw_11, by decide +kernel, by decide +kernel, by decide +kernel⟩
theorem zy_X9_isDone : zY yX9_isDone cX9_isDone 3 (some .boolean) 1 := ⟨zw_1673, zw_11, by decide +kernel, by decide +kernel, by decide +kernel⟩
theorem zy_X9_nextStage : zY yX9_nextStage cX9_nextStage 4 (some .int) 1 := ⟨zw_1669, zw_11, by decide +kernel, by decide +kernel, by decide +kernel⟩
theorem zy_X9_pay : zY yX9_pay cX9_pay 3 (some .long) 2 := ⟨zw_1677, zw_11, by decide +kernel, by decide +kernel, by decide +kernel⟩
theorem zy_X9_deposit : zY yX9_deposit cX9_deposit 2 (some .long) 1 := ⟨zw_1681, zw_11, by decide +kernel, by decide +kernel, by decide +kernel⟩
theorem zy_X9_pass : zY yX9_pass cX9_pass 2 (some .int) 1 := ⟨zw_1687, zw_11, by decide +kernel, by decide +kernel, by decide +kernel⟩
theorem zy_X9_settle : zY yX9_settle cX9_settle 5 (some .long) 1 := ⟨zw_1693, zw_11, by decide +kernel, by decide +kernel, by decide +kernel⟩
theorem zy_X9_hasClaim : zY yX9_hasClaim cX9_hasClaim 3 (some .boolean) 1 := ⟨zw_1701, zw_11, by decide +kernel, by decide +kernel, by decide +kernel⟩
theorem zy_X9_fileLien : zY yX9_fileLien cX9_fileLien 5 (some .int) 1 := ⟨zw_1697, zw_11, by decide +kernel, by decide +kernel, by decide +kernel⟩
theorem zy_X9_withdrawLien : zY yX9_withdrawLien cX9_withdrawLien 4 (some .long) 1 := ⟨zw_1706, zw_11, by decide +kernel, by decide +kernel, by decide +kernel⟩
theorem zy_X9_undo : zY yX9_undo cX9_undo 1 (some .int) 0 := ⟨zw_1710, zw_11, by decide +kernel, by decide +kernel, by decide +kernel⟩
theorem zy_X9_checksum : zY yX9_checksum cX9_checksum 4 (some .long) 0 := ⟨zw_1714, zw_11, by decide +kernel, by decide +kernel, by decide +kernel⟩
theorem zk_bipush_m7 : (Int8.ofInt (-7)).toInt32 = (-7 : Int32) := by decide
theorem zk_bipush_m6 : (Int8.ofInt (-6)).toInt32 = (-6 : Int32) := by decide
theorem zk_bipush_m5 : (Int8.ofInt (-5)).toInt32 = (-5 : Int32) := by decide
theorem zk_bipush_m4 : (Int8.ofInt (-4)).toInt32 = (-4 : Int32) := by decide
theorem zk_bipush_m3 : (Int8.ofInt (-3)).toInt32 = (-3 : Int32) := by decide
theorem zk_bipush_m2 : (Int8.ofInt (-2)).toInt32 = (-2 : Int32) := by decide
theorem zk_bipush_6 : (Int8.ofInt (6)).toInt32 = (6 : Int32) := by decide
theorem zk_bipush_7 : (Int8.ofInt (7)).toInt32 = (7 : Int32) := by decide
theorem zk_bipush_8 : (Int8.ofInt (8)).toInt32 = (8 : Int32) := by decide
theorem zk_bipush_9 : (Int8.ofInt (9)).toInt32 = (9 : Int32) := by decide
theorem zk_bipush_10 : (Int8.ofInt (10)).toInt32 = (10 : Int32) := by decide
theorem zk_bipush_12 : (Int8.ofInt (12)).toInt32 = (12 : Int32) := by decide
theorem zk_bipush_16 : (Int8.ofInt (16)).toInt32 = (16 : Int32) := by decide
theorem zk_bipush_20 : (Int8.ofInt (20)).toInt32 = (20 : Int32) := by decide
theorem zk_bipush_24 : (Int8.ofInt (24)).toInt32 = (24 : Int32) := by decide
theorem zk_bipush_25 : (Int8.ofInt (25)).toInt32 = (25 : Int32) := by decide
theorem zk_bipush_26 : (Int8.ofInt (26)).toInt32 = (26 : Int32) := by decide
theorem zk_bipush_32 : (Int8.ofInt (32)).toInt32 = (32 : Int32) := by decide
theorem zk_bipush_40 : (Int8.ofInt (40)).toInt32 = (40 : Int32) := by decide
theorem zk_bipush_41 : (Int8.ofInt (41)).toInt32 = (41 : Int32) := by decide
theorem zk_bipush_42 : (Int8.ofInt (42)).toInt32 = (42 : Int32) := by decide
theorem zk_bipush_43 : (Int8.ofInt (43)).toInt32 = (43 : Int32) := by decide
theorem zk_bipush_45 : (Int8.ofInt (45)).toInt32 = (45 : Int32) := by decide
theorem zk_bipush_47 : (Int8.ofInt (47)).toInt32 = (47 : Int32) := by decide
theorem zk_bipush_48 : (Int8.ofInt (48)).toInt32 = (48 : Int32) := by decide
theorem zk_bipush_57 : (Int8.ofInt (57)).toInt32 = (57 : Int32) := by decide
theorem zk_bipush_59 : (Int8.ofInt (59)).toInt32 = (59 : Int32) := by decide
theorem zk_bipush_60 : (Int8.ofInt (60)).toInt32 = (60 : Int32) := by decide
theorem zk_bipush_97 : (Int8.ofInt (97)).toInt32 = (97 : Int32) := by decide
theorem zk_bipush_100 : (Int8.ofInt (100)).toInt32 = (100 : Int32) := by decide
theorem zk_bipush_122 : (Int8.ofInt (122)).toInt32 = (122 : Int32) := by decide
theorem zk_iconst_m8 : Int32.ofInt (-8) = (-8 : Int32) := by decide
theorem zk_iconst_m1 : Int32.ofInt (-1) = (-1 : Int32) := by decide
theorem zk_iconst_0 : Int32.ofInt (0) = (0 : Int32) := by decide
theorem zk_iconst_1 : Int32.ofInt (1) = (1 : Int32) := by decide
theorem zk_iconst_2 : Int32.ofInt (2) = (2 : Int32) := by decide
theorem zk_iconst_3 : Int32.ofInt (3) = (3 : Int32) := by decide
theorem zk_iconst_4 : Int32.ofInt (4) = (4 : Int32) := by decide
theorem zk_iconst_5 : Int32.ofInt (5) = (5 : Int32) := by decide
theorem zk_sipush_m999 : (Int16.ofInt (-999)).toInt32 = (-999 : Int32) := by decide
theorem zk_sipush_128 : (Int16.ofInt (128)).toInt32 = (128 : Int32) := by decide
theorem zk_sipush_200 : (Int16.ofInt (200)).toInt32 = (200 : Int32) := by decide
theorem zk_sipush_230 : (Int16.ofInt (230)).toInt32 = (230 : Int32) := by decide
theorem zk_sipush_255 : (Int16.ofInt (255)).toInt32 = (255 : Int32) := by decide
theorem zk_sipush_320 : (Int16.ofInt (320)).toInt32 = (320 : Int32) := by decide
theorem zk_sipush_365 : (Int16.ofInt (365)).toInt32 = (365 : Int32) := by decide
theorem zk_sipush_530 : (Int16.ofInt (530)).toInt32 = (530 : Int32) := by decide
theorem zk_sipush_600 : (Int16.ofInt (600)).toInt32 = (600 : Int32) := by decide
theorem zk_sipush_900 : (Int16.ofInt (900)).toInt32 = (900 : Int32) := by decide
theorem zk_sipush_999 : (Int16.ofInt (999)).toInt32 = (999 : Int32) := by decide
theorem zk_sipush_2500 : (Int16.ofInt (2500)).toInt32 = (2500 : Int32) := by decide
theorem zk_sipush_9999 : (Int16.ofInt (9999)).toInt32 = (9999 : Int32) := by decide
theorem zk_sipush_22500 : (Int16.ofInt (22500)).toInt32 = (22500 : Int32) := by decide
theorem zk_len_9 : Int32.ofNat 9 = (9 : Int32) := by decide
theorem zk_len_16 : Int32.ofNat 16 = (16 : Int32) := by decide
theorem zk_len_40 : Int32.ofNat 40 = (40 : Int32) := by decide
theorem zk_len_900 : Int32.ofNat 900 = (900 : Int32) := by decide
