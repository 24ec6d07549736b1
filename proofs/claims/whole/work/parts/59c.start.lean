/-! the start -/
def lw_leaf : List Cond := flatC (Jvm.Cond.and given_1 narrow_1)
def stP (q : String × Nat × String × List Int32) : Prop := .exactly (.string q.1 q.2.1) "java/lang/String" ∈ lw_leaf ∧ .eq (.field (.string q.1 q.2.1) "java/lang/String" "coder" "B") (.int 0) ∈ lw_leaf ∧ .arrayOf (.field (.string q.1 q.2.1) "java/lang/String" "value" "[B") .byte ∈ lw_leaf ∧ .eq (.length (.field (.string q.1 q.2.1) "java/lang/String" "value" "[B")) (.int (Int32.ofNat q.2.2.2.length)) ∈ lw_leaf ∧ ∀ j, j < q.2.2.2.length → .eq (.elem (.field (.string q.1 q.2.1) "java/lang/String" "value" "[B") (.int (Int32.ofNat j))) (.int (q.2.2.2.getD j 0)) ∈ lw_leaf
theorem st_l0 : stP ("ConstructionLedger", 299, "out of range", [111, 117, 116, 32, 111, 102, 32, 114, 97, 110, 103, 101]) := ⟨List.mem_of_getElem? (i := 47) (by decide +kernel), List.mem_of_getElem? (i := 48) (by decide +kernel), List.mem_of_getElem? (i := 49) (by decide +kernel), List.mem_of_getElem? (i := 50) (by decide +kernel), fun j hj => match j, hj with
  | 0, _ => List.mem_of_getElem? (i := 51) (by decide +kernel)
  | 1, _ => List.mem_of_getElem? (i := 52) (by decide +kernel)
  | 2, _ => List.mem_of_getElem? (i := 53) (by decide +kernel)
  | 3, _ => List.mem_of_getElem? (i := 54) (by decide +kernel)
  | 4, _ => List.mem_of_getElem? (i := 55) (by decide +kernel)
  | 5, _ => List.mem_of_getElem? (i := 56) (by decide +kernel)
  | 6, _ => List.mem_of_getElem? (i := 57) (by decide +kernel)
  | 7, _ => List.mem_of_getElem? (i := 58) (by decide +kernel)
  | 8, _ => List.mem_of_getElem? (i := 59) (by decide +kernel)
  | 9, _ => List.mem_of_getElem? (i := 60) (by decide +kernel)
  | 10, _ => List.mem_of_getElem? (i := 61) (by decide +kernel)
  | 11, _ => List.mem_of_getElem? (i := 62) (by decide +kernel)
  | n + 12, h => absurd (show n + 12 < 12 from h) (by omega)⟩
theorem st_l1 : stP ("ConstructionLedger$SetupReader", 76, "project", [112, 114, 111, 106, 101, 99, 116]) := ⟨List.mem_of_getElem? (i := 63) (by decide +kernel), List.mem_of_getElem? (i := 64) (by decide +kernel), List.mem_of_getElem? (i := 65) (by decide +kernel), List.mem_of_getElem? (i := 66) (by decide +kernel), fun j hj => match j, hj with
  | 0, _ => List.mem_of_getElem? (i := 67) (by decide +kernel)
  | 1, _ => List.mem_of_getElem? (i := 68) (by decide +kernel)
  | 2, _ => List.mem_of_getElem? (i := 69) (by decide +kernel)
  | 3, _ => List.mem_of_getElem? (i := 70) (by decide +kernel)
  | 4, _ => List.mem_of_getElem? (i := 71) (by decide +kernel)
  | 5, _ => List.mem_of_getElem? (i := 72) (by decide +kernel)
  | 6, _ => List.mem_of_getElem? (i := 73) (by decide +kernel)
  | n + 7, h => absurd (show n + 7 < 7 from h) (by omega)⟩
theorem st_l2 : stP ("ConstructionLedger$SetupReader", 86, "main", [109, 97, 105, 110]) := ⟨List.mem_of_getElem? (i := 75) (by decide +kernel), List.mem_of_getElem? (i := 76) (by decide +kernel), List.mem_of_getElem? (i := 77) (by decide +kernel), List.mem_of_getElem? (i := 78) (by decide +kernel), fun j hj => match j, hj with
  | 0, _ => List.mem_of_getElem? (i := 79) (by decide +kernel)
  | 1, _ => List.mem_of_getElem? (i := 80) (by decide +kernel)
  | 2, _ => List.mem_of_getElem? (i := 81) (by decide +kernel)
  | 3, _ => List.mem_of_getElem? (i := 82) (by decide +kernel)
  | n + 4, h => absurd (show n + 4 < 4 from h) (by omega)⟩
theorem st_l3 : stP ("ConstructionLedger$SetupReader", 102, "sub", [115, 117, 98]) := ⟨List.mem_of_getElem? (i := 85) (by decide +kernel), List.mem_of_getElem? (i := 86) (by decide +kernel), List.mem_of_getElem? (i := 87) (by decide +kernel), List.mem_of_getElem? (i := 88) (by decide +kernel), fun j hj => match j, hj with
  | 0, _ => List.mem_of_getElem? (i := 89) (by decide +kernel)
  | 1, _ => List.mem_of_getElem? (i := 90) (by decide +kernel)
  | 2, _ => List.mem_of_getElem? (i := 91) (by decide +kernel)
  | n + 3, h => absurd (show n + 3 < 3 from h) (by omega)⟩
theorem st_l4 : stP ("ConstructionLedger$SetupReader", 138, "linked", [108, 105, 110, 107, 101, 100]) := ⟨List.mem_of_getElem? (i := 95) (by decide +kernel), List.mem_of_getElem? (i := 96) (by decide +kernel), List.mem_of_getElem? (i := 97) (by decide +kernel), List.mem_of_getElem? (i := 98) (by decide +kernel), fun j hj => match j, hj with
  | 0, _ => List.mem_of_getElem? (i := 99) (by decide +kernel)
  | 1, _ => List.mem_of_getElem? (i := 100) (by decide +kernel)
  | 2, _ => List.mem_of_getElem? (i := 101) (by decide +kernel)
  | 3, _ => List.mem_of_getElem? (i := 102) (by decide +kernel)
  | 4, _ => List.mem_of_getElem? (i := 103) (by decide +kernel)
  | 5, _ => List.mem_of_getElem? (i := 104) (by decide +kernel)
  | n + 6, h => absurd (show n + 6 < 6 from h) (by omega)⟩
theorem st_l5 : stP ("ConstructionLedger$SetupReader", 111, "item", [105, 116, 101, 109]) := ⟨List.mem_of_getElem? (i := 109) (by decide +kernel), List.mem_of_getElem? (i := 110) (by decide +kernel), List.mem_of_getElem? (i := 111) (by decide +kernel), List.mem_of_getElem? (i := 112) (by decide +kernel), fun j hj => match j, hj with
  | 0, _ => List.mem_of_getElem? (i := 113) (by decide +kernel)
  | 1, _ => List.mem_of_getElem? (i := 114) (by decide +kernel)
  | 2, _ => List.mem_of_getElem? (i := 115) (by decide +kernel)
  | 3, _ => List.mem_of_getElem? (i := 116) (by decide +kernel)
  | n + 4, h => absurd (show n + 4 < 4 from h) (by omega)⟩
theorem st_l6 : stP ("ConstructionLedger$SetupReader", 116, "threshold", [116, 104, 114, 101, 115, 104, 111, 108, 100]) := ⟨List.mem_of_getElem? (i := 122) (by decide +kernel), List.mem_of_getElem? (i := 123) (by decide +kernel), List.mem_of_getElem? (i := 124) (by decide +kernel), List.mem_of_getElem? (i := 125) (by decide +kernel), fun j hj => match j, hj with
  | 0, _ => List.mem_of_getElem? (i := 126) (by decide +kernel)
  | 1, _ => List.mem_of_getElem? (i := 127) (by decide +kernel)
  | 2, _ => List.mem_of_getElem? (i := 128) (by decide +kernel)
  | 3, _ => List.mem_of_getElem? (i := 129) (by decide +kernel)
  | 4, _ => List.mem_of_getElem? (i := 130) (by decide +kernel)
  | 5, _ => List.mem_of_getElem? (i := 131) (by decide +kernel)
  | 6, _ => List.mem_of_getElem? (i := 132) (by decide +kernel)
  | 7, _ => List.mem_of_getElem? (i := 133) (by decide +kernel)
  | 8, _ => List.mem_of_getElem? (i := 134) (by decide +kernel)
  | n + 9, h => absurd (show n + 9 < 9 from h) (by omega)⟩
theorem st_l7 : stP ("ConstructionLedger$SetupReader", 126, "rate", [114, 97, 116, 101]) := ⟨List.mem_of_getElem? (i := 141) (by decide +kernel), List.mem_of_getElem? (i := 142) (by decide +kernel), List.mem_of_getElem? (i := 143) (by decide +kernel), List.mem_of_getElem? (i := 144) (by decide +kernel), fun j hj => match j, hj with
  | 0, _ => List.mem_of_getElem? (i := 145) (by decide +kernel)
  | 1, _ => List.mem_of_getElem? (i := 146) (by decide +kernel)
  | 2, _ => List.mem_of_getElem? (i := 147) (by decide +kernel)
  | 3, _ => List.mem_of_getElem? (i := 148) (by decide +kernel)
  | n + 4, h => absurd (show n + 4 < 4 from h) (by omega)⟩
theorem st_l8 : stP ("ConstructionLedger$SetupReader", 160, "price", [112, 114, 105, 99, 101]) := ⟨List.mem_of_getElem? (i := 156) (by decide +kernel), List.mem_of_getElem? (i := 157) (by decide +kernel), List.mem_of_getElem? (i := 158) (by decide +kernel), List.mem_of_getElem? (i := 159) (by decide +kernel), fun j hj => match j, hj with
  | 0, _ => List.mem_of_getElem? (i := 160) (by decide +kernel)
  | 1, _ => List.mem_of_getElem? (i := 161) (by decide +kernel)
  | 2, _ => List.mem_of_getElem? (i := 162) (by decide +kernel)
  | 3, _ => List.mem_of_getElem? (i := 163) (by decide +kernel)
  | 4, _ => List.mem_of_getElem? (i := 164) (by decide +kernel)
  | n + 5, h => absurd (show n + 5 < 5 from h) (by omega)⟩
theorem st_l9 : stP ("ConstructionLedger$SetupReader", 165, "first", [102, 105, 114, 115, 116]) := ⟨List.mem_of_getElem? (i := 173) (by decide +kernel), List.mem_of_getElem? (i := 174) (by decide +kernel), List.mem_of_getElem? (i := 175) (by decide +kernel), List.mem_of_getElem? (i := 176) (by decide +kernel), fun j hj => match j, hj with
  | 0, _ => List.mem_of_getElem? (i := 177) (by decide +kernel)
  | 1, _ => List.mem_of_getElem? (i := 178) (by decide +kernel)
  | 2, _ => List.mem_of_getElem? (i := 179) (by decide +kernel)
  | 3, _ => List.mem_of_getElem? (i := 180) (by decide +kernel)
  | 4, _ => List.mem_of_getElem? (i := 181) (by decide +kernel)
  | n + 5, h => absurd (show n + 5 < 5 from h) (by omega)⟩
theorem st_l10 : stP ("ConstructionLedger$SetupReader", 167, "excess", [101, 120, 99, 101, 115, 115]) := ⟨List.mem_of_getElem? (i := 191) (by decide +kernel), List.mem_of_getElem? (i := 192) (by decide +kernel), List.mem_of_getElem? (i := 193) (by decide +kernel), List.mem_of_getElem? (i := 194) (by decide +kernel), fun j hj => match j, hj with
  | 0, _ => List.mem_of_getElem? (i := 195) (by decide +kernel)
  | 1, _ => List.mem_of_getElem? (i := 196) (by decide +kernel)
  | 2, _ => List.mem_of_getElem? (i := 197) (by decide +kernel)
  | 3, _ => List.mem_of_getElem? (i := 198) (by decide +kernel)
  | 4, _ => List.mem_of_getElem? (i := 199) (by decide +kernel)
  | 5, _ => List.mem_of_getElem? (i := 200) (by decide +kernel)
  | n + 6, h => absurd (show n + 6 < 6 from h) (by omega)⟩
theorem st_l11 : stP ("ConstructionLedger", 296, "no such index", [110, 111, 32, 115, 117, 99, 104, 32, 105, 110, 100, 101, 120]) := ⟨List.mem_of_getElem? (i := 211) (by decide +kernel), List.mem_of_getElem? (i := 212) (by decide +kernel), List.mem_of_getElem? (i := 213) (by decide +kernel), List.mem_of_getElem? (i := 214) (by decide +kernel), fun j hj => match j, hj with
  | 0, _ => List.mem_of_getElem? (i := 215) (by decide +kernel)
  | 1, _ => List.mem_of_getElem? (i := 216) (by decide +kernel)
  | 2, _ => List.mem_of_getElem? (i := 217) (by decide +kernel)
  | 3, _ => List.mem_of_getElem? (i := 218) (by decide +kernel)
  | 4, _ => List.mem_of_getElem? (i := 219) (by decide +kernel)
  | 5, _ => List.mem_of_getElem? (i := 220) (by decide +kernel)
  | 6, _ => List.mem_of_getElem? (i := 221) (by decide +kernel)
  | 7, _ => List.mem_of_getElem? (i := 222) (by decide +kernel)
  | 8, _ => List.mem_of_getElem? (i := 223) (by decide +kernel)
  | 9, _ => List.mem_of_getElem? (i := 224) (by decide +kernel)
  | 10, _ => List.mem_of_getElem? (i := 225) (by decide +kernel)
  | 11, _ => List.mem_of_getElem? (i := 226) (by decide +kernel)
  | 12, _ => List.mem_of_getElem? (i := 227) (by decide +kernel)
  | n + 13, h => absurd (show n + 13 < 13 from h) (by omega)⟩
theorem st_l12 : stP ("ConstructionLedger", 230, "a change is not 0", [97, 32, 99, 104, 97, 110, 103, 101, 32, 105, 115, 32, 110, 111, 116, 32, 48]) := ⟨List.mem_of_getElem? (i := 239) (by decide +kernel), List.mem_of_getElem? (i := 240) (by decide +kernel), List.mem_of_getElem? (i := 241) (by decide +kernel), List.mem_of_getElem? (i := 242) (by decide +kernel), fun j hj => match j, hj with
  | 0, _ => List.mem_of_getElem? (i := 243) (by decide +kernel)
  | 1, _ => List.mem_of_getElem? (i := 244) (by decide +kernel)
  | 2, _ => List.mem_of_getElem? (i := 245) (by decide +kernel)
  | 3, _ => List.mem_of_getElem? (i := 246) (by decide +kernel)
  | 4, _ => List.mem_of_getElem? (i := 247) (by decide +kernel)
  | 5, _ => List.mem_of_getElem? (i := 248) (by decide +kernel)
  | 6, _ => List.mem_of_getElem? (i := 249) (by decide +kernel)
  | 7, _ => List.mem_of_getElem? (i := 250) (by decide +kernel)
  | 8, _ => List.mem_of_getElem? (i := 251) (by decide +kernel)
  | 9, _ => List.mem_of_getElem? (i := 252) (by decide +kernel)
  | 10, _ => List.mem_of_getElem? (i := 253) (by decide +kernel)
  | 11, _ => List.mem_of_getElem? (i := 254) (by decide +kernel)
  | 12, _ => List.mem_of_getElem? (i := 255) (by decide +kernel)
  | 13, _ => List.mem_of_getElem? (i := 256) (by decide +kernel)
  | 14, _ => List.mem_of_getElem? (i := 257) (by decide +kernel)
  | 15, _ => List.mem_of_getElem? (i := 258) (by decide +kernel)
  | 16, _ => List.mem_of_getElem? (i := 259) (by decide +kernel)
  | n + 17, h => absurd (show n + 17 < 17 from h) (by omega)⟩
theorem st_l13 : stP ("ConstructionLedger", 303, "not possible now", [110, 111, 116, 32, 112, 111, 115, 115, 105, 98, 108, 101, 32, 110, 111, 119]) := ⟨List.mem_of_getElem? (i := 272) (by decide +kernel), List.mem_of_getElem? (i := 273) (by decide +kernel), List.mem_of_getElem? (i := 274) (by decide +kernel), List.mem_of_getElem? (i := 275) (by decide +kernel), fun j hj => match j, hj with
  | 0, _ => List.mem_of_getElem? (i := 276) (by decide +kernel)
  | 1, _ => List.mem_of_getElem? (i := 277) (by decide +kernel)
  | 2, _ => List.mem_of_getElem? (i := 278) (by decide +kernel)
  | 3, _ => List.mem_of_getElem? (i := 279) (by decide +kernel)
  | 4, _ => List.mem_of_getElem? (i := 280) (by decide +kernel)
  | 5, _ => List.mem_of_getElem? (i := 281) (by decide +kernel)
  | 6, _ => List.mem_of_getElem? (i := 282) (by decide +kernel)
  | 7, _ => List.mem_of_getElem? (i := 283) (by decide +kernel)
  | 8, _ => List.mem_of_getElem? (i := 284) (by decide +kernel)
  | 9, _ => List.mem_of_getElem? (i := 285) (by decide +kernel)
  | 10, _ => List.mem_of_getElem? (i := 286) (by decide +kernel)
  | 11, _ => List.mem_of_getElem? (i := 287) (by decide +kernel)
  | 12, _ => List.mem_of_getElem? (i := 288) (by decide +kernel)
  | 13, _ => List.mem_of_getElem? (i := 289) (by decide +kernel)
  | 14, _ => List.mem_of_getElem? (i := 290) (by decide +kernel)
  | 15, _ => List.mem_of_getElem? (i := 291) (by decide +kernel)
  | n + 16, h => absurd (show n + 16 < 16 from h) (by omega)⟩
theorem st_l14 : stP ("ConstructionLedger", 260, "not from 1 to the open amount", [110, 111, 116, 32, 102, 114, 111, 109, 32, 49, 32, 116, 111, 32, 116, 104, 101, 32, 111, 112, 101, 110, 32, 97, 109, 111, 117, 110, 116]) := ⟨List.mem_of_getElem? (i := 305) (by decide +kernel), List.mem_of_getElem? (i := 306) (by decide +kernel), List.mem_of_getElem? (i := 307) (by decide +kernel), List.mem_of_getElem? (i := 308) (by decide +kernel), fun j hj => match j, hj with
  | 0, _ => List.mem_of_getElem? (i := 309) (by decide +kernel)
  | 1, _ => List.mem_of_getElem? (i := 310) (by decide +kernel)
  | 2, _ => List.mem_of_getElem? (i := 311) (by decide +kernel)
  | 3, _ => List.mem_of_getElem? (i := 312) (by decide +kernel)
  | 4, _ => List.mem_of_getElem? (i := 313) (by decide +kernel)
  | 5, _ => List.mem_of_getElem? (i := 314) (by decide +kernel)
  | 6, _ => List.mem_of_getElem? (i := 315) (by decide +kernel)
  | 7, _ => List.mem_of_getElem? (i := 316) (by decide +kernel)
  | 8, _ => List.mem_of_getElem? (i := 317) (by decide +kernel)
  | 9, _ => List.mem_of_getElem? (i := 318) (by decide +kernel)
  | 10, _ => List.mem_of_getElem? (i := 319) (by decide +kernel)
  | 11, _ => List.mem_of_getElem? (i := 320) (by decide +kernel)
  | 12, _ => List.mem_of_getElem? (i := 321) (by decide +kernel)
  | 13, _ => List.mem_of_getElem? (i := 322) (by decide +kernel)
  | 14, _ => List.mem_of_getElem? (i := 323) (by decide +kernel)
  | 15, _ => List.mem_of_getElem? (i := 324) (by decide +kernel)
  | 16, _ => List.mem_of_getElem? (i := 325) (by decide +kernel)
  | 17, _ => List.mem_of_getElem? (i := 326) (by decide +kernel)
  | 18, _ => List.mem_of_getElem? (i := 327) (by decide +kernel)
  | 19, _ => List.mem_of_getElem? (i := 328) (by decide +kernel)
  | 20, _ => List.mem_of_getElem? (i := 329) (by decide +kernel)
  | 21, _ => List.mem_of_getElem? (i := 330) (by decide +kernel)
  | 22, _ => List.mem_of_getElem? (i := 331) (by decide +kernel)
  | 23, _ => List.mem_of_getElem? (i := 332) (by decide +kernel)
  | 24, _ => List.mem_of_getElem? (i := 333) (by decide +kernel)
  | 25, _ => List.mem_of_getElem? (i := 334) (by decide +kernel)
  | 26, _ => List.mem_of_getElem? (i := 335) (by decide +kernel)
  | 27, _ => List.mem_of_getElem? (i := 336) (by decide +kernel)
  | 28, _ => List.mem_of_getElem? (i := 337) (by decide +kernel)
  | n + 29, h => absurd (show n + 29 < 29 from h) (by omega)⟩
theorem st_l15 : stP ("ConstructionLedgerModel", 159, "project", [112, 114, 111, 106, 101, 99, 116]) := ⟨List.mem_of_getElem? (i := 352) (by decide +kernel), List.mem_of_getElem? (i := 353) (by decide +kernel), List.mem_of_getElem? (i := 354) (by decide +kernel), List.mem_of_getElem? (i := 355) (by decide +kernel), fun j hj => match j, hj with
  | 0, _ => List.mem_of_getElem? (i := 356) (by decide +kernel)
  | 1, _ => List.mem_of_getElem? (i := 357) (by decide +kernel)
  | 2, _ => List.mem_of_getElem? (i := 358) (by decide +kernel)
  | 3, _ => List.mem_of_getElem? (i := 359) (by decide +kernel)
  | 4, _ => List.mem_of_getElem? (i := 360) (by decide +kernel)
  | 5, _ => List.mem_of_getElem? (i := 361) (by decide +kernel)
  | 6, _ => List.mem_of_getElem? (i := 362) (by decide +kernel)
  | n + 7, h => absurd (show n + 7 < 7 from h) (by omega)⟩
theorem st_l16 : stP ("ConstructionLedgerModel", 166, "main", [109, 97, 105, 110]) := ⟨List.mem_of_getElem? (i := 378) (by decide +kernel), List.mem_of_getElem? (i := 379) (by decide +kernel), List.mem_of_getElem? (i := 380) (by decide +kernel), List.mem_of_getElem? (i := 381) (by decide +kernel), fun j hj => match j, hj with
  | 0, _ => List.mem_of_getElem? (i := 382) (by decide +kernel)
  | 1, _ => List.mem_of_getElem? (i := 383) (by decide +kernel)
  | 2, _ => List.mem_of_getElem? (i := 384) (by decide +kernel)
  | 3, _ => List.mem_of_getElem? (i := 385) (by decide +kernel)
  | n + 4, h => absurd (show n + 4 < 4 from h) (by omega)⟩
theorem st_l17 : stP ("ConstructionLedgerModel", 142, "sub", [115, 117, 98]) := ⟨List.mem_of_getElem? (i := 402) (by decide +kernel), List.mem_of_getElem? (i := 403) (by decide +kernel), List.mem_of_getElem? (i := 404) (by decide +kernel), List.mem_of_getElem? (i := 405) (by decide +kernel), fun j hj => match j, hj with
  | 0, _ => List.mem_of_getElem? (i := 406) (by decide +kernel)
  | 1, _ => List.mem_of_getElem? (i := 407) (by decide +kernel)
  | 2, _ => List.mem_of_getElem? (i := 408) (by decide +kernel)
  | n + 3, h => absurd (show n + 3 < 3 from h) (by omega)⟩
theorem st_l18 : stP ("ConstructionLedgerModel", 138, "linked", [108, 105, 110, 107, 101, 100]) := ⟨List.mem_of_getElem? (i := 426) (by decide +kernel), List.mem_of_getElem? (i := 427) (by decide +kernel), List.mem_of_getElem? (i := 428) (by decide +kernel), List.mem_of_getElem? (i := 429) (by decide +kernel), fun j hj => match j, hj with
  | 0, _ => List.mem_of_getElem? (i := 430) (by decide +kernel)
  | 1, _ => List.mem_of_getElem? (i := 431) (by decide +kernel)
  | 2, _ => List.mem_of_getElem? (i := 432) (by decide +kernel)
  | 3, _ => List.mem_of_getElem? (i := 433) (by decide +kernel)
  | 4, _ => List.mem_of_getElem? (i := 434) (by decide +kernel)
  | 5, _ => List.mem_of_getElem? (i := 435) (by decide +kernel)
  | n + 6, h => absurd (show n + 6 < 6 from h) (by omega)⟩
theorem st_l19 : stP ("ConstructionLedgerModel", 147, "item", [105, 116, 101, 109]) := ⟨List.mem_of_getElem? (i := 454) (by decide +kernel), List.mem_of_getElem? (i := 455) (by decide +kernel), List.mem_of_getElem? (i := 456) (by decide +kernel), List.mem_of_getElem? (i := 457) (by decide +kernel), fun j hj => match j, hj with
  | 0, _ => List.mem_of_getElem? (i := 458) (by decide +kernel)
  | 1, _ => List.mem_of_getElem? (i := 459) (by decide +kernel)
  | 2, _ => List.mem_of_getElem? (i := 460) (by decide +kernel)
  | 3, _ => List.mem_of_getElem? (i := 461) (by decide +kernel)
  | n + 4, h => absurd (show n + 4 < 4 from h) (by omega)⟩
theorem st_l20 : stP ("ConstructionLedgerModel", 152, "threshold", [116, 104, 114, 101, 115, 104, 111, 108, 100]) := ⟨List.mem_of_getElem? (i := 481) (by decide +kernel), List.mem_of_getElem? (i := 482) (by decide +kernel), List.mem_of_getElem? (i := 483) (by decide +kernel), List.mem_of_getElem? (i := 484) (by decide +kernel), fun j hj => match j, hj with
  | 0, _ => List.mem_of_getElem? (i := 485) (by decide +kernel)
  | 1, _ => List.mem_of_getElem? (i := 486) (by decide +kernel)
  | 2, _ => List.mem_of_getElem? (i := 487) (by decide +kernel)
  | 3, _ => List.mem_of_getElem? (i := 488) (by decide +kernel)
  | 4, _ => List.mem_of_getElem? (i := 489) (by decide +kernel)
  | 5, _ => List.mem_of_getElem? (i := 490) (by decide +kernel)
  | 6, _ => List.mem_of_getElem? (i := 491) (by decide +kernel)
  | 7, _ => List.mem_of_getElem? (i := 492) (by decide +kernel)
  | 8, _ => List.mem_of_getElem? (i := 493) (by decide +kernel)
  | n + 9, h => absurd (show n + 9 < 9 from h) (by omega)⟩
theorem st_l21 : stP ("ConstructionLedgerModel", 157, "rate", [114, 97, 116, 101]) := ⟨List.mem_of_getElem? (i := 514) (by decide +kernel), List.mem_of_getElem? (i := 515) (by decide +kernel), List.mem_of_getElem? (i := 516) (by decide +kernel), List.mem_of_getElem? (i := 517) (by decide +kernel), fun j hj => match j, hj with
  | 0, _ => List.mem_of_getElem? (i := 518) (by decide +kernel)
  | 1, _ => List.mem_of_getElem? (i := 519) (by decide +kernel)
  | 2, _ => List.mem_of_getElem? (i := 520) (by decide +kernel)
  | 3, _ => List.mem_of_getElem? (i := 521) (by decide +kernel)
  | n + 4, h => absurd (show n + 4 < 4 from h) (by omega)⟩
theorem st_l22 : stP ("ConstructionLedgerModel", 126, "price", [112, 114, 105, 99, 101]) := ⟨List.mem_of_getElem? (i := 543) (by decide +kernel), List.mem_of_getElem? (i := 544) (by decide +kernel), List.mem_of_getElem? (i := 545) (by decide +kernel), List.mem_of_getElem? (i := 546) (by decide +kernel), fun j hj => match j, hj with
  | 0, _ => List.mem_of_getElem? (i := 547) (by decide +kernel)
  | 1, _ => List.mem_of_getElem? (i := 548) (by decide +kernel)
  | 2, _ => List.mem_of_getElem? (i := 549) (by decide +kernel)
  | 3, _ => List.mem_of_getElem? (i := 550) (by decide +kernel)
  | 4, _ => List.mem_of_getElem? (i := 551) (by decide +kernel)
  | n + 5, h => absurd (show n + 5 < 5 from h) (by omega)⟩
theorem st_l23 : stP ("ConstructionLedgerModel", 128, "first", [102, 105, 114, 115, 116]) := ⟨List.mem_of_getElem? (i := 574) (by decide +kernel), List.mem_of_getElem? (i := 575) (by decide +kernel), List.mem_of_getElem? (i := 576) (by decide +kernel), List.mem_of_getElem? (i := 577) (by decide +kernel), fun j hj => match j, hj with
  | 0, _ => List.mem_of_getElem? (i := 578) (by decide +kernel)
  | 1, _ => List.mem_of_getElem? (i := 579) (by decide +kernel)
  | 2, _ => List.mem_of_getElem? (i := 580) (by decide +kernel)
  | 3, _ => List.mem_of_getElem? (i := 581) (by decide +kernel)
  | 4, _ => List.mem_of_getElem? (i := 582) (by decide +kernel)
  | n + 5, h => absurd (show n + 5 < 5 from h) (by omega)⟩
theorem st_l24 : stP ("ConstructionLedgerModel", 130, "excess", [101, 120, 99, 101, 115, 115]) := ⟨List.mem_of_getElem? (i := 606) (by decide +kernel), List.mem_of_getElem? (i := 607) (by decide +kernel), List.mem_of_getElem? (i := 608) (by decide +kernel), List.mem_of_getElem? (i := 609) (by decide +kernel), fun j hj => match j, hj with
  | 0, _ => List.mem_of_getElem? (i := 610) (by decide +kernel)
  | 1, _ => List.mem_of_getElem? (i := 611) (by decide +kernel)
  | 2, _ => List.mem_of_getElem? (i := 612) (by decide +kernel)
  | 3, _ => List.mem_of_getElem? (i := 613) (by decide +kernel)
  | 4, _ => List.mem_of_getElem? (i := 614) (by decide +kernel)
  | 5, _ => List.mem_of_getElem? (i := 615) (by decide +kernel)
  | n + 6, h => absurd (show n + 6 < 6 from h) (by omega)⟩

theorem st_leaf : ∀ q ∈ zSt, stP q := List.forall_mem_cons.mpr ⟨st_l0, List.forall_mem_cons.mpr ⟨st_l1, List.forall_mem_cons.mpr ⟨st_l2, List.forall_mem_cons.mpr ⟨st_l3, List.forall_mem_cons.mpr ⟨st_l4, List.forall_mem_cons.mpr ⟨st_l5, List.forall_mem_cons.mpr ⟨st_l6, List.forall_mem_cons.mpr ⟨st_l7, List.forall_mem_cons.mpr ⟨st_l8, List.forall_mem_cons.mpr ⟨st_l9, List.forall_mem_cons.mpr ⟨st_l10, List.forall_mem_cons.mpr ⟨st_l11, List.forall_mem_cons.mpr ⟨st_l12, List.forall_mem_cons.mpr ⟨st_l13, List.forall_mem_cons.mpr ⟨st_l14, List.forall_mem_cons.mpr ⟨st_l15, List.forall_mem_cons.mpr ⟨st_l16, List.forall_mem_cons.mpr ⟨st_l17, List.forall_mem_cons.mpr ⟨st_l18, List.forall_mem_cons.mpr ⟨st_l19, List.forall_mem_cons.mpr ⟨st_l20, List.forall_mem_cons.mpr ⟨st_l21, List.forall_mem_cons.mpr ⟨st_l22, List.forall_mem_cons.mpr ⟨st_l23, List.forall_mem_cons.mpr ⟨st_l24, fun q h => absurd h List.not_mem_nil⟩⟩⟩⟩⟩⟩⟩⟩⟩⟩⟩⟩⟩⟩⟩⟩⟩⟩⟩⟩⟩⟩⟩⟩⟩
theorem st_tab : ∀ q ∈ zSt, Cond.stringRef q.1 q.2.1 q.2.2.1 ∈ lw_tbl := by decide +kernel
theorem st_nest : ∀ q ∈ zNest, Cond.methodLinkNest q.1 q.2.1 q.2.2.1 q.2.2.2 ∈ lw_tbl := by decide +kernel
theorem st_ncs : ∀ q ∈ zNcs, Cond.not (.castable q.1 q.2) ∈ lw_leaf := by decide +kernel
theorem st_exs : ∀ q ∈ zExs, Cond.castable q q ∈ lw_tbl := by decide +kernel
theorem st_dcl : ∀ q ∈ zDcl, Cond.declares q ∈ lw_tbl := by decide +kernel
theorem st_len : ∀ q ∈ zSt, q.2.2.2.length < 2 ^ 31 := by decide +kernel
section START
variable {args : Array Value} {s : State}
theorem st_str {A : Nat → Prop} {t : Term} {bs : List Int32} (hn : bs.length < 2 ^ 31) (h1 : (Cond.exactly t "java/lang/String").before args s = true) (h2 : (Cond.eq (.field t "java/lang/String" "coder" "B") (.int 0)).before args s = true) (h3 : (Cond.arrayOf (.field t "java/lang/String" "value" "[B") .byte).before args s = true) (h4 : (Cond.eq (.length (.field t "java/lang/String" "value" "[B")) (.int (Int32.ofNat bs.length))).before args s = true) (h5 : ∀ j, j < bs.length → (Cond.eq (.elem (.field t "java/lang/String" "value" "[B") (.int (Int32.ofNat j))) (.int (bs.getD j 0))).before args s = true) (hA : ∀ a : Nat, a < s.heap.size → ¬ A a) :
    ∃ q v : Nat, t.eval args s none [] s = some (.ref q) ∧ va_O "java/lang/String" q A s s.heap ∧ va_OF "java/lang/String" "coder" "B" (.int 0) q A s s.heap ∧ va_OF "java/lang/String" "value" "[B" (.ref v) q A s s.heap ∧ va_T .byte v bs.length (fun j => .int (bs.getD j 0)) A s s.heap := by
  obtain ⟨q, -, -, -, e1, -⟩ := Cond.exactly_spec (args := args) (first := s) (o := none) (s := s) (idx := []) (t := t) (cls := "java/lang/String") h1
  obtain ⟨v, e2, e3⟩ := va_Tof (f := fun j => .int (bs.getD j 0)) (A := A) hn h3 (va_eqt h4) (fun j hj => va_eqt (h5 j hj)) hA
  exact ⟨q, v, e1, va_Oof h1 e1 hA, vk_OFof e1 (va_eqt h2) hA, vk_OFof e1 e2 hA, e3⟩
theorem st_arr {ty : FieldType} (h : (Cond.arrayClass ty).before args s = true) : ∃ cA : ClassId, ArrOfT s cA ty ∧ s.vm.findClass ("[" ++ ty.toString) = some cA := by
  obtain ⟨c, k, comp, h1, h2, h3⟩ := Cond.arrayClass_spec h
  exact ⟨c, fun n z => ⟨fun k h => (by cases h), k, h2, comp, h3⟩, h1⟩
theorem st_arrP {C : String} (h : (Cond.arrayOver (.object C)).before args s = true) : ∃ cA : ClassId, ArrOfT s cA (.object C) ∧ va_RA s cA (.object C) := by
  obtain ⟨comp, cA, kA, h1, -, h3, h4, h5⟩ := Cond.arrayOver_spec h
  exact ⟨cA, fun n z => ⟨fun k h => (by cases h), kA, h3, comp, h4⟩, kA, comp, h3, h4, h1, h5⟩
theorem st_kn (hG : ∀ q ∈ zG, q.before args s = true) : ∀ c : Nat, ∃ r : ClassId × (Nat → Nat), ∀ q : vw_C, vwCl[c]? = some q → u_Kn s q.1 q.2.1 q.2.2 r.1 r.2
  | 0 => by
    obtain ⟨cC, iS, h⟩ := u_known (C := RX0) (T := TX0) (N := 6) (n := 6) hG zus_0 (hG _ zw_171)
    exact ⟨(cC, iS), fun q hq => by cases hq; exact h⟩
  | 1 => by
    obtain ⟨cC, iS, h⟩ := u_known (C := RX1) (T := TX1) (N := 8) (n := 8) hG zus_1 (hG _ zw_44)
    exact ⟨(cC, iS), fun q hq => by cases hq; exact h⟩
  | 2 => by
    obtain ⟨cC, iS, h⟩ := u_known (C := RX2) (T := TX2) (N := 5) (n := 5) hG zus_2 (hG _ zw_117)
    exact ⟨(cC, iS), fun q hq => by cases hq; exact h⟩
  | 3 => by
    obtain ⟨cC, iS, h⟩ := u_known (C := RX3) (T := TX3) (N := 5) (n := 5) hG zus_3 (hG _ zw_206)
    exact ⟨(cC, iS), fun q hq => by cases hq; exact h⟩
  | 4 => by
    obtain ⟨cC, iS, h⟩ := u_known (C := RX4) (T := TX4) (N := 4) (n := 4) hG zus_4 (hG _ zw_91)
    exact ⟨(cC, iS), fun q hq => by cases hq; exact h⟩
  | 5 => by
    obtain ⟨cC, iS, h⟩ := u_known (C := RX5) (T := TX5) (N := 9) (n := 9) hG zus_5 (hG _ zw_38)
    exact ⟨(cC, iS), fun q hq => by cases hq; exact h⟩
  | 6 => by
    obtain ⟨cC, iS, h⟩ := u_known (C := RX6) (T := TX6) (N := 12) (n := 12) hG zus_6 (hG _ zw_32)
    exact ⟨(cC, iS), fun q hq => by cases hq; exact h⟩
  | 7 => by
    obtain ⟨cC, iS, h⟩ := u_known (C := RX7) (T := TX7) (N := 4) (n := 4) hG zus_7 (hG _ zw_145)
    exact ⟨(cC, iS), fun q hq => by cases hq; exact h⟩
  | 8 => by
    obtain ⟨cC, iS, h⟩ := u_known (C := RX8) (T := TX8) (N := 5) (n := 5) hG zus_8 (hG _ zw_24)
    exact ⟨(cC, iS), fun q hq => by cases hq; exact h⟩
  | 9 => by
    obtain ⟨cC, iS, h⟩ := u_known (C := RX9) (T := TX9) (N := 17) (n := 17) hG zus_9 (hG _ zw_1178)
    exact ⟨(cC, iS), fun q hq => by cases hq; exact h⟩
  | n + 10 => ⟨(0, fun _ => 0), fun q hq => by simp at hq⟩
theorem st_K (hG : ∀ q ∈ zG, q.before args s = true) (hO : (Cond.arrayOver (.object "ConstructionLedger$Project")).before args s = true) : ∃ (D : va_G) (ar : Nat → ClassId), va_K D vwCl [(ar 0, .int), (ar 1, .long), (ar 2, .byte), (ar 3, .boolean), (ar 4, .object "ConstructionLedger$Project")] s := by
  obtain ⟨g, hg⟩ := Classical.axiomOfChoice (st_kn hG)
  obtain ⟨a0, h0, h0'⟩ := st_arr (hG _ zw_88)
  obtain ⟨a1, h1, h1'⟩ := st_arr (hG _ zw_87)
  obtain ⟨a2, h2, h2'⟩ := st_arr (hG _ zw_86)
  obtain ⟨a3, h3, h3'⟩ := st_arr (hG _ zw_89)
  obtain ⟨a4, h4, h4'⟩ := st_arrP hO
  refine ⟨(fun c => (g c).1, fun c => (g c).2), fun t => if t = 0 then a0 else if t = 1 then a1 else if t = 2 then a2 else if t = 3 then a3 else a4, hg, fun k q hq => ?_⟩
  match k, hq with
  | 0, hq => cases hq; exact ⟨h0, h0'⟩
  | 1, hq => cases hq; exact ⟨h1, h1'⟩
  | 2, hq => cases hq; exact ⟨h2, h2'⟩
  | 3, hq => cases hq; exact ⟨h3, h3'⟩
  | 4, hq => cases hq; exact ⟨h4, h4'⟩
  | k + 5, hq => simp at hq
theorem st_S (hl : ∀ c ∈ lw_leaf, c.before args s = true) {A : Nat → Prop} (hA : ∀ a : Nat, a < s.heap.size → ¬ A a) : ∃ sa sv : Nat → Nat, ∀ (i : Nat) (q : String × Nat × String × List Int32), zSt[i]? = some q → (Term.string q.1 q.2.1).eval args s none [] s = some (.ref (sa i)) ∧ va_O "java/lang/String" (sa i) A s s.heap ∧ va_OF "java/lang/String" "coder" "B" (.int 0) (sa i) A s s.heap ∧ va_OF "java/lang/String" "value" "[B" (.ref (sv i)) (sa i) A s s.heap ∧ va_T .byte (sv i) q.2.2.2.length (fun j => .int (q.2.2.2.getD j 0)) A s s.heap := by
  have h0 : ∀ i : Nat, ∃ r : Nat × Nat, ∀ q : String × Nat × String × List Int32, zSt[i]? = some q → (Term.string q.1 q.2.1).eval args s none [] s = some (.ref r.1) ∧ va_O "java/lang/String" r.1 A s s.heap ∧ va_OF "java/lang/String" "coder" "B" (.int 0) r.1 A s s.heap ∧ va_OF "java/lang/String" "value" "[B" (.ref r.2) r.1 A s s.heap ∧ va_T .byte r.2 q.2.2.2.length (fun j => .int (q.2.2.2.getD j 0)) A s s.heap := by
    intro i
    cases hq : zSt[i]? with
    | none => exact ⟨(0, 0), fun q h => by cases h⟩
    | some q =>
      have hm := List.mem_of_getElem? hq
      obtain ⟨m1, m2, m3, m4, m5⟩ := st_leaf q hm
      obtain ⟨a, v, e⟩ := st_str (A := A) (st_len q hm) (hl _ m1) (hl _ m2) (hl _ m3) (hl _ m4) (fun j hj => hl _ (m5 j hj)) hA
      exact ⟨(a, v), fun q' h => by cases h; exact e⟩
  obtain ⟨g, hg⟩ := Classical.axiomOfChoice h0
  exact ⟨fun i => (g i).1, fun i => (g i).2, hg⟩
end START

