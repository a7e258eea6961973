def MX5_townOf : ic_Md := (yX5_townOf, cX5_townOf, 2, (some .int), { frames := 0, cells := 0, slots := 0, locals := 0 })
theorem mv_X5_townOf : ic_MV MX5_townOf := ⟨ic_in 519 (by decide +kernel), ic_in 520 (by decide +kernel), ic_in 78 (by decide +kernel), ic_in 521 (by decide +kernel), by decide +kernel, by decide +kernel⟩
def MX5_bankOf : ic_Md := (yX5_bankOf, cX5_bankOf, 5, (some .int), { frames := 0, cells := 0, slots := 0, locals := 0 })
theorem mv_X5_bankOf : ic_MV MX5_bankOf := ⟨ic_in 615 (by decide +kernel), ic_in 616 (by decide +kernel), ic_in 78 (by decide +kernel), ic_in 617 (by decide +kernel), by decide +kernel, by decide +kernel⟩
def MX1_ways : ic_Md := (yX1_ways, cX1_ways, 5, (some .int), { frames := 3, cells := 0, slots := 0, locals := 65 })
theorem mv_X1_ways : ic_MV MX1_ways := ⟨ic_in 619 (by decide +kernel), ic_in 620 (by decide +kernel), ic_in 72 (by decide +kernel), ic_in 621 (by decide +kernel), by decide +kernel, by decide +kernel⟩
def MX1_canGo : ic_Md := (yX1_canGo, cX1_canGo, 4, (some .boolean), { frames := 4, cells := 0, slots := 0, locals := 89 })
theorem mv_X1_canGo : ic_MV MX1_canGo := ⟨ic_in 610 (by decide +kernel), ic_in 611 (by decide +kernel), ic_in 72 (by decide +kernel), ic_in 612 (by decide +kernel), by decide +kernel, by decide +kernel⟩
def MX1_drownOn : ic_Md := (yX1_drownOn, cX1_drownOn, 4, none, { frames := 1, cells := 0, slots := 0, locals := 22 })
theorem mv_X1_drownOn : ic_MV MX1_drownOn := ⟨ic_in 592 (by decide +kernel), ic_in 16 (by decide +kernel), ic_in 72 (by decide +kernel), ic_in 593 (by decide +kernel), by decide +kernel, by decide +kernel⟩
def MJ6_bitCount_0f7a4 : ic_Md := (yJ6_bitCount_0f7a4, cJ6_bitCount_0f7a4, 1, (some .int), { frames := 0, cells := 0, slots := 0, locals := 0 })
theorem ms_J6_bitCount_0f7a4 : ic_MS MJ6_bitCount_0f7a4 := ⟨ic_in 599 (by decide +kernel), ic_in 82 (by decide +kernel), ic_in 600 (by decide +kernel), by decide +kernel, by decide +kernel⟩
def MX1_breakOn : ic_Md := (yX1_breakOn, cX1_breakOn, 6, (some .int), { frames := 3, cells := 0, slots := 0, locals := 71 })
theorem mv_X1_breakOn : ic_MV MX1_breakOn := ⟨ic_in 584 (by decide +kernel), ic_in 15 (by decide +kernel), ic_in 72 (by decide +kernel), ic_in 585 (by decide +kernel), by decide +kernel, by decide +kernel⟩
def MX1_claim : ic_Md := (yX1_claim, cX1_claim, 3, none, { frames := 0, cells := 0, slots := 0, locals := 0 })
theorem mv_X1_claim : ic_MV MX1_claim := ⟨ic_in 628 (by decide +kernel), ic_in 17 (by decide +kernel), ic_in 72 (by decide +kernel), ic_in 629 (by decide +kernel), by decide +kernel, by decide +kernel⟩
def MX1_go : ic_Md := (yX1_go, cX1_go, 5, (some .int), { frames := 4, cells := 0, slots := 0, locals := 96 })
theorem mv_X1_go : ic_MV MX1_go := ⟨ic_in 623 (by decide +kernel), ic_in 624 (by decide +kernel), ic_in 72 (by decide +kernel), ic_in 625 (by decide +kernel), by decide +kernel, by decide +kernel⟩
def MX1_strewSalt : ic_Md := (yX1_strewSalt, cX1_strewSalt, 6, (some .int), { frames := 4, cells := 0, slots := 0, locals := 96 })
theorem mv_X1_strewSalt : ic_MV MX1_strewSalt := ⟨ic_in 636 (by decide +kernel), ic_in 637 (by decide +kernel), ic_in 72 (by decide +kernel), ic_in 638 (by decide +kernel), by decide +kernel, by decide +kernel⟩
def MX5_coldOf : ic_Md := (yX5_coldOf, cX5_coldOf, 2, (some .int), { frames := 1, cells := 0, slots := 0, locals := 23 })
theorem mv_X5_coldOf : ic_MV MX5_coldOf := ⟨ic_in 534 (by decide +kernel), ic_in 535 (by decide +kernel), ic_in 78 (by decide +kernel), ic_in 536 (by decide +kernel), by decide +kernel, by decide +kernel⟩
def MX5_currentAt : ic_Md := (yX5_currentAt, cX5_currentAt, 2, (some .int), { frames := 1, cells := 0, slots := 0, locals := 23 })
theorem mv_X5_currentAt : ic_MV MX5_currentAt := ⟨ic_in 506 (by decide +kernel), ic_in 507 (by decide +kernel), ic_in 78 (by decide +kernel), ic_in 508 (by decide +kernel), by decide +kernel, by decide +kernel⟩
def MX5_inchesAfter : ic_Md := (yX5_inchesAfter, cX5_inchesAfter, 6, (some .int), { frames := 2, cells := 0, slots := 0, locals := 44 })
theorem mv_X5_inchesAfter : ic_MV MX5_inchesAfter := ⟨ic_in 570 (by decide +kernel), ic_in 571 (by decide +kernel), ic_in 78 (by decide +kernel), ic_in 572 (by decide +kernel), by decide +kernel, by decide +kernel⟩
def MX1_passNight : ic_Md := (yX1_passNight, cX1_passNight, 4, none, { frames := 4, cells := 0, slots := 0, locals := 96 })
theorem mv_X1_passNight : ic_MV MX1_passNight := ⟨ic_in 561 (by decide +kernel), ic_in 562 (by decide +kernel), ic_in 72 (by decide +kernel), ic_in 563 (by decide +kernel), by decide +kernel, by decide +kernel⟩
def MX1_comeSpring : ic_Md := (yX1_comeSpring, cX1_comeSpring, 2, none, { frames := 0, cells := 0, slots := 0, locals := 0 })
theorem mv_X1_comeSpring : ic_MV MX1_comeSpring := ⟨ic_in 654 (by decide +kernel), ic_in 655 (by decide +kernel), ic_in 72 (by decide +kernel), ic_in 656 (by decide +kernel), by decide +kernel, by decide +kernel⟩
def MX3_stateAt : ic_Md := (yX3_stateAt, cX3_stateAt, 2, (some (.object "IceLaw$Ice")), { frames := 0, cells := 0, slots := 0, locals := 0 })
theorem mv_X3_stateAt : ic_MV MX3_stateAt := ⟨ic_in 551 (by decide +kernel), ic_in 13 (by decide +kernel), ic_in 73 (by decide +kernel), ic_in 552 (by decide +kernel), by decide +kernel, by decide +kernel⟩
def MX3_remember : ic_Md := (yX3_remember, cX3_remember, 3, none, { frames := 2, cells := 0, slots := 0, locals := 43 })
theorem mv_X3_remember : ic_MV MX3_remember := ⟨ic_in 546 (by decide +kernel), ic_in 547 (by decide +kernel), ic_in 73 (by decide +kernel), ic_in 548 (by decide +kernel), by decide +kernel, by decide +kernel⟩
def MX3_restore : ic_Md := (yX3_restore, cX3_restore, 4, (some .boolean), { frames := 2, cells := 0, slots := 0, locals := 43 })
theorem mv_X3_restore : ic_MV MX3_restore := ⟨ic_in 678 (by decide +kernel), ic_in 679 (by decide +kernel), ic_in 73 (by decide +kernel), ic_in 680 (by decide +kernel), by decide +kernel, by decide +kernel⟩
def MX4_add : ic_Md := (yX4_add, cX4_add, 2, (some .boolean), { frames := 0, cells := 0, slots := 0, locals := 0 })
theorem mv_X4_add : ic_MV MX4_add := ⟨ic_in 352 (by decide +kernel), ic_in 353 (by decide +kernel), ic_in 71 (by decide +kernel), ic_in 354 (by decide +kernel), by decide +kernel, by decide +kernel⟩
def MX5_clear : ic_Md := (yX5_clear, cX5_clear, 1, none, { frames := 0, cells := 0, slots := 0, locals := 0 })
theorem mv_X5_clear : ic_MV MX5_clear := ⟨ic_in 365 (by decide +kernel), ic_in 366 (by decide +kernel), ic_in 78 (by decide +kernel), ic_in 367 (by decide +kernel), by decide +kernel, by decide +kernel⟩
def MX4_sign : ic_Md := (yX4_sign, cX4_sign, 1, (some .int), { frames := 0, cells := 0, slots := 0, locals := 0 })
theorem mv_X4_sign : ic_MV MX4_sign := ⟨ic_in 374 (by decide +kernel), ic_in 1 (by decide +kernel), ic_in 71 (by decide +kernel), ic_in 375 (by decide +kernel), by decide +kernel, by decide +kernel⟩
def MX4_skipBlanks : ic_Md := (yX4_skipBlanks, cX4_skipBlanks, 1, none, { frames := 1, cells := 0, slots := 0, locals := 20 })
theorem mv_X4_skipBlanks : ic_MV MX4_skipBlanks := ⟨ic_in 370 (by decide +kernel), ic_in 0 (by decide +kernel), ic_in 71 (by decide +kernel), ic_in 371 (by decide +kernel), by decide +kernel, by decide +kernel⟩
def MX4_blame : ic_Md := (yX4_blame, cX4_blame, 3, none, { frames := 0, cells := 0, slots := 0, locals := 0 })
theorem mv_X4_blame : ic_MV MX4_blame := ⟨ic_in 382 (by decide +kernel), ic_in 3 (by decide +kernel), ic_in 71 (by decide +kernel), ic_in 383 (by decide +kernel), by decide +kernel, by decide +kernel⟩
def MX4_isFigure : ic_Md := (yX4_isFigure, cX4_isFigure, 1, (some .boolean), { frames := 0, cells := 0, slots := 0, locals := 0 })
theorem ms_X4_isFigure : ic_MS MX4_isFigure := ⟨ic_in 393 (by decide +kernel), ic_in 71 (by decide +kernel), ic_in 394 (by decide +kernel), by decide +kernel, by decide +kernel⟩
def MX4_readNumber : ic_Md := (yX4_readNumber, cX4_readNumber, 5, (some .int), { frames := 2, cells := 0, slots := 0, locals := 40 })
theorem mv_X4_readNumber : ic_MV MX4_readNumber := ⟨ic_in 390 (by decide +kernel), ic_in 5 (by decide +kernel), ic_in 71 (by decide +kernel), ic_in 391 (by decide +kernel), by decide +kernel, by decide +kernel⟩
theorem lkf_X5_21 : Cond.fieldLink RX5 21 RX5 (TX5 3).2.1 (TX5 3).2.2.1 ∈ ic_tb := ic_in 249 (by decide +kernel)
theorem lkf_X5_31 : Cond.fieldLink RX5 31 RX5 (TX5 9).2.1 (TX5 9).2.2.1 ∈ ic_tb := ic_in 261 (by decide +kernel)
theorem lkm_X1_98 : Cond.methodLink RX1 98 yX5_bankOf ∈ ic_tb := ic_in 614 (by decide +kernel)
theorem lkm_X1_95 : Cond.methodLink RX1 95 yX5_townOf ∈ ic_tb := ic_in 613 (by decide +kernel)
theorem lkm_X1_101 : Cond.methodLink RX1 101 yX1_ways ∈ ic_tb := ic_in 618 (by decide +kernel)
theorem lkm_X1_104 : Cond.methodLink RX1 104 yX1_putPerson ∈ ic_tb := ic_in 594 (by decide +kernel)
theorem lkc_J6_265 : Cond.constant RJ6 265 (1431655765 : Int32) ∈ ic_tb := ic_in 601 (by decide +kernel)
theorem lkc_J6_266 : Cond.constant RJ6 266 (858993459 : Int32) ∈ ic_tb := ic_in 602 (by decide +kernel)
theorem lkc_J6_267 : Cond.constant RJ6 267 (252645135 : Int32) ∈ ic_tb := ic_in 603 (by decide +kernel)
theorem lkm_X1_120 : Cond.methodLink RX1 120 yX1_setInches ∈ ic_tb := ic_in 578 (by decide +kernel)
theorem lkm_X1_140 : Cond.methodLink RX1 140 yJ6_bitCount_0f7a4 ∈ ic_tb := ic_in 598 (by decide +kernel)
theorem lkm_X1_123 : Cond.methodLink RX1 123 yX1_drownOn ∈ ic_tb := ic_in 590 (by decide +kernel)
theorem lkm_X1_137 : Cond.methodLink RX1 137 yX1_overloaded ∈ ic_tb := ic_in 586 (by decide +kernel)
theorem lkm_X1_111 : Cond.methodLink RX1 111 yX1_claim ∈ ic_tb := ic_in 626 (by decide +kernel)
theorem lkm_X1_108 : Cond.methodLink RX1 108 yX1_breakOn ∈ ic_tb := ic_in 582 (by decide +kernel)
theorem lkm_X1_114 : Cond.methodLink RX1 114 yJ9_max_7cf53 ∈ ic_tb := ic_in 639 (by decide +kernel)
theorem lkf_X5_18 : Cond.fieldLink RX5 18 RX5 (TX5 2).2.1 (TX5 2).2.2.1 ∈ ic_tb := ic_in 247 (by decide +kernel)
theorem lkf_X5_49 : Cond.fieldLink RX5 49 RX5 (TX5 7).2.1 (TX5 7).2.2.1 ∈ ic_tb := ic_in 255 (by decide +kernel)
theorem lkf_X5_15 : Cond.fieldLink RX5 15 RX5 (TX5 1).2.1 (TX5 1).2.2.1 ∈ ic_tb := ic_in 245 (by decide +kernel)
theorem lkf_X5_46 : Cond.fieldLink RX5 46 RX5 (TX5 6).2.1 (TX5 6).2.2.1 ∈ ic_tb := ic_in 253 (by decide +kernel)
theorem lkm_X5_70 : Cond.methodLink RX5 70 yJ9_max_7cf53 ∈ ic_tb := ic_in 574 (by decide +kernel)
theorem lkm_X5_67 : Cond.methodLink RX5 67 yX5_currentAt ∈ ic_tb := ic_in 573 (by decide +kernel)
theorem lkm_X5_76 : Cond.methodLink RX5 76 yJ9_min_7cf53 ∈ ic_tb := ic_in 577 (by decide +kernel)
theorem lkm_X1_133 : Cond.methodLink RX1 133 yX5_inchesAfter ∈ ic_tb := ic_in 569 (by decide +kernel)
theorem lkm_X1_130 : Cond.methodLink RX1 130 yX1_isSnowy ∈ ic_tb := ic_in 565 (by decide +kernel)
theorem lkm_X1_127 : Cond.methodLink RX1 127 yX5_coldOf ∈ ic_tb := ic_in 564 (by decide +kernel)
theorem lkf_X3_11 : Cond.fieldLink RX3 11 RX3 (TX3 0).2.1 (TX3 0).2.2.1 ∈ ic_tb := ic_in 156 (by decide +kernel)
theorem lkf_X3_18 : Cond.fieldLink RX3 18 RX3 (TX3 1).2.1 (TX3 1).2.2.1 ∈ ic_tb := ic_in 157 (by decide +kernel)
theorem lkf_X3_30 : Cond.fieldLink RX3 30 RX3 (TX3 2).2.1 (TX3 2).2.2.1 ∈ ic_tb := ic_in 158 (by decide +kernel)
theorem lkm_X3_33 : Cond.methodLink RX3 33 yJ9_min_7cf53 ∈ ic_tb := ic_in 557 (by decide +kernel)
theorem lkm_X3_26 : Cond.methodLink RX3 26 yX1_copyFrom ∈ ic_tb := ic_in 553 (by decide +kernel)
theorem lkm_X3_22 : Cond.methodLink RX3 22 yX3_stateAt ∈ ic_tb := ic_in 549 (by decide +kernel)
theorem lkf_X4_15 : Cond.fieldLink RX4 15 RX4 (TX4 2).2.1 (TX4 2).2.2.1 ∈ ic_tb := ic_in 99 (by decide +kernel)
theorem lkf_X4_9 : Cond.fieldLink RX4 9 RX4 (TX4 0).2.1 (TX4 0).2.2.1 ∈ ic_tb := ic_in 97 (by decide +kernel)
theorem lkf_X5_34 : Cond.fieldLink RX5 34 RX5 (TX5 10).2.1 (TX5 10).2.2.1 ∈ ic_tb := ic_in 264 (by decide +kernel)
theorem lkf_X5_40 : Cond.fieldLink RX5 40 RX5 (TX5 12).2.1 (TX5 12).2.2.1 ∈ ic_tb := ic_in 273 (by decide +kernel)
theorem lkf_X4_19 : Cond.fieldLink RX4 19 RX4 (TX4 1).2.1 (TX4 1).2.2.1 ∈ ic_tb := ic_in 98 (by decide +kernel)
theorem lkm_X4_36 : Cond.methodLink RX4 36 yX4_sign ∈ ic_tb := ic_in 372 (by decide +kernel)
theorem lkf_X4_22 : Cond.fieldLink RX4 22 RX4 (TX4 3).2.1 (TX4 3).2.2.1 ∈ ic_tb := ic_in 101 (by decide +kernel)
theorem lkf_X4_25 : Cond.fieldLink RX4 25 RX4 (TX4 4).2.1 (TX4 4).2.2.1 ∈ ic_tb := ic_in 103 (by decide +kernel)
theorem lkm_X4_96 : Cond.methodLink RX4 96 yX4_isFigure ∈ ic_tb := ic_in 392 (by decide +kernel)
theorem lkm_X4_47 : Cond.methodLink RX4 47 yX4_blame ∈ ic_tb := ic_in 380 (by decide +kernel)
theorem lkm_X4_33 : Cond.methodLink RX4 33 yX4_skipBlanks ∈ ic_tb := ic_in 368 (by decide +kernel)
def fX5_townOf (μ : ic_M) (r0 : Nat) (x1 : Int32) : Option (Int32) := Option.bind (if x1 < 0 then some (0 : Int32) else (if (6 : Int32) ≤ x1 then some (0 : Int32) else ic_ag μ (r0 + 4) 6 x1 (fun v22 => some v22))) (fun q21 => some q21)
def lpX5_bankOf_20 (μ : ic_M) (r0_ : Nat) (x2_ : Int32) : Nat → Int32 → Int32 → Option (Int32)
  | 0, _, _ => none
  | fu + 1, y3_, y4_ => (if (μ r0_ 9) ≤ y4_ then some y3_ else ic_lt ((y3_ ||| ((1 : Int32) <<< (((y4_ * (μ r0_ 8)) + x2_) &&& 31)))) (fun x22 => ic_lt (y4_ + (1 : Int32)) (fun x23 => lpX5_bankOf_20 μ r0_ x2_ fu x22 x23)))
def fX5_bankOf (μ : ic_M) (r0 : Nat) (x1 : Int32) : Option (Int32) := Option.bind (if x1 = 0 then some (0 : Int32) else some ((μ r0 8) - (1 : Int32))) (fun q21 => Option.bind (lpX5_bankOf_20 μ r0 q21 1000 (0 : Int32) (0 : Int32)) (fun q24 => some q24))
def fX1_ways (μ : ic_M) (r0 : Nat) (r1 : Nat) (x2 : Int32) : Option (Int32) := Option.bind (fX1_placeOf μ r0 x2) (fun v21 => (if v21 = (-2 : Int32) then some (0 : Int32) else Option.bind (if v21 = (-1 : Int32) then Option.bind (fX5_townOf μ r1 x2) (fun v24 => Option.bind (fX5_bankOf μ r1 v24) (fun v25 => some v25)) else Option.bind (fX5_nextTo μ r1 v21) (fun v23 => some v23)) (fun q22 => Option.bind (fX1_holes μ r0 r1) (fun v26 => some (q22 &&& (v26 ^^^ (-1 : Int32)))))))
def fX1_canGo (μ : ic_M) (r0 : Nat) (r1 : Nat) (x2 : Int32) (x3 : Int32) : Option (Int32) := (if x3 = (-1 : Int32) then Option.bind (fX5_townOf μ r1 x2) (fun v23 => Option.bind (fX5_bankOf μ r1 v23) (fun v24 => Option.bind (fX1_placeOf μ r0 x2) (fun v25 => Option.bind (fX8_isIn μ v24 v25) (fun v26 => ic_rz v26 (some v26))))) else Option.bind (fX1_ways μ r0 r1 x2) (fun v21 => Option.bind (fX8_isIn μ v21 x3) (fun v22 => ic_rz v22 (some v22))))
def lpX1_drownOn_2 (r0_ : Nat) (r1_ : Nat) (x2_ : Int32) : Nat → Int32 → ic_M → Option (ic_M)
  | 0, _, _ => none
  | fu + 1, y3_, μ => (if (μ r1_ 12) ≤ y3_ then some μ else Option.bind (fX1_placeOf μ r0_ y3_) (fun v21 => Option.bind (fX8_isIn μ x2_ v21) (fun v22 => Option.bind (if v22 = 0 then some μ else Option.bind (fX1_putPerson μ r0_ y3_ (-2 : Int32)) (fun m24 => some m24)) (fun q23 => ic_lt (y3_ + (1 : Int32)) (fun x25 => lpX1_drownOn_2 r0_ r1_ x2_ fu x25 q23)))))
def fX1_drownOn (μ : ic_M) (r0 : Nat) (r1 : Nat) (x2 : Int32) : Option (ic_M) := Option.bind (lpX1_drownOn_2 r0 r1 x2 1000 (0 : Int32) μ) (fun q26 => some q26)
def fJ6_bitCount_0f7a4 (μ : ic_M) (x0 : Int32) : Option (Int32) := ic_lt ((x0 - ((Int32.toUInt32 x0 >>> (Int32.toUInt32 (1 : Int32) &&& Int32.toUInt32 31)).toInt32 &&& (1431655765 : Int32)))) (fun x21 => ic_lt (((x21 &&& (858993459 : Int32)) + ((Int32.toUInt32 x21 >>> (Int32.toUInt32 (2 : Int32) &&& Int32.toUInt32 31)).toInt32 &&& (858993459 : Int32)))) (fun x22 => ic_lt (((x22 + (Int32.toUInt32 x22 >>> (Int32.toUInt32 (4 : Int32) &&& Int32.toUInt32 31)).toInt32) &&& (252645135 : Int32))) (fun x23 => ic_lt ((x23 + (Int32.toUInt32 x23 >>> (Int32.toUInt32 (8 : Int32) &&& Int32.toUInt32 31)).toInt32)) (fun x24 => ic_lt ((x24 + (Int32.toUInt32 x24 >>> (Int32.toUInt32 (16 : Int32) &&& Int32.toUInt32 31)).toInt32)) (fun x25 => some (x25 &&& (63 : Int32)))))))
def lpX1_breakOn_30 (r0_ : Nat) (r1_ : Nat) (x2_ : Int32) (x3_ : Int32) (x4_ : Int32) : Nat → Int32 → ic_M → Option (ic_M)
  | 0, _, _ => none
  | fu + 1, y5_, μ => (if (μ r1_ 11) ≤ y5_ then some μ else Option.bind (fX8_isIn μ x4_ y5_) (fun v22 => Option.bind (if v22 = 0 then some μ else Option.bind (fX1_setInches μ r0_ y5_ (0 : Int32)) (fun m24 => some m24)) (fun q23 => ic_lt (y5_ + (1 : Int32)) (fun x25 => lpX1_breakOn_30 r0_ r1_ x2_ x3_ x4_ fu x25 q23))))
def lpX1_breakOn_4 (r0_ : Nat) (r1_ : Nat) : Nat → Int32 → Int32 → ic_M → Option ((Int32 × ic_M) ⊕ (Int32 × ic_M))
  | 0, _, _, _ => none
  | fu + 1, y2_, y3_, μ => (if (μ r1_ 11) ≤ y3_ then some (.inl (y2_, μ)) else Option.bind (fX1_overloaded μ r0_ r1_) (fun v21 => (if v21 = 0 then some (.inl (y2_, μ)) else Option.bind (lpX1_breakOn_30 r0_ r1_ y2_ y3_ v21 1000 (0 : Int32) μ) (fun q26 => Option.bind (fX1_drownOn q26 r0_ r1_ v21) (fun m27 => Option.bind (fJ6_bitCount_0f7a4 m27 v21) (fun v28 => ic_lt ((y2_ + v28)) (fun x29 => ic_lt (y3_ + (1 : Int32)) (fun x30 => lpX1_breakOn_4 r0_ r1_ fu x29 x30 m27))))))))
def fX1_breakOn (μ : ic_M) (r0 : Nat) (r1 : Nat) : Option (Int32 × ic_M) := Option.bind (lpX1_breakOn_4 r0 r1 1000 (0 : Int32) (0 : Int32) μ) (fun q31 => Sum.elim (fun t32 => ic_pu t32.2 r0 5 ((t32.2 r0 5) + t32.1) (fun m33 => some (t32.1, m33))) some q31)
def fX1_claim (μ : ic_M) (r0 : Nat) (x1 : Int32) (x2 : Int32) : Option (ic_M) := Option.bind (if x2 ≤ 0 then some μ else (if (μ r0 4) = (-1 : Int32) then ic_pu μ r0 4 x1 (fun m22 => some m22) else some μ)) (fun q21 => some q21)
def fX1_go (μ : ic_M) (r0 : Nat) (r1 : Nat) (x2 : Int32) (x3 : Int32) : Option (Int32 × ic_M) := Option.bind (fX1_putPerson μ r0 x2 x3) (fun m21 => Option.bind (fX1_breakOn m21 r0 r1) (fun q22 => Option.bind (fX5_townOf q22.2 r1 x2) (fun v23 => Option.bind (fX1_claim q22.2 r0 v23 q22.1) (fun m24 => some (q22.1, m24)))))
def fX1_strewSalt (μ : ic_M) (r0 : Nat) (r1 : Nat) (x2 : Int32) (x3 : Int32) (x4 : Int32) : Option (Int32 × ic_M) := Option.bind (fX1_inchesOf μ r0 x3) (fun v21 => Option.bind (fX1_setInches μ r0 x3 (if (0 : Int32) < (v21 - x4) then (v21 - x4) else (0 : Int32))) (fun m22 => Option.bind (fX1_isHole m22 r0 x3) (fun v23 => Option.bind (if v23 = 0 then some ((0 : Int32), m22) else Option.bind (fX1_drownOn m22 r0 r1 ((1 : Int32) <<< (x3 &&& 31))) (fun m25 => ic_pu m25 r0 5 ((m25 r0 5) + (1 : Int32)) (fun m26 => some ((1 : Int32), m26)))) (fun q24 => Option.bind (fX1_breakOn q24.2 r0 r1) (fun q27 => ic_lt ((q24.1 + q27.1)) (fun x28 => Option.bind (fX1_claim q27.2 r0 x2 x28) (fun m29 => some (x28, m29))))))))
def fX5_coldOf (μ : ic_M) (r0 : Nat) (x1 : Int32) : Option (Int32) := Option.bind (fX5_listed μ (r0 + 3) (μ r0 7) x1 (10 : Int32)) (fun v21 => some (v21 - (10 : Int32)))
def fX5_currentAt (μ : ic_M) (r0 : Nat) (x1 : Int32) : Option (Int32) := Option.bind (if (1 : Int32) ≤ (μ r0 8) then (if (μ r0 8) = 0 then none else Option.bind (fX5_listed μ (r0 + 2) (μ r0 6) (x1 - x1 / (μ r0 8) * (μ r0 8)) (0 : Int32)) (fun v22 => some v22)) else some (0 : Int32)) (fun q21 => some q21)
def fX5_inchesAfter (μ : ic_M) (r0 : Nat) (x1 : Int32) (x2 : Int32) (x3 : Int32) (x4 : Int32) : Option (Int32) := (if x3 ≤ 0 then Option.bind (fX5_currentAt μ r0 x2) (fun v21 => some (if (0 : Int32) < ((x1 + x3) - v21) then ((x1 + x3) - v21) else (0 : Int32))) else Option.bind (fX5_currentAt μ r0 x2) (fun v22 => ic_lt ((if (0 : Int32) < (x3 - v22) then (x3 - v22) else (0 : Int32))) (fun x23 => Option.bind (if x4 = 0 then some x23 else (if (2 : Int32) = 0 then none else some (x23 / (2 : Int32)))) (fun q24 => some (if (x1 + q24) < (60 : Int32) then (x1 + q24) else (60 : Int32))))))
def lpX1_passNight_11 (r0_ : Nat) (r1_ : Nat) (x2_ : Int32) : Nat → Int32 → ic_M → Option (ic_M)
  | 0, _, _ => none
  | fu + 1, y3_, μ => (if (μ r1_ 11) ≤ y3_ then some μ else Option.bind (fX1_inchesOf μ r0_ y3_) (fun v22 => Option.bind (fX1_isSnowy μ r0_ y3_) (fun v23 => Option.bind (fX5_inchesAfter μ r1_ v22 y3_ x2_ v23) (fun v24 => Option.bind (fX1_setInches μ r0_ y3_ v24) (fun m25 => ic_lt (y3_ + (1 : Int32)) (fun x26 => lpX1_passNight_11 r0_ r1_ x2_ fu x26 m25))))))
def fX1_passNight (μ : ic_M) (r0 : Nat) (r1 : Nat) : Option (ic_M) := Option.bind (fX5_coldOf μ r1 (μ r0 3)) (fun v21 => Option.bind (lpX1_passNight_11 r0 r1 v21 1000 (0 : Int32) μ) (fun q27 => Option.bind (if 0 < v21 then some q27 else ic_pu q27 r0 2 (0 : Int32) (fun m29 => some m29)) (fun q28 => ic_pu q28 r0 3 ((q28 r0 3) + (1 : Int32)) (fun m30 => Option.bind (fX1_breakOn m30 r0 r1) (fun q31 => Option.bind (fX1_holes q31.2 r0 r1) (fun v32 => Option.bind (fX1_drownOn q31.2 r0 r1 v32) (fun m33 => some m33)))))))
def lpX1_comeSpring_7 (r0_ : Nat) : Nat → Int32 → ic_M → Option (ic_M)
  | 0, _, _ => none
  | fu + 1, y1_, μ => (if (6 : Int32) ≤ y1_ then some μ else ic_ag μ (r0_ + 2) 6 y1_ (fun v22 => Option.bind (if v22 = (-2 : Int32) then some μ else ic_as μ (r0_ + 2) 6 y1_ (-1 : Int32) (fun m24 => some m24)) (fun q23 => ic_lt (y1_ + (1 : Int32)) (fun x25 => lpX1_comeSpring_7 r0_ fu x25 q23))))
def fX1_comeSpring (μ : ic_M) (r0 : Nat) : Option (ic_M) := ic_pu μ r0 4 (-1 : Int32) (fun m21 => Option.bind (lpX1_comeSpring_7 r0 1000 (0 : Int32) m21) (fun q26 => some q26))
def fX3_stateAt (μ : ic_M) (x1 : Int32) : Option (Nat) := Option.bind (if x1 < 0 then some 0 else (if (16 : Int32) ≤ x1 then some 0 else ic_ax 16 x1 (some (9 + 3 * Int32.toNatClampNeg x1)))) (fun q21 => some q21)
def fX3_remember (μ : ic_M) (r1 : Nat) : Option (ic_M) := Option.bind (fX3_stateAt μ (μ 7 1)) (fun v21 => Option.bind (if v21 = 0 then some μ else ic_ck v21 1 (Option.bind (fX1_copyFrom μ v21 r1) (fun m24 => Option.bind (if (m24 7 1) = ((16 : Int32) - (1 : Int32)) then some (0 : Int32) else some ((m24 7 1) + (1 : Int32))) (fun q25 => ic_pu m24 7 1 q25 (fun m26 => ic_pu m26 7 2 (if (16 : Int32) < ((m26 7 2) + (1 : Int32)) then (16 : Int32) else ((m26 7 2) + (1 : Int32))) (fun m27 => some m27)))))) (fun q22 => some q22))
def fX3_restore (μ : ic_M) (r1 : Nat) : Option (Int32 × ic_M) := Option.bind (if (μ 7 1) = 0 then some ((16 : Int32) - (1 : Int32)) else some ((μ 7 1) - (1 : Int32))) (fun q21 => Option.bind (fX3_stateAt μ q21) (fun v22 => (if (μ 7 2) < (1 : Int32) then ic_rz (0 : Int32) (some ((0 : Int32), μ)) else (if v22 = 0 then ic_rz (0 : Int32) (some ((0 : Int32), μ)) else ic_ck v22 1 (Option.bind (fX1_copyFrom μ r1 v22) (fun m24 => ic_pu m24 7 1 q21 (fun m25 => ic_pu m25 7 2 ((m25 7 2) - (1 : Int32)) (fun m26 => ic_rz (1 : Int32) (some ((1 : Int32), m26))))))))))
def fX4_add (μ : ic_M) (x1 : Int32) : Option (Int32 × ic_M) := (if (μ 2 2) < 0 then ic_rz (0 : Int32) (some ((0 : Int32), μ)) else (if (μ 2 2) < (240 : Int32) then ic_as μ 3 240 (μ 2 2) x1 (fun m21 => ic_pu m21 2 2 ((m21 2 2) + (1 : Int32)) (fun m22 => ic_rz (1 : Int32) (some ((1 : Int32), m22)))) else ic_rz (0 : Int32) (some ((0 : Int32), μ))))
def fX5_clear (μ : ic_M) (r0 : Nat) : Option (ic_M) := ic_pu μ r0 8 (0 : Int32) (fun m21 => ic_pu m21 r0 9 (0 : Int32) (fun m22 => ic_pu m22 r0 10 (0 : Int32) (fun m23 => ic_pu m23 r0 11 (0 : Int32) (fun m24 => ic_pu m24 r0 12 (0 : Int32) (fun m25 => ic_pu m25 r0 5 (0 : Int32) (fun m26 => ic_pu m26 r0 6 (0 : Int32) (fun m27 => ic_pu m27 r0 7 (0 : Int32) (fun m28 => some m28))))))))
def fX4_sign (μ : ic_M) : Option (Int32) := Option.bind (if (μ 2 1) < 0 then some (-1 : Int32) else (if (μ 2 2) ≤ (μ 2 1) then some (-1 : Int32) else (if (240 : Int32) ≤ (μ 2 1) then some (-1 : Int32) else ic_ag μ 3 240 (μ 2 1) (fun v22 => some v22)))) (fun q21 => some q21)
def lpX4_skipBlanks_0  : Nat → ic_M → Option (ic_M)
  | 0, _ => none
  | fu + 1, μ => (if (μ 2 2) ≤ (μ 2 1) then some μ else Option.bind (fX4_sign μ) (fun v21 => (if v21 = (32 : Int32) then ic_pu μ 2 1 ((μ 2 1) + (1 : Int32)) (fun m22 => lpX4_skipBlanks_0  fu m22) else some μ)))
def fX4_skipBlanks (μ : ic_M) : Option (ic_M) := Option.bind (lpX4_skipBlanks_0  1000 μ) (fun q23 => some q23)
def fX4_blame (μ : ic_M) (x1 : Int32) (x2 : Int32) : Option (ic_M) := Option.bind (if (μ 2 3) = 0 then ic_pu μ 2 3 x1 (fun m22 => ic_pu m22 2 4 x2 (fun m23 => some m23)) else some μ) (fun q21 => some q21)
def fX4_isFigure (μ : ic_M) (x0 : Int32) : Option (Int32) := Option.bind (if x0 < (48 : Int32) then some (0 : Int32) else (if (57 : Int32) < x0 then some (0 : Int32) else some (1 : Int32))) (fun q21 => ic_rz q21 (some q21))
def lpX4_readNumber_21 (x1_ : Int32) (x2_ : Int32) (x3_ : Int32) : Nat → Int32 → ic_M → Option (Int32 × ic_M)
  | 0, _, _ => none
  | fu + 1, y4_, μ => (if (μ 2 2) ≤ (μ 2 1) then some (y4_, μ) else Option.bind (fX4_sign μ) (fun v23 => Option.bind (fX4_isFigure μ v23) (fun v24 => (if v24 = 0 then some (y4_, μ) else Option.bind (if (3 : Int32) ≤ ((μ 2 1) - x3_) then some y4_ else Option.bind (fX4_sign μ) (fun v26 => some (((y4_ * (10 : Int32)) + v26) - (48 : Int32)))) (fun q25 => ic_pu μ 2 1 ((μ 2 1) + (1 : Int32)) (fun m27 => lpX4_readNumber_21 x1_ x2_ x3_ fu q25 m27))))))
def fX4_readNumber (μ : ic_M) (x1 : Int32) (x2 : Int32) : Option (Int32 × ic_M) := (if (μ 2 3) = 0 then Option.bind (fX4_skipBlanks μ) (fun m21 => ic_lt ((m21 2 1)) (fun x22 => Option.bind (lpX4_readNumber_21 x1 x2 x22 1000 (0 : Int32) m21) (fun q28 => Option.bind (if (q28.2 2 1) = x22 then Option.bind (fX4_blame q28.2 (1 : Int32) (q28.2 2 1)) (fun m33 => some m33) else (if (3 : Int32) < ((q28.2 2 1) - x22) then Option.bind (fX4_blame q28.2 (2 : Int32) x22) (fun m30 => some m30) else (if q28.1 < x1 then Option.bind (fX4_blame q28.2 (2 : Int32) x22) (fun m31 => some m31) else (if q28.1 ≤ x2 then some q28.2 else Option.bind (fX4_blame q28.2 (2 : Int32) x22) (fun m32 => some m32))))) (fun q29 => some (q28.1, q29))))) else some ((0 : Int32), μ))
set_option maxRecDepth 100000 in
set_option maxHeartbeats 4000000 in
theorem ct_X5_townOf (l : Launch) (κ : ic_K) (sw : Nat) (μ : ic_M) (r0 : Nat) (h0 : ic_isO 106 r0 5) (x1 : Int32) {R : Int32} (hf : fX5_townOf μ r0 x1 = some R) : ic_C l κ MX5_townOf [ic_rv κ.1 r0, .int x1] 106 (ic_rs sw) μ (some (.int R)) 106 (ic_rs sw) μ := by
  refine ic_C.of (L := [(0, ic_rv κ.1 r0), (1, .int x1)]) ⟨ic_cat _ _, rfl, trivial⟩ ⟨by decide +kernel, Nat.le_of_ble_eq_true rfl⟩ rfl ?_
  unfold fX5_townOf at hf
  refine iw_iload_n (i := 1) (pc' := 1) 1 rfl (by decide +kernel) ?_
  obtain ⟨q21, hf, hgq21⟩ := ic_bd hf
  have hjq21 : ic_W l κ MX5_townOf ic_X0 (ic_Z κ MX5_townOf (some (.int R)) 106 (ic_rs sw) μ) 23 [] [.int q21] 106 (ic_rs sw) μ 0 0 := by
    have hf := hgq21
    exact iw_ireturn (Option.some.inj hf) rfl rfl (by decide +kernel)
  refine iw_if_lt (off := 21) (tg := 22) (pc' := 4) hf (by decide +kernel) (fun hf => ?_) (fun hf => ?_)
  · refine iw_iconst (i := 0) (v := (0 : Int32)) (pc' := 23) (by decide +kernel) ?_
    obtain rfl := Option.some.inj hf
    exact iw_sub [] rfl hjq21
  · refine iw_iload_n (i := 1) (pc' := 5) 1 rfl (by decide +kernel) ?_
    refine iw_aload_n (i := 0) (pc' := 6) 0 rfl (by decide +kernel) ?_
    refine iw_getr (pc' := 9) (q := (r0 + 4)) ic_fk5 h0 (ic_rs_o h0 (by decide)) lkf_X5_21 (by decide +kernel) ?_
    refine iw_alen (pc' := 10) (v := (6 : Int32)) (ic_riv4 h0) rfl (by decide +kernel) ?_
    refine iw_icmp_ge (off := 12) (tg := 22) (pc' := 13) hf (by decide +kernel) (fun hf => ?_) (fun hf => ?_)
    · refine iw_iconst (i := 0) (v := (0 : Int32)) (pc' := 23) (by decide +kernel) ?_
      obtain rfl := Option.some.inj hf
      exact iw_sub [] rfl hjq21
    · refine iw_aload_n (i := 0) (pc' := 14) 0 rfl (by decide +kernel) ?_
      refine iw_getr (pc' := 17) (q := (r0 + 4)) ic_fk5 h0 (ic_rs_o h0 (by decide)) lkf_X5_21 (by decide +kernel) ?_
      refine iw_iload_n (i := 1) (pc' := 18) 1 rfl (by decide +kernel) ?_
      refine iw_iald (pc' := 19) hf (fun _ => (ic_riv4 h0)) (by decide +kernel) (fun v22 hf => ?_)
      refine iw_goto (off := 4) (pc' := 23) (by decide +kernel) ?_
      obtain rfl := Option.some.inj hf
      exact iw_sub [] rfl hjq21
set_option maxRecDepth 100000 in
set_option maxHeartbeats 4000000 in
theorem lpX5_bankOf_20_ok (l : Launch) (κ : ic_K) (sw : Nat) (μ : ic_M) (r0_ : Nat) (x2_ : Int32) (h0_ : ic_isO 106 r0_ 5) {Z : State → List Frame → Array Value → State → Prop} {R : Int32} (hk : ic_W l κ MX5_bankOf ic_X0 Z 49 [(3, .int R)] [] 106 (ic_rs sw) μ 0 0) : ∀ (fu : Nat) (y3_ : Int32) (y4_ : Int32), lpX5_bankOf_20 μ r0_ x2_ fu y3_ y4_ = some R → ic_W l κ MX5_bankOf ic_X0 Z 20 [(0, ic_rv κ.1 r0_), (2, .int x2_), (3, .int y3_), (4, .int y4_)] [] 106 (ic_rs sw) μ 0 0 := by
  intro fu
  induction fu with
  | zero =>
    intro y3_ y4_ hf
    exact absurd hf (by simp [lpX5_bankOf_20])
  | succ fu ih =>
    intro y3_ y4_ hf
    rw [lpX5_bankOf_20] at hf
    refine iw_iload (i := 4) (pc' := 22) 3 rfl (by decide +kernel) ?_
    refine iw_aload_n (i := 0) (pc' := 23) 0 rfl (by decide +kernel) ?_
    refine iw_geti (pc' := 26) ic_fk5 h0_ lkf_X5_31 (by decide +kernel) ?_
    refine iw_icmp_ge (off := 23) (tg := 49) (pc' := 29) hf (by decide +kernel) (fun hf => ?_) (fun hf => ?_)
    · obtain rfl := Option.some.inj hf
      exact iw_sub [2] rfl hk
    · refine iw_iload_n (i := 3) (pc' := 30) 2 rfl (by decide +kernel) ?_
      refine iw_iconst (i := 1) (v := (1 : Int32)) (pc' := 31) (by decide +kernel) ?_
      refine iw_iload (i := 4) (pc' := 33) 3 rfl (by decide +kernel) ?_
      refine iw_aload_n (i := 0) (pc' := 34) 0 rfl (by decide +kernel) ?_
      refine iw_geti (pc' := 37) ic_fk5 h0_ lkf_X5_27 (by decide +kernel) ?_
      refine iw_imul (pc' := 38) (by decide +kernel) ?_
      refine iw_iload_n (i := 2) (pc' := 39) 1 rfl (by decide +kernel) ?_
      refine iw_iadd (pc' := 40) (by decide +kernel) ?_
      refine iw_ishl (pc' := 41) (by decide +kernel) ?_
      refine iw_ior (pc' := 42) (by decide +kernel) ?_
      refine iw_istore_n (i := 3) (pc' := 43) (L1 := fun x22 => [(0, ic_rv κ.1 r0_), (2, .int x2_), (3, .int x22), (4, .int y4_)]) hf (fun _ => rfl) (by decide +kernel) (fun x22 hf => ?_)
      refine iw_iinc (i := 4) (d := 1) (pc' := 46) (v := (1 : Int32)) (L1 := fun x23 => [(0, ic_rv κ.1 r0_), (2, .int x2_), (3, .int x22), (4, .int x23)]) hf 3 rfl (fun _ => rfl) (by decide +kernel) (fun x23 hf => ?_)
      refine iw_goto (off := (-26)) (pc' := 20) (by decide +kernel) ?_
      exact iw_sub [0, 1, 2, 3] rfl (ih _ _ hf)
set_option maxRecDepth 100000 in
set_option maxHeartbeats 4000000 in
theorem ct_X5_bankOf (l : Launch) (κ : ic_K) (sw : Nat) (μ : ic_M) (r0 : Nat) (h0 : ic_isO 106 r0 5) (x1 : Int32) {R : Int32} (hf : fX5_bankOf μ r0 x1 = some R) : ic_C l κ MX5_bankOf [ic_rv κ.1 r0, .int x1] 106 (ic_rs sw) μ (some (.int R)) 106 (ic_rs sw) μ := by
  refine ic_C.of (L := [(0, ic_rv κ.1 r0), (1, .int x1)]) ⟨ic_cat _ _, rfl, trivial⟩ ⟨by decide +kernel, Nat.le_of_ble_eq_true rfl⟩ rfl ?_
  unfold fX5_bankOf at hf
  refine iw_iload_n (i := 1) (pc' := 1) 1 rfl (by decide +kernel) ?_
  obtain ⟨q21, hf, hgq21⟩ := ic_bd hf
  have hjq21 : ic_W l κ MX5_bankOf ic_X0 (ic_Z κ MX5_bankOf (some (.int R)) 106 (ic_rs sw) μ) 14 [(0, ic_rv κ.1 r0)] [.int q21] 106 (ic_rs sw) μ 0 0 := by
    have hf := hgq21
    refine iw_istore_n0 (i := 2) (pc' := 15) (L' := [(0, ic_rv κ.1 r0), (2, .int q21)]) rfl (by decide +kernel) ?_
    refine iw_iconst (i := 0) (v := (0 : Int32)) (pc' := 16) (by decide +kernel) ?_
    refine iw_istore_n0 (i := 3) (pc' := 17) (L' := [(0, ic_rv κ.1 r0), (2, .int q21), (3, .int (0 : Int32))]) rfl (by decide +kernel) ?_
    refine iw_iconst (i := 0) (v := (0 : Int32)) (pc' := 18) (by decide +kernel) ?_
    refine iw_istore0 (i := 4) (pc' := 20) (L' := [(0, ic_rv κ.1 r0), (2, .int q21), (3, .int (0 : Int32)), (4, .int (0 : Int32))]) rfl (by decide +kernel) ?_
    obtain ⟨q24, hf, hgq24⟩ := ic_bd hf
    have hjq24 : ic_W l κ MX5_bankOf ic_X0 (ic_Z κ MX5_bankOf (some (.int R)) 106 (ic_rs sw) μ) 49 [(3, .int q24)] [] 106 (ic_rs sw) μ 0 0 := by
      have hf := hgq24
      refine iw_iload_n (i := 3) (pc' := 50) 0 rfl (by decide +kernel) ?_
      exact iw_ireturn (Option.some.inj hf) rfl rfl (by decide +kernel)
    exact iw_sub [0, 1, 2, 3] rfl (lpX5_bankOf_20_ok l κ sw μ r0 q21 h0 hjq24 1000 (0 : Int32) (0 : Int32) hf)
  refine iw_if_ne (off := 7) (tg := 8) (pc' := 4) hf (by decide +kernel) (fun hf => ?_) (fun hf => ?_)
  · refine iw_aload_n (i := 0) (pc' := 9) 0 rfl (by decide +kernel) ?_
    refine iw_geti (pc' := 12) ic_fk5 h0 lkf_X5_27 (by decide +kernel) ?_
    refine iw_iconst (i := 1) (v := (1 : Int32)) (pc' := 13) (by decide +kernel) ?_
    refine iw_isub (pc' := 14) (by decide +kernel) ?_
    obtain rfl := Option.some.inj hf
    exact iw_sub [0] rfl hjq21
  · refine iw_iconst (i := 0) (v := (0 : Int32)) (pc' := 5) (by decide +kernel) ?_
    refine iw_goto (off := 9) (pc' := 14) (by decide +kernel) ?_
    obtain rfl := Option.some.inj hf
    exact iw_sub [0] rfl hjq21
set_option maxRecDepth 100000 in
set_option maxHeartbeats 4000000 in
theorem ct_X1_ways (l : Launch) (κ : ic_K) (sw : Nat) (μ : ic_M) (r0 : Nat) (h0 : ic_isO 106 r0 1) (r1 : Nat) (h1 : ic_isO 106 r1 5) (x2 : Int32) {R : Int32} (hf : fX1_ways μ r0 r1 x2 = some R) : ic_C l κ MX1_ways [ic_rv κ.1 r0, ic_rv κ.1 r1, .int x2] 106 (ic_rs sw) μ (some (.int R)) 106 (ic_rs sw) μ := by
  refine ic_C.of (L := [(0, ic_rv κ.1 r0), (1, ic_rv κ.1 r1), (2, .int x2)]) ⟨ic_cat _ _, ic_cat _ _, rfl, trivial⟩ ⟨by decide +kernel, Nat.le_of_ble_eq_true rfl⟩ rfl ?_
  unfold fX1_ways at hf
  refine iw_aload_n (i := 0) (pc' := 1) 0 rfl (by decide +kernel) ?_
  refine iw_iload_n (i := 2) (pc' := 2) 2 rfl (by decide +kernel) ?_
  obtain ⟨v21, hc, hf⟩ := ic_bd hf
  refine iw_callV (pc' := 5) (S0 := []) (S1 := [.int v21]) (c1 := 0) (s1 := 0) (k := 1) (ct_X1_placeOf l κ sw μ r0 h0 x2 hc) h0 ⟨rfl, rfl⟩ mv_X1_placeOf lkm_X1_49 ⟨rfl, rfl⟩ (ic_sum8 trivial (Nat.le_of_ble_eq_true rfl)) (by unfold ic_rm; decide +kernel) ⟨rfl, rfl, rfl⟩ ⟨Nat.le_of_ble_eq_true rfl, Nat.le_of_ble_eq_true rfl⟩ ?_
  refine iw_istore_n0 (i := 3) (pc' := 6) (L' := [(0, ic_rv κ.1 r0), (1, ic_rv κ.1 r1), (2, .int x2), (3, .int v21)]) rfl (by decide +kernel) ?_
  refine iw_iload_n (i := 3) (pc' := 7) 3 rfl (by decide +kernel) ?_
  refine iw_bipush (i := (-2)) (v := (-2 : Int32)) (pc' := 9) (by decide +kernel) ?_
  refine iw_icmp_ne (off := 5) (tg := 14) (pc' := 12) hf (by decide +kernel) (fun hf => ?_) (fun hf => ?_)
  · refine iw_iload_n (i := 3) (pc' := 15) 3 rfl (by decide +kernel) ?_
    refine iw_iconst (i := (-1)) (v := (-1 : Int32)) (pc' := 16) (by decide +kernel) ?_
    obtain ⟨q22, hf, hgq22⟩ := ic_bd hf
    have hjq22 : ic_W l κ MX1_ways ic_X0 (ic_Z κ MX1_ways (some (.int R)) 106 (ic_rs sw) μ) 36 [(0, ic_rv κ.1 r0), (1, ic_rv κ.1 r1)] [.int q22] 106 (ic_rs sw) μ 0 0 := by
      have hf := hgq22
      refine iw_istore0 (i := 4) (pc' := 38) (L' := [(0, ic_rv κ.1 r0), (1, ic_rv κ.1 r1), (4, .int q22)]) rfl (by decide +kernel) ?_
      refine iw_iload (i := 4) (pc' := 40) 2 rfl (by decide +kernel) ?_
      refine iw_aload_n (i := 0) (pc' := 41) 0 rfl (by decide +kernel) ?_
      refine iw_aload_n (i := 1) (pc' := 42) 1 rfl (by decide +kernel) ?_
      obtain ⟨v26, hc, hf⟩ := ic_bd hf
      refine iw_callV (pc' := 45) (S0 := [.int q22]) (S1 := [.int v26, .int q22]) (c1 := 0) (s1 := 0) (k := 1) (ct_X1_holes l κ sw μ r0 h0 r1 h1 hc) h0 ⟨rfl, rfl⟩ mv_X1_holes lkm_X1_82 ⟨rfl, rfl⟩ (ic_sum8 ⟨rfl, trivial⟩ (Nat.le_of_ble_eq_true rfl)) (by unfold ic_rm; decide +kernel) ⟨rfl, rfl, rfl⟩ ⟨Nat.le_of_ble_eq_true rfl, Nat.le_of_ble_eq_true rfl⟩ ?_
      refine iw_iconst (i := (-1)) (v := (-1 : Int32)) (pc' := 46) (by decide +kernel) ?_
      refine iw_ixor (pc' := 47) (by decide +kernel) ?_
      refine iw_iand (pc' := 48) (by decide +kernel) ?_
      exact iw_ireturn (Option.some.inj hf) rfl rfl (by decide +kernel)
    refine iw_icmp_ne (off := 15) (tg := 31) (pc' := 19) hf (by decide +kernel) (fun hf => ?_) (fun hf => ?_)
    · refine iw_aload_n (i := 1) (pc' := 32) 1 rfl (by decide +kernel) ?_
      refine iw_iload_n (i := 3) (pc' := 33) 3 rfl (by decide +kernel) ?_
      obtain ⟨v23, hc, hf⟩ := ic_bd hf
      refine iw_callV (pc' := 36) (S0 := []) (S1 := [.int v23]) (c1 := 0) (s1 := 0) (k := 1) (ct_X5_nextTo l κ sw μ r1 h1 v21 hc) h1 ⟨rfl, rfl⟩ mv_X5_nextTo lkm_X1_59 ⟨rfl, rfl⟩ (ic_sum8 trivial (Nat.le_of_ble_eq_true rfl)) (by unfold ic_rm; decide +kernel) ⟨rfl, rfl, rfl⟩ ⟨Nat.le_of_ble_eq_true rfl, Nat.le_of_ble_eq_true rfl⟩ ?_
      obtain rfl := Option.some.inj hf
      exact iw_sub [0, 1] rfl hjq22
    · refine iw_aload_n (i := 1) (pc' := 20) 1 rfl (by decide +kernel) ?_
      refine iw_aload_n (i := 1) (pc' := 21) 1 rfl (by decide +kernel) ?_
      refine iw_iload_n (i := 2) (pc' := 22) 2 rfl (by decide +kernel) ?_
      obtain ⟨v24, hc, hf⟩ := ic_bd hf
      refine iw_callV (pc' := 25) (S0 := [ic_rv κ.1 r1]) (S1 := [.int v24, ic_rv κ.1 r1]) (c1 := 0) (s1 := 0) (k := 1) (ct_X5_townOf l κ sw μ r1 h1 x2 hc) h1 ⟨rfl, rfl⟩ mv_X5_townOf lkm_X1_95 ⟨rfl, rfl⟩ (ic_sum8 ⟨ic_cat _ _, trivial⟩ (Nat.le_of_ble_eq_true rfl)) (by unfold ic_rm; decide +kernel) ⟨rfl, rfl, rfl⟩ ⟨Nat.le_of_ble_eq_true rfl, Nat.le_of_ble_eq_true rfl⟩ ?_
      obtain ⟨v25, hc, hf⟩ := ic_bd hf
      refine iw_callV (pc' := 28) (S0 := []) (S1 := [.int v25]) (c1 := 0) (s1 := 0) (k := 1) (ct_X5_bankOf l κ sw μ r1 h1 v24 hc) h1 ⟨rfl, rfl⟩ mv_X5_bankOf lkm_X1_98 ⟨rfl, rfl⟩ (ic_sum8 trivial (Nat.le_of_ble_eq_true rfl)) (by unfold ic_rm; decide +kernel) ⟨rfl, rfl, rfl⟩ ⟨Nat.le_of_ble_eq_true rfl, Nat.le_of_ble_eq_true rfl⟩ ?_
      refine iw_goto (off := 8) (pc' := 36) (by decide +kernel) ?_
      obtain rfl := Option.some.inj hf
      exact iw_sub [0, 1] rfl hjq22
  · refine iw_iconst (i := 0) (v := (0 : Int32)) (pc' := 13) (by decide +kernel) ?_
    exact iw_ireturn (Option.some.inj hf) rfl rfl (by decide +kernel)
set_option maxRecDepth 100000 in
set_option maxHeartbeats 4000000 in
theorem ct_X1_canGo (l : Launch) (κ : ic_K) (sw : Nat) (μ : ic_M) (r0 : Nat) (h0 : ic_isO 106 r0 1) (r1 : Nat) (h1 : ic_isO 106 r1 5) (x2 : Int32) (x3 : Int32) {R : Int32} (hf : fX1_canGo μ r0 r1 x2 x3 = some R) : ic_C l κ MX1_canGo [ic_rv κ.1 r0, ic_rv κ.1 r1, .int x2, .int x3] 106 (ic_rs sw) μ (some (.int R)) 106 (ic_rs sw) μ := by
  refine ic_C.of (L := [(0, ic_rv κ.1 r0), (1, ic_rv κ.1 r1), (2, .int x2), (3, .int x3)]) ⟨ic_cat _ _, ic_cat _ _, rfl, rfl, trivial⟩ ⟨by decide +kernel, Nat.le_of_ble_eq_true rfl⟩ rfl ?_
  unfold fX1_canGo at hf
  refine iw_iload_n (i := 3) (pc' := 1) 3 rfl (by decide +kernel) ?_
  refine iw_iconst (i := (-1)) (v := (-1 : Int32)) (pc' := 2) (by decide +kernel) ?_
  refine iw_icmp_ne (off := 21) (tg := 23) (pc' := 5) hf (by decide +kernel) (fun hf => ?_) (fun hf => ?_)
  · refine iw_aload_n (i := 0) (pc' := 24) 0 rfl (by decide +kernel) ?_
    refine iw_aload_n (i := 1) (pc' := 25) 1 rfl (by decide +kernel) ?_
    refine iw_iload_n (i := 2) (pc' := 26) 2 rfl (by decide +kernel) ?_
    obtain ⟨v21, hc, hf⟩ := ic_bd hf
    refine iw_callV (pc' := 29) (S0 := []) (S1 := [.int v21]) (c1 := 0) (s1 := 0) (k := 2) (ct_X1_ways l κ sw μ r0 h0 r1 h1 x2 hc) h0 ⟨rfl, rfl⟩ mv_X1_ways lkm_X1_101 ⟨rfl, rfl⟩ (ic_sum8 trivial (Nat.le_of_ble_eq_true rfl)) (by unfold ic_rm; decide +kernel) ⟨rfl, rfl, rfl⟩ ⟨Nat.le_of_ble_eq_true rfl, Nat.le_of_ble_eq_true rfl⟩ ?_
    refine iw_iload_n (i := 3) (pc' := 30) 3 rfl (by decide +kernel) ?_
    obtain ⟨v22, hc, hf⟩ := ic_bd hf
    refine iw_callSN (pc' := 33) (S0 := []) (S1 := [.int v22]) (c1 := 0) (s1 := 0) (k := 2) (ct_X8_isIn l κ sw μ v21 x3 hc) ms_X8_isIn lkm_X1_52 ⟨rfl, rfl⟩ (ic_sum8 trivial (Nat.le_of_ble_eq_true rfl)) (by unfold ic_rm; decide +kernel) ⟨rfl, rfl, rfl⟩ ⟨Nat.le_of_ble_eq_true rfl, Nat.le_of_ble_eq_true rfl⟩ ?_
    obtain ⟨hb, hf⟩ := ic_rz_of hf
    exact iw_zreturn hb (Option.some.inj hf) rfl rfl (by decide +kernel)
  · refine iw_aload_n (i := 1) (pc' := 6) 1 rfl (by decide +kernel) ?_
    refine iw_aload_n (i := 1) (pc' := 7) 1 rfl (by decide +kernel) ?_
    refine iw_iload_n (i := 2) (pc' := 8) 2 rfl (by decide +kernel) ?_
    obtain ⟨v23, hc, hf⟩ := ic_bd hf
    refine iw_callV (pc' := 11) (S0 := [ic_rv κ.1 r1]) (S1 := [.int v23, ic_rv κ.1 r1]) (c1 := 0) (s1 := 0) (k := 1) (ct_X5_townOf l κ sw μ r1 h1 x2 hc) h1 ⟨rfl, rfl⟩ mv_X5_townOf lkm_X1_95 ⟨rfl, rfl⟩ (ic_sum8 ⟨ic_cat _ _, trivial⟩ (Nat.le_of_ble_eq_true rfl)) (by unfold ic_rm; decide +kernel) ⟨rfl, rfl, rfl⟩ ⟨Nat.le_of_ble_eq_true rfl, Nat.le_of_ble_eq_true rfl⟩ ?_
    obtain ⟨v24, hc, hf⟩ := ic_bd hf
    refine iw_callV (pc' := 14) (S0 := []) (S1 := [.int v24]) (c1 := 0) (s1 := 0) (k := 1) (ct_X5_bankOf l κ sw μ r1 h1 v23 hc) h1 ⟨rfl, rfl⟩ mv_X5_bankOf lkm_X1_98 ⟨rfl, rfl⟩ (ic_sum8 trivial (Nat.le_of_ble_eq_true rfl)) (by unfold ic_rm; decide +kernel) ⟨rfl, rfl, rfl⟩ ⟨Nat.le_of_ble_eq_true rfl, Nat.le_of_ble_eq_true rfl⟩ ?_
    refine iw_aload_n (i := 0) (pc' := 15) 0 rfl (by decide +kernel) ?_
    refine iw_iload_n (i := 2) (pc' := 16) 2 rfl (by decide +kernel) ?_
    obtain ⟨v25, hc, hf⟩ := ic_bd hf
    refine iw_callV (pc' := 19) (S0 := [.int v24]) (S1 := [.int v25, .int v24]) (c1 := 0) (s1 := 0) (k := 1) (ct_X1_placeOf l κ sw μ r0 h0 x2 hc) h0 ⟨rfl, rfl⟩ mv_X1_placeOf lkm_X1_49 ⟨rfl, rfl⟩ (ic_sum8 ⟨rfl, trivial⟩ (Nat.le_of_ble_eq_true rfl)) (by unfold ic_rm; decide +kernel) ⟨rfl, rfl, rfl⟩ ⟨Nat.le_of_ble_eq_true rfl, Nat.le_of_ble_eq_true rfl⟩ ?_
    obtain ⟨v26, hc, hf⟩ := ic_bd hf
    refine iw_callSN (pc' := 22) (S0 := []) (S1 := [.int v26]) (c1 := 0) (s1 := 0) (k := 2) (ct_X8_isIn l κ sw μ v24 v25 hc) ms_X8_isIn lkm_X1_52 ⟨rfl, rfl⟩ (ic_sum8 trivial (Nat.le_of_ble_eq_true rfl)) (by unfold ic_rm; decide +kernel) ⟨rfl, rfl, rfl⟩ ⟨Nat.le_of_ble_eq_true rfl, Nat.le_of_ble_eq_true rfl⟩ ?_
    obtain ⟨hb, hf⟩ := ic_rz_of hf
    exact iw_zreturn hb (Option.some.inj hf) rfl rfl (by decide +kernel)
set_option maxRecDepth 100000 in
set_option maxHeartbeats 4000000 in
theorem lpX1_drownOn_2_ok (l : Launch) (κ : ic_K) (sw : Nat) (r0_ : Nat) (r1_ : Nat) (x2_ : Int32) (h0_ : ic_isO 106 r0_ 1) (h1_ : ic_isO 106 r1_ 5) {Z : State → List Frame → Array Value → State → Prop} {R : ic_M} (hk : ic_W l κ MX1_drownOn ic_X0 Z 35 [] [] 106 (ic_rs sw) R 0 0) : ∀ (fu : Nat) (y3_ : Int32) (μ : ic_M), lpX1_drownOn_2 r0_ r1_ x2_ fu y3_ μ = some R → ic_W l κ MX1_drownOn ic_X0 Z 2 [(0, ic_rv κ.1 r0_), (1, ic_rv κ.1 r1_), (2, .int x2_), (3, .int y3_)] [] 106 (ic_rs sw) μ 0 0 := by
  intro fu
  induction fu with
  | zero =>
    intro y3_ μ hf
    exact absurd hf (by simp [lpX1_drownOn_2])
  | succ fu ih =>
    intro y3_ μ hf
    rw [lpX1_drownOn_2] at hf
    refine iw_iload_n (i := 3) (pc' := 3) 3 rfl (by decide +kernel) ?_
    refine iw_aload_n (i := 1) (pc' := 4) 1 rfl (by decide +kernel) ?_
    refine iw_geti (pc' := 7) ic_fk5 h1_ lkf_X1_62 (by decide +kernel) ?_
    refine iw_icmp_ge (off := 28) (tg := 35) (pc' := 10) hf (by decide +kernel) (fun hf => ?_) (fun hf => ?_)
    · obtain rfl := Option.some.inj hf
      exact iw_sub [] rfl hk
    · refine iw_iload_n (i := 2) (pc' := 11) 2 rfl (by decide +kernel) ?_
      refine iw_aload_n (i := 0) (pc' := 12) 0 rfl (by decide +kernel) ?_
      refine iw_iload_n (i := 3) (pc' := 13) 3 rfl (by decide +kernel) ?_
      obtain ⟨v21, hc, hf⟩ := ic_bd hf
      refine iw_callV (pc' := 16) (S0 := [.int x2_]) (S1 := [.int v21, .int x2_]) (c1 := 0) (s1 := 0) (k := 1) (ct_X1_placeOf l κ sw μ r0_ h0_ y3_ hc) h0_ ⟨rfl, rfl⟩ mv_X1_placeOf lkm_X1_49 ⟨rfl, rfl⟩ (ic_sum8 ⟨rfl, trivial⟩ (Nat.le_of_ble_eq_true rfl)) (by unfold ic_rm; decide +kernel) ⟨rfl, rfl, rfl⟩ ⟨Nat.le_of_ble_eq_true rfl, Nat.le_of_ble_eq_true rfl⟩ ?_
      obtain ⟨v22, hc, hf⟩ := ic_bd hf
      refine iw_callSN (pc' := 19) (S0 := []) (S1 := [.int v22]) (c1 := 0) (s1 := 0) (k := 2) (ct_X8_isIn l κ sw μ x2_ v21 hc) ms_X8_isIn lkm_X1_52 ⟨rfl, rfl⟩ (ic_sum8 trivial (Nat.le_of_ble_eq_true rfl)) (by unfold ic_rm; decide +kernel) ⟨rfl, rfl, rfl⟩ ⟨Nat.le_of_ble_eq_true rfl, Nat.le_of_ble_eq_true rfl⟩ ?_
      obtain ⟨q23, hf, hgq23⟩ := ic_bd hf
      have hjq23 : ic_W l κ MX1_drownOn ic_X0 Z 29 [(0, ic_rv κ.1 r0_), (1, ic_rv κ.1 r1_), (2, .int x2_), (3, .int y3_)] [] 106 (ic_rs sw) q23 0 0 := by
        have hf := hgq23
        refine iw_iinc (i := 3) (d := 1) (pc' := 32) (v := (1 : Int32)) (L1 := fun x25 => [(0, ic_rv κ.1 r0_), (1, ic_rv κ.1 r1_), (2, .int x2_), (3, .int x25)]) hf 3 rfl (fun _ => rfl) (by decide +kernel) (fun x25 hf => ?_)
        refine iw_goto (off := (-30)) (pc' := 2) (by decide +kernel) ?_
        exact iw_sub [0, 1, 2, 3] rfl (ih _ _ hf)
      refine iw_if_eq (off := 10) (tg := 29) (pc' := 22) hf (by decide +kernel) (fun hf => ?_) (fun hf => ?_)
      · obtain rfl := Option.some.inj hf
        exact iw_sub [0, 1, 2, 3] rfl hjq23
      · refine iw_aload_n (i := 0) (pc' := 23) 0 rfl (by decide +kernel) ?_
        refine iw_iload_n (i := 3) (pc' := 24) 3 rfl (by decide +kernel) ?_
        refine iw_bipush (i := (-2)) (v := (-2 : Int32)) (pc' := 26) (by decide +kernel) ?_
        obtain ⟨m24, hc, hf⟩ := ic_bd hf
        refine iw_callV (pc' := 29) (S0 := []) (S1 := []) (c1 := 0) (s1 := 0) (k := 2) (ct_X1_putPerson l κ sw μ r0_ h0_ y3_ (-2 : Int32) hc) h0_ ⟨rfl, rfl⟩ mv_X1_putPerson lkm_X1_104 ⟨rfl, rfl⟩ (ic_sum8 trivial (Nat.le_of_ble_eq_true rfl)) (by unfold ic_rm; decide +kernel) ⟨rfl, rfl, rfl⟩ ⟨Nat.le_of_ble_eq_true rfl, Nat.le_of_ble_eq_true rfl⟩ ?_
        obtain rfl := Option.some.inj hf
        exact iw_sub [0, 1, 2, 3] rfl hjq23
set_option maxRecDepth 100000 in
set_option maxHeartbeats 4000000 in
theorem ct_X1_drownOn (l : Launch) (κ : ic_K) (sw : Nat) (μ : ic_M) (r0 : Nat) (h0 : ic_isO 106 r0 1) (r1 : Nat) (h1 : ic_isO 106 r1 5) (x2 : Int32) {R : ic_M} (hf : fX1_drownOn μ r0 r1 x2 = some R) : ic_C l κ MX1_drownOn [ic_rv κ.1 r0, ic_rv κ.1 r1, .int x2] 106 (ic_rs sw) μ none 106 (ic_rs sw) R := by
  refine ic_C.of (L := [(0, ic_rv κ.1 r0), (1, ic_rv κ.1 r1), (2, .int x2)]) ⟨ic_cat _ _, ic_cat _ _, rfl, trivial⟩ ⟨by decide +kernel, Nat.le_of_ble_eq_true rfl⟩ rfl ?_
  unfold fX1_drownOn at hf
  refine iw_iconst (i := 0) (v := (0 : Int32)) (pc' := 1) (by decide +kernel) ?_
  refine iw_istore_n0 (i := 3) (pc' := 2) (L' := [(0, ic_rv κ.1 r0), (1, ic_rv κ.1 r1), (2, .int x2), (3, .int (0 : Int32))]) rfl (by decide +kernel) ?_
  obtain ⟨q26, hf, hgq26⟩ := ic_bd hf
  have hjq26 : ic_W l κ MX1_drownOn ic_X0 (ic_Z κ MX1_drownOn none 106 (ic_rs sw) R) 35 [] [] 106 (ic_rs sw) q26 0 0 := by
    have hf := hgq26
    exact iw_vreturn rfl (Option.some.inj hf) (by decide +kernel)
  exact iw_sub [0, 1, 2, 3] rfl (lpX1_drownOn_2_ok l κ sw r0 r1 x2 h0 h1 hjq26 1000 (0 : Int32) μ hf)
set_option maxRecDepth 100000 in
set_option maxHeartbeats 4000000 in
theorem ct_J6_bitCount_0f7a4 (l : Launch) (κ : ic_K) (sw : Nat) (μ : ic_M) (x0 : Int32) {R : Int32} (hf : fJ6_bitCount_0f7a4 μ x0 = some R) : ic_C l κ MJ6_bitCount_0f7a4 [.int x0] 106 (ic_rs sw) μ (some (.int R)) 106 (ic_rs sw) μ := by
  refine ic_C.of (L := [(0, .int x0)]) ⟨rfl, trivial⟩ ⟨by decide +kernel, Nat.le_of_ble_eq_true rfl⟩ rfl ?_
  unfold fJ6_bitCount_0f7a4 at hf
  refine iw_iload_n (i := 0) (pc' := 1) 0 rfl (by decide +kernel) ?_
  refine iw_iload_n (i := 0) (pc' := 2) 0 rfl (by decide +kernel) ?_
  refine iw_iconst (i := 1) (v := (1 : Int32)) (pc' := 3) (by decide +kernel) ?_
  refine iw_iushr (pc' := 4) (by decide +kernel) ?_
  refine iw_ldc_w (pc' := 7) lkc_J6_265 (by decide +kernel) ?_
  refine iw_iand (pc' := 8) (by decide +kernel) ?_
  refine iw_isub (pc' := 9) (by decide +kernel) ?_
  refine iw_istore_n (i := 0) (pc' := 10) (L1 := fun x21 => [(0, .int x21)]) hf (fun _ => rfl) (by decide +kernel) (fun x21 hf => ?_)
  refine iw_iload_n (i := 0) (pc' := 11) 0 rfl (by decide +kernel) ?_
  refine iw_ldc_w (pc' := 14) lkc_J6_266 (by decide +kernel) ?_
  refine iw_iand (pc' := 15) (by decide +kernel) ?_
  refine iw_iload_n (i := 0) (pc' := 16) 0 rfl (by decide +kernel) ?_
  refine iw_iconst (i := 2) (v := (2 : Int32)) (pc' := 17) (by decide +kernel) ?_
  refine iw_iushr (pc' := 18) (by decide +kernel) ?_
  refine iw_ldc_w (pc' := 21) lkc_J6_266 (by decide +kernel) ?_
  refine iw_iand (pc' := 22) (by decide +kernel) ?_
  refine iw_iadd (pc' := 23) (by decide +kernel) ?_
  refine iw_istore_n (i := 0) (pc' := 24) (L1 := fun x22 => [(0, .int x22)]) hf (fun _ => rfl) (by decide +kernel) (fun x22 hf => ?_)
  refine iw_iload_n (i := 0) (pc' := 25) 0 rfl (by decide +kernel) ?_
  refine iw_iload_n (i := 0) (pc' := 26) 0 rfl (by decide +kernel) ?_
  refine iw_iconst (i := 4) (v := (4 : Int32)) (pc' := 27) (by decide +kernel) ?_
  refine iw_iushr (pc' := 28) (by decide +kernel) ?_
  refine iw_iadd (pc' := 29) (by decide +kernel) ?_
  refine iw_ldc_w (pc' := 32) lkc_J6_267 (by decide +kernel) ?_
  refine iw_iand (pc' := 33) (by decide +kernel) ?_
  refine iw_istore_n (i := 0) (pc' := 34) (L1 := fun x23 => [(0, .int x23)]) hf (fun _ => rfl) (by decide +kernel) (fun x23 hf => ?_)
  refine iw_iload_n (i := 0) (pc' := 35) 0 rfl (by decide +kernel) ?_
  refine iw_iload_n (i := 0) (pc' := 36) 0 rfl (by decide +kernel) ?_
  refine iw_bipush (i := 8) (v := (8 : Int32)) (pc' := 38) (by decide +kernel) ?_
  refine iw_iushr (pc' := 39) (by decide +kernel) ?_
  refine iw_iadd (pc' := 40) (by decide +kernel) ?_
  refine iw_istore_n (i := 0) (pc' := 41) (L1 := fun x24 => [(0, .int x24)]) hf (fun _ => rfl) (by decide +kernel) (fun x24 hf => ?_)
  refine iw_iload_n (i := 0) (pc' := 42) 0 rfl (by decide +kernel) ?_
  refine iw_iload_n (i := 0) (pc' := 43) 0 rfl (by decide +kernel) ?_
  refine iw_bipush (i := 16) (v := (16 : Int32)) (pc' := 45) (by decide +kernel) ?_
  refine iw_iushr (pc' := 46) (by decide +kernel) ?_
  refine iw_iadd (pc' := 47) (by decide +kernel) ?_
  refine iw_istore_n (i := 0) (pc' := 48) (L1 := fun x25 => [(0, .int x25)]) hf (fun _ => rfl) (by decide +kernel) (fun x25 hf => ?_)
  refine iw_iload_n (i := 0) (pc' := 49) 0 rfl (by decide +kernel) ?_
  refine iw_bipush (i := 63) (v := (63 : Int32)) (pc' := 51) (by decide +kernel) ?_
  refine iw_iand (pc' := 52) (by decide +kernel) ?_
  exact iw_ireturn (Option.some.inj hf) rfl rfl (by decide +kernel)
set_option maxRecDepth 100000 in
set_option maxHeartbeats 4000000 in
theorem lpX1_breakOn_30_ok (l : Launch) (κ : ic_K) (sw : Nat) (r0_ : Nat) (r1_ : Nat) (x2_ : Int32) (x3_ : Int32) (x4_ : Int32) (h0_ : ic_isO 106 r0_ 1) (h1_ : ic_isO 106 r1_ 5) {Z : State → List Frame → Array Value → State → Prop} {R : ic_M} (hk : ic_W l κ MX1_breakOn ic_X0 Z 62 [(0, ic_rv κ.1 r0_), (1, ic_rv κ.1 r1_), (2, .int x2_), (3, .int x3_), (4, .int x4_)] [] 106 (ic_rs sw) R 0 0) : ∀ (fu : Nat) (y5_ : Int32) (μ : ic_M), lpX1_breakOn_30 r0_ r1_ x2_ x3_ x4_ fu y5_ μ = some R → ic_W l κ MX1_breakOn ic_X0 Z 30 [(0, ic_rv κ.1 r0_), (1, ic_rv κ.1 r1_), (2, .int x2_), (3, .int x3_), (4, .int x4_), (5, .int y5_)] [] 106 (ic_rs sw) μ 0 0 := by
  intro fu
  induction fu with
  | zero =>
    intro y5_ μ hf
    exact absurd hf (by simp [lpX1_breakOn_30])
  | succ fu ih =>
    intro y5_ μ hf
    rw [lpX1_breakOn_30] at hf
    refine iw_iload (i := 5) (pc' := 32) 5 rfl (by decide +kernel) ?_
    refine iw_aload_n (i := 1) (pc' := 33) 1 rfl (by decide +kernel) ?_
    refine iw_geti (pc' := 36) ic_fk5 h1_ lkf_X1_22 (by decide +kernel) ?_
    refine iw_icmp_ge (off := 26) (tg := 62) (pc' := 39) hf (by decide +kernel) (fun hf => ?_) (fun hf => ?_)
    · obtain rfl := Option.some.inj hf
      exact iw_sub [0, 1, 2, 3, 4] rfl hk
    · refine iw_iload (i := 4) (pc' := 41) 4 rfl (by decide +kernel) ?_
      refine iw_iload (i := 5) (pc' := 43) 5 rfl (by decide +kernel) ?_
      obtain ⟨v22, hc, hf⟩ := ic_bd hf
      refine iw_callSN (pc' := 46) (S0 := []) (S1 := [.int v22]) (c1 := 0) (s1 := 0) (k := 2) (ct_X8_isIn l κ sw μ x4_ y5_ hc) ms_X8_isIn lkm_X1_52 ⟨rfl, rfl⟩ (ic_sum8 trivial (Nat.le_of_ble_eq_true rfl)) (by unfold ic_rm; decide +kernel) ⟨rfl, rfl, rfl⟩ ⟨Nat.le_of_ble_eq_true rfl, Nat.le_of_ble_eq_true rfl⟩ ?_
      obtain ⟨q23, hf, hgq23⟩ := ic_bd hf
      have hjq23 : ic_W l κ MX1_breakOn ic_X0 Z 56 [(0, ic_rv κ.1 r0_), (1, ic_rv κ.1 r1_), (2, .int x2_), (3, .int x3_), (4, .int x4_), (5, .int y5_)] [] 106 (ic_rs sw) q23 0 0 := by
        have hf := hgq23
        refine iw_iinc (i := 5) (d := 1) (pc' := 59) (v := (1 : Int32)) (L1 := fun x25 => [(0, ic_rv κ.1 r0_), (1, ic_rv κ.1 r1_), (2, .int x2_), (3, .int x3_), (4, .int x4_), (5, .int x25)]) hf 5 rfl (fun _ => rfl) (by decide +kernel) (fun x25 hf => ?_)
        refine iw_goto (off := (-29)) (pc' := 30) (by decide +kernel) ?_
        exact iw_sub [0, 1, 2, 3, 4, 5] rfl (ih _ _ hf)
      refine iw_if_eq (off := 10) (tg := 56) (pc' := 49) hf (by decide +kernel) (fun hf => ?_) (fun hf => ?_)
      · obtain rfl := Option.some.inj hf
        exact iw_sub [0, 1, 2, 3, 4, 5] rfl hjq23
      · refine iw_aload_n (i := 0) (pc' := 50) 0 rfl (by decide +kernel) ?_
        refine iw_iload (i := 5) (pc' := 52) 5 rfl (by decide +kernel) ?_
        refine iw_iconst (i := 0) (v := (0 : Int32)) (pc' := 53) (by decide +kernel) ?_
        obtain ⟨m24, hc, hf⟩ := ic_bd hf
        refine iw_callV (pc' := 56) (S0 := []) (S1 := []) (c1 := 0) (s1 := 0) (k := 2) (ct_X1_setInches l κ sw μ r0_ h0_ y5_ (0 : Int32) hc) h0_ ⟨rfl, rfl⟩ mv_X1_setInches lkm_X1_120 ⟨rfl, rfl⟩ (ic_sum8 trivial (Nat.le_of_ble_eq_true rfl)) (by unfold ic_rm; decide +kernel) ⟨rfl, rfl, rfl⟩ ⟨Nat.le_of_ble_eq_true rfl, Nat.le_of_ble_eq_true rfl⟩ ?_
        obtain rfl := Option.some.inj hf
        exact iw_sub [0, 1, 2, 3, 4, 5] rfl hjq23
set_option maxRecDepth 100000 in
set_option maxHeartbeats 4000000 in
theorem lpX1_breakOn_4_ok (l : Launch) (κ : ic_K) (sw : Nat) (r0_ : Nat) (r1_ : Nat) (h0_ : ic_isO 106 r0_ 1) (h1_ : ic_isO 106 r1_ 5) {Rf : Int32 × ic_M} {R : (Int32 × ic_M) ⊕ (Int32 × ic_M)} (hk : ∀ t, R = .inl t → ic_W l κ MX1_breakOn ic_X0 (ic_Z κ MX1_breakOn (some (.int Rf.1)) 106 (ic_rs sw) Rf.2) 83 [(0, ic_rv κ.1 r0_), (2, .int t.1)] [] 106 (ic_rs sw) t.2 0 0) (hr : ∀ v, R = .inr v → v = Rf) : ∀ (fu : Nat) (y2_ : Int32) (y3_ : Int32) (μ : ic_M), lpX1_breakOn_4 r0_ r1_ fu y2_ y3_ μ = some R → ic_W l κ MX1_breakOn ic_X0 (ic_Z κ MX1_breakOn (some (.int Rf.1)) 106 (ic_rs sw) Rf.2) 4 [(0, ic_rv κ.1 r0_), (1, ic_rv κ.1 r1_), (2, .int y2_), (3, .int y3_)] [] 106 (ic_rs sw) μ 0 0 := by
  intro fu
  induction fu with
  | zero =>
    intro y2_ y3_ μ hf
    exact absurd hf (by simp [lpX1_breakOn_4])
  | succ fu ih =>
    intro y2_ y3_ μ hf
    rw [lpX1_breakOn_4] at hf
    refine iw_iload_n (i := 3) (pc' := 5) 3 rfl (by decide +kernel) ?_
    refine iw_aload_n (i := 1) (pc' := 6) 1 rfl (by decide +kernel) ?_
    refine iw_geti (pc' := 9) ic_fk5 h1_ lkf_X1_22 (by decide +kernel) ?_
    refine iw_icmp_ge (off := 74) (tg := 83) (pc' := 12) hf (by decide +kernel) (fun hf => ?_) (fun hf => ?_)
    · exact iw_sub [0, 2] rfl (hk _ (Option.some.inj hf).symm)
    · refine iw_aload_n (i := 0) (pc' := 13) 0 rfl (by decide +kernel) ?_
      refine iw_aload_n (i := 1) (pc' := 14) 1 rfl (by decide +kernel) ?_
      obtain ⟨v21, hc, hf⟩ := ic_bd hf
      refine iw_callV (pc' := 17) (S0 := []) (S1 := [.int v21]) (c1 := 0) (s1 := 0) (k := 1) (ct_X1_overloaded l κ sw μ r0_ h0_ r1_ h1_ hc) h0_ ⟨rfl, rfl⟩ mv_X1_overloaded lkm_X1_137 ⟨rfl, rfl⟩ (ic_sum8 trivial (Nat.le_of_ble_eq_true rfl)) (by unfold ic_rm; decide +kernel) ⟨rfl, rfl, rfl⟩ ⟨Nat.le_of_ble_eq_true rfl, Nat.le_of_ble_eq_true rfl⟩ ?_
      refine iw_istore0 (i := 4) (pc' := 19) (L' := [(0, ic_rv κ.1 r0_), (1, ic_rv κ.1 r1_), (2, .int y2_), (3, .int y3_), (4, .int v21)]) rfl (by decide +kernel) ?_
      refine iw_iload (i := 4) (pc' := 21) 4 rfl (by decide +kernel) ?_
      refine iw_if_ne (off := 6) (tg := 27) (pc' := 24) hf (by decide +kernel) (fun hf => ?_) (fun hf => ?_)
      · refine iw_iconst (i := 0) (v := (0 : Int32)) (pc' := 28) (by decide +kernel) ?_
        refine iw_istore0 (i := 5) (pc' := 30) (L' := [(0, ic_rv κ.1 r0_), (1, ic_rv κ.1 r1_), (2, .int y2_), (3, .int y3_), (4, .int v21), (5, .int (0 : Int32))]) rfl (by decide +kernel) ?_
        obtain ⟨q26, hf, hgq26⟩ := ic_bd hf
        have hjq26 : ic_W l κ MX1_breakOn ic_X0 (ic_Z κ MX1_breakOn (some (.int Rf.1)) 106 (ic_rs sw) Rf.2) 62 [(0, ic_rv κ.1 r0_), (1, ic_rv κ.1 r1_), (2, .int y2_), (3, .int y3_), (4, .int v21)] [] 106 (ic_rs sw) q26 0 0 := by
          have hf := hgq26
          refine iw_aload_n (i := 0) (pc' := 63) 0 rfl (by decide +kernel) ?_
          refine iw_aload_n (i := 1) (pc' := 64) 1 rfl (by decide +kernel) ?_
          refine iw_iload (i := 4) (pc' := 66) 4 rfl (by decide +kernel) ?_
          obtain ⟨m27, hc, hf⟩ := ic_bd hf
          refine iw_callV (pc' := 69) (S0 := []) (S1 := []) (c1 := 0) (s1 := 0) (k := 2) (ct_X1_drownOn l κ sw q26 r0_ h0_ r1_ h1_ v21 hc) h0_ ⟨rfl, rfl⟩ mv_X1_drownOn lkm_X1_123 ⟨rfl, rfl⟩ (ic_sum8 trivial (Nat.le_of_ble_eq_true rfl)) (by unfold ic_rm; decide +kernel) ⟨rfl, rfl, rfl⟩ ⟨Nat.le_of_ble_eq_true rfl, Nat.le_of_ble_eq_true rfl⟩ ?_
          refine iw_iload_n (i := 2) (pc' := 70) 2 rfl (by decide +kernel) ?_
          refine iw_iload (i := 4) (pc' := 72) 4 rfl (by decide +kernel) ?_
          obtain ⟨v28, hc, hf⟩ := ic_bd hf
          refine iw_callS (pc' := 75) (S0 := [.int y2_]) (S1 := [.int v28, .int y2_]) (c1 := 0) (s1 := 0) (k := 1) (ct_J6_bitCount_0f7a4 l κ sw m27 v21 hc) ms_J6_bitCount_0f7a4 lkm_X1_140 ⟨rfl, rfl⟩ (ic_sum8 ⟨rfl, trivial⟩ (Nat.le_of_ble_eq_true rfl)) (by unfold ic_rm; decide +kernel) ⟨rfl, rfl, rfl⟩ ⟨Nat.le_of_ble_eq_true rfl, Nat.le_of_ble_eq_true rfl⟩ ?_
          refine iw_iadd (pc' := 76) (by decide +kernel) ?_
          refine iw_istore_n (i := 2) (pc' := 77) (L1 := fun x29 => [(0, ic_rv κ.1 r0_), (1, ic_rv κ.1 r1_), (2, .int x29), (3, .int y3_), (4, .int v21)]) hf (fun _ => rfl) (by decide +kernel) (fun x29 hf => ?_)
          refine iw_iinc (i := 3) (d := 1) (pc' := 80) (v := (1 : Int32)) (L1 := fun x30 => [(0, ic_rv κ.1 r0_), (1, ic_rv κ.1 r1_), (2, .int x29), (3, .int x30), (4, .int v21)]) hf 3 rfl (fun _ => rfl) (by decide +kernel) (fun x30 hf => ?_)
          refine iw_goto (off := (-76)) (pc' := 4) (by decide +kernel) ?_
          exact iw_sub [0, 1, 2, 3] rfl (ih _ _ _ hf)
        exact iw_sub [0, 1, 2, 3, 4, 5] rfl (lpX1_breakOn_30_ok l κ sw r0_ r1_ y2_ y3_ v21 h0_ h1_ hjq26 1000 (0 : Int32) μ hf)
      · refine iw_goto (off := 59) (pc' := 83) (by decide +kernel) ?_
        exact iw_sub [0, 2] rfl (hk _ (Option.some.inj hf).symm)
set_option maxRecDepth 100000 in
set_option maxHeartbeats 4000000 in
theorem ct_X1_breakOn (l : Launch) (κ : ic_K) (sw : Nat) (μ : ic_M) (r0 : Nat) (h0 : ic_isO 106 r0 1) (r1 : Nat) (h1 : ic_isO 106 r1 5) {R : Int32 × ic_M} (hf : fX1_breakOn μ r0 r1 = some R) : ic_C l κ MX1_breakOn [ic_rv κ.1 r0, ic_rv κ.1 r1] 106 (ic_rs sw) μ (some (.int R.1)) 106 (ic_rs sw) R.2 := by
  refine ic_C.of (L := [(0, ic_rv κ.1 r0), (1, ic_rv κ.1 r1)]) ⟨ic_cat _ _, ic_cat _ _, trivial⟩ ⟨by decide +kernel, Nat.le_of_ble_eq_true rfl⟩ rfl ?_
  unfold fX1_breakOn at hf
  refine iw_iconst (i := 0) (v := (0 : Int32)) (pc' := 1) (by decide +kernel) ?_
  refine iw_istore_n0 (i := 2) (pc' := 2) (L' := [(0, ic_rv κ.1 r0), (1, ic_rv κ.1 r1), (2, .int (0 : Int32))]) rfl (by decide +kernel) ?_
  refine iw_iconst (i := 0) (v := (0 : Int32)) (pc' := 3) (by decide +kernel) ?_
  refine iw_istore_n0 (i := 3) (pc' := 4) (L' := [(0, ic_rv κ.1 r0), (1, ic_rv κ.1 r1), (2, .int (0 : Int32)), (3, .int (0 : Int32))]) rfl (by decide +kernel) ?_
  obtain ⟨q31, hf, hgq31⟩ := ic_bd hf
  refine iw_sub [0, 1, 2, 3] rfl (lpX1_breakOn_4_ok l κ sw r0 r1 h0 h1 (R := q31) (fun t32 e => ?_) (fun v e => ?_) 1000 (0 : Int32) (0 : Int32) μ hf)
  · subst e
    simp only [Sum.elim_inl] at hgq31
    have hf := hgq31
    refine iw_aload_n (i := 0) (pc' := 84) 0 rfl (by decide +kernel) ?_
    refine iw_dup (pc' := 85) (ic_cat _ _) (by decide +kernel) ?_
    refine iw_geti (pc' := 88) ic_fk1 h0 lkf_X1_43 (by decide +kernel) ?_
    refine iw_iload_n (i := 2) (pc' := 89) 1 rfl (by decide +kernel) ?_
    refine iw_iadd (pc' := 90) (by decide +kernel) ?_
    refine iw_put (pc' := 93) hf ic_fk1 h0 lkf_X1_43 (by decide +kernel) (fun m33 hf => ?_)
    refine iw_iload_n (i := 2) (pc' := 94) 1 rfl (by decide +kernel) ?_
    exact iw_ireturn (ic_q1 (Option.some.inj hf)) rfl (ic_q2 (Option.some.inj hf)) (by decide +kernel)
  · subst e
    simp only [Sum.elim_inr] at hgq31
    exact Option.some.inj hgq31
set_option maxRecDepth 100000 in
set_option maxHeartbeats 4000000 in
theorem ct_X1_claim (l : Launch) (κ : ic_K) (sw : Nat) (μ : ic_M) (r0 : Nat) (h0 : ic_isO 106 r0 1) (x1 : Int32) (x2 : Int32) {R : ic_M} (hf : fX1_claim μ r0 x1 x2 = some R) : ic_C l κ MX1_claim [ic_rv κ.1 r0, .int x1, .int x2] 106 (ic_rs sw) μ none 106 (ic_rs sw) R := by
  refine ic_C.of (L := [(0, ic_rv κ.1 r0), (1, .int x1), (2, .int x2)]) ⟨ic_cat _ _, rfl, rfl, trivial⟩ ⟨by decide +kernel, Nat.le_of_ble_eq_true rfl⟩ rfl ?_
  unfold fX1_claim at hf
  refine iw_iload_n (i := 2) (pc' := 1) 2 rfl (by decide +kernel) ?_
  obtain ⟨q21, hf, hgq21⟩ := ic_bd hf
  have hjq21 : ic_W l κ MX1_claim ic_X0 (ic_Z κ MX1_claim none 106 (ic_rs sw) R) 17 [] [] 106 (ic_rs sw) q21 0 0 := by
    have hf := hgq21
    exact iw_vreturn rfl (Option.some.inj hf) (by decide +kernel)
  refine iw_if_le (off := 16) (tg := 17) (pc' := 4) hf (by decide +kernel) (fun hf => ?_) (fun hf => ?_)
  · obtain rfl := Option.some.inj hf
    exact iw_sub [] rfl hjq21
  · refine iw_aload_n (i := 0) (pc' := 5) 0 rfl (by decide +kernel) ?_
    refine iw_geti (pc' := 8) ic_fk1 h0 lkf_X1_18 (by decide +kernel) ?_
    refine iw_iconst (i := (-1)) (v := (-1 : Int32)) (pc' := 9) (by decide +kernel) ?_
    refine iw_icmp_ne (off := 8) (tg := 17) (pc' := 12) hf (by decide +kernel) (fun hf => ?_) (fun hf => ?_)
    · obtain rfl := Option.some.inj hf
      exact iw_sub [] rfl hjq21
    · refine iw_aload_n (i := 0) (pc' := 13) 0 rfl (by decide +kernel) ?_
      refine iw_iload_n (i := 1) (pc' := 14) 1 rfl (by decide +kernel) ?_
      refine iw_put (pc' := 17) hf ic_fk1 h0 lkf_X1_18 (by decide +kernel) (fun m22 hf => ?_)
      obtain rfl := Option.some.inj hf
      exact iw_sub [] rfl hjq21
set_option maxRecDepth 100000 in
set_option maxHeartbeats 4000000 in
theorem ct_X1_go (l : Launch) (κ : ic_K) (sw : Nat) (μ : ic_M) (r0 : Nat) (h0 : ic_isO 106 r0 1) (r1 : Nat) (h1 : ic_isO 106 r1 5) (x2 : Int32) (x3 : Int32) {R : Int32 × ic_M} (hf : fX1_go μ r0 r1 x2 x3 = some R) : ic_C l κ MX1_go [ic_rv κ.1 r0, ic_rv κ.1 r1, .int x2, .int x3] 106 (ic_rs sw) μ (some (.int R.1)) 106 (ic_rs sw) R.2 := by
  refine ic_C.of (L := [(0, ic_rv κ.1 r0), (1, ic_rv κ.1 r1), (2, .int x2), (3, .int x3)]) ⟨ic_cat _ _, ic_cat _ _, rfl, rfl, trivial⟩ ⟨by decide +kernel, Nat.le_of_ble_eq_true rfl⟩ rfl ?_
  unfold fX1_go at hf
  refine iw_aload_n (i := 0) (pc' := 1) 0 rfl (by decide +kernel) ?_
  refine iw_iload_n (i := 2) (pc' := 2) 2 rfl (by decide +kernel) ?_
  refine iw_iload_n (i := 3) (pc' := 3) 3 rfl (by decide +kernel) ?_
  obtain ⟨m21, hc, hf⟩ := ic_bd hf
  refine iw_callV (pc' := 6) (S0 := []) (S1 := []) (c1 := 0) (s1 := 0) (k := 2) (ct_X1_putPerson l κ sw μ r0 h0 x2 x3 hc) h0 ⟨rfl, rfl⟩ mv_X1_putPerson lkm_X1_104 ⟨rfl, rfl⟩ (ic_sum8 trivial (Nat.le_of_ble_eq_true rfl)) (by unfold ic_rm; decide +kernel) ⟨rfl, rfl, rfl⟩ ⟨Nat.le_of_ble_eq_true rfl, Nat.le_of_ble_eq_true rfl⟩ ?_
  refine iw_aload_n (i := 0) (pc' := 7) 0 rfl (by decide +kernel) ?_
  refine iw_aload_n (i := 1) (pc' := 8) 1 rfl (by decide +kernel) ?_
  obtain ⟨q22, hc, hf⟩ := ic_bd hf
  refine iw_callV (pc' := 11) (S0 := []) (S1 := [.int q22.1]) (c1 := 0) (s1 := 0) (k := 1) (ct_X1_breakOn l κ sw m21 r0 h0 r1 h1 hc) h0 ⟨rfl, rfl⟩ mv_X1_breakOn lkm_X1_108 ⟨rfl, rfl⟩ (ic_sum8 trivial (Nat.le_of_ble_eq_true rfl)) (by unfold ic_rm; decide +kernel) ⟨rfl, rfl, rfl⟩ ⟨Nat.le_of_ble_eq_true rfl, Nat.le_of_ble_eq_true rfl⟩ ?_
  refine iw_istore0 (i := 4) (pc' := 13) (L' := [(0, ic_rv κ.1 r0), (1, ic_rv κ.1 r1), (2, .int x2), (3, .int x3), (4, .int q22.1)]) rfl (by decide +kernel) ?_
  refine iw_aload_n (i := 0) (pc' := 14) 0 rfl (by decide +kernel) ?_
  refine iw_aload_n (i := 1) (pc' := 15) 1 rfl (by decide +kernel) ?_
  refine iw_iload_n (i := 2) (pc' := 16) 2 rfl (by decide +kernel) ?_
  obtain ⟨v23, hc, hf⟩ := ic_bd hf
  refine iw_callV (pc' := 19) (S0 := [ic_rv κ.1 r0]) (S1 := [.int v23, ic_rv κ.1 r0]) (c1 := 0) (s1 := 0) (k := 1) (ct_X5_townOf l κ sw q22.2 r1 h1 x2 hc) h1 ⟨rfl, rfl⟩ mv_X5_townOf lkm_X1_95 ⟨rfl, rfl⟩ (ic_sum8 ⟨ic_cat _ _, trivial⟩ (Nat.le_of_ble_eq_true rfl)) (by unfold ic_rm; decide +kernel) ⟨rfl, rfl, rfl⟩ ⟨Nat.le_of_ble_eq_true rfl, Nat.le_of_ble_eq_true rfl⟩ ?_
  refine iw_iload (i := 4) (pc' := 21) 4 rfl (by decide +kernel) ?_
  obtain ⟨m24, hc, hf⟩ := ic_bd hf
  refine iw_callV (pc' := 24) (S0 := []) (S1 := []) (c1 := 0) (s1 := 0) (k := 2) (ct_X1_claim l κ sw q22.2 r0 h0 v23 q22.1 hc) h0 ⟨rfl, rfl⟩ mv_X1_claim lkm_X1_111 ⟨rfl, rfl⟩ (ic_sum8 trivial (Nat.le_of_ble_eq_true rfl)) (by unfold ic_rm; decide +kernel) ⟨rfl, rfl, rfl⟩ ⟨Nat.le_of_ble_eq_true rfl, Nat.le_of_ble_eq_true rfl⟩ ?_
  refine iw_iload (i := 4) (pc' := 26) 4 rfl (by decide +kernel) ?_
  exact iw_ireturn (ic_q1 (Option.some.inj hf)) rfl (ic_q2 (Option.some.inj hf)) (by decide +kernel)
set_option maxRecDepth 100000 in
set_option maxHeartbeats 4000000 in
theorem ct_X1_strewSalt (l : Launch) (κ : ic_K) (sw : Nat) (μ : ic_M) (r0 : Nat) (h0 : ic_isO 106 r0 1) (r1 : Nat) (h1 : ic_isO 106 r1 5) (x2 : Int32) (x3 : Int32) (x4 : Int32) {R : Int32 × ic_M} (hf : fX1_strewSalt μ r0 r1 x2 x3 x4 = some R) : ic_C l κ MX1_strewSalt [ic_rv κ.1 r0, ic_rv κ.1 r1, .int x2, .int x3, .int x4] 106 (ic_rs sw) μ (some (.int R.1)) 106 (ic_rs sw) R.2 := by
  refine ic_C.of (L := [(0, ic_rv κ.1 r0), (1, ic_rv κ.1 r1), (2, .int x2), (3, .int x3), (4, .int x4)]) ⟨ic_cat _ _, ic_cat _ _, rfl, rfl, rfl, trivial⟩ ⟨by decide +kernel, Nat.le_of_ble_eq_true rfl⟩ rfl ?_
  unfold fX1_strewSalt at hf
  refine iw_aload_n (i := 0) (pc' := 1) 0 rfl (by decide +kernel) ?_
  refine iw_iload_n (i := 3) (pc' := 2) 3 rfl (by decide +kernel) ?_
  refine iw_iconst (i := 0) (v := (0 : Int32)) (pc' := 3) (by decide +kernel) ?_
  refine iw_aload_n (i := 0) (pc' := 4) 0 rfl (by decide +kernel) ?_
  refine iw_iload_n (i := 3) (pc' := 5) 3 rfl (by decide +kernel) ?_
  obtain ⟨v21, hc, hf⟩ := ic_bd hf
  refine iw_callV (pc' := 8) (S0 := [.int (0 : Int32), .int x3, ic_rv κ.1 r0]) (S1 := [.int v21, .int (0 : Int32), .int x3, ic_rv κ.1 r0]) (c1 := 0) (s1 := 0) (k := 1) (ct_X1_inchesOf l κ sw μ r0 h0 x3 hc) h0 ⟨rfl, rfl⟩ mv_X1_inchesOf lkm_X1_46 ⟨rfl, rfl⟩ (ic_sum8 ⟨rfl, rfl, ic_cat _ _, trivial⟩ (Nat.le_of_ble_eq_true rfl)) (by unfold ic_rm; decide +kernel) ⟨rfl, rfl, rfl⟩ ⟨Nat.le_of_ble_eq_true rfl, Nat.le_of_ble_eq_true rfl⟩ ?_
  refine iw_iload (i := 4) (pc' := 10) 4 rfl (by decide +kernel) ?_
  refine iw_isub (pc' := 11) (by decide +kernel) ?_
  refine iw_mmax (pc' := 14) lkm_X1_114 (ic_sum8 ⟨rfl, ic_cat _ _, trivial⟩ (Nat.le_of_ble_eq_true rfl)) (by decide +kernel) ?_
  obtain ⟨m22, hc, hf⟩ := ic_bd hf
  refine iw_callV (pc' := 17) (S0 := []) (S1 := []) (c1 := 0) (s1 := 0) (k := 2) (ct_X1_setInches l κ sw μ r0 h0 x3 (if (0 : Int32) < (v21 - x4) then (v21 - x4) else (0 : Int32)) hc) h0 ⟨rfl, rfl⟩ mv_X1_setInches lkm_X1_120 ⟨rfl, rfl⟩ (ic_sum8 trivial (Nat.le_of_ble_eq_true rfl)) (by unfold ic_rm; decide +kernel) ⟨rfl, rfl, rfl⟩ ⟨Nat.le_of_ble_eq_true rfl, Nat.le_of_ble_eq_true rfl⟩ ?_
  refine iw_iconst (i := 0) (v := (0 : Int32)) (pc' := 18) (by decide +kernel) ?_
  refine iw_istore0 (i := 5) (pc' := 20) (L' := [(0, ic_rv κ.1 r0), (1, ic_rv κ.1 r1), (2, .int x2), (3, .int x3), (4, .int x4), (5, .int (0 : Int32))]) rfl (by decide +kernel) ?_
  refine iw_aload_n (i := 0) (pc' := 21) 0 rfl (by decide +kernel) ?_
  refine iw_iload_n (i := 3) (pc' := 22) 3 rfl (by decide +kernel) ?_
  obtain ⟨v23, hc, hf⟩ := ic_bd hf
  refine iw_callV (pc' := 25) (S0 := []) (S1 := [.int v23]) (c1 := 0) (s1 := 0) (k := 1) (ct_X1_isHole l κ sw m22 r0 h0 x3 hc) h0 ⟨rfl, rfl⟩ mv_X1_isHole lkm_X1_78 ⟨rfl, rfl⟩ (ic_sum8 trivial (Nat.le_of_ble_eq_true rfl)) (by unfold ic_rm; decide +kernel) ⟨rfl, rfl, rfl⟩ ⟨Nat.le_of_ble_eq_true rfl, Nat.le_of_ble_eq_true rfl⟩ ?_
  obtain ⟨q24, hf, hgq24⟩ := ic_bd hf
  have hjq24 : ic_W l κ MX1_strewSalt ic_X0 (ic_Z κ MX1_strewSalt (some (.int R.1)) 106 (ic_rs sw) R.2) 49 [(0, ic_rv κ.1 r0), (1, ic_rv κ.1 r1), (2, .int x2), (5, .int q24.1)] [] 106 (ic_rs sw) q24.2 0 0 := by
    have hf := hgq24
    refine iw_iload (i := 5) (pc' := 51) 3 rfl (by decide +kernel) ?_
    refine iw_aload_n (i := 0) (pc' := 52) 0 rfl (by decide +kernel) ?_
    refine iw_aload_n (i := 1) (pc' := 53) 1 rfl (by decide +kernel) ?_
    obtain ⟨q27, hc, hf⟩ := ic_bd hf
    refine iw_callV (pc' := 56) (S0 := [.int q24.1]) (S1 := [.int q27.1, .int q24.1]) (c1 := 0) (s1 := 0) (k := 1) (ct_X1_breakOn l κ sw q24.2 r0 h0 r1 h1 hc) h0 ⟨rfl, rfl⟩ mv_X1_breakOn lkm_X1_108 ⟨rfl, rfl⟩ (ic_sum8 ⟨rfl, trivial⟩ (Nat.le_of_ble_eq_true rfl)) (by unfold ic_rm; decide +kernel) ⟨rfl, rfl, rfl⟩ ⟨Nat.le_of_ble_eq_true rfl, Nat.le_of_ble_eq_true rfl⟩ ?_
    refine iw_iadd (pc' := 57) (by decide +kernel) ?_
    refine iw_istore (i := 5) (pc' := 59) (L1 := fun x28 => [(0, ic_rv κ.1 r0), (1, ic_rv κ.1 r1), (2, .int x2), (5, .int x28)]) hf (fun _ => rfl) (by decide +kernel) (fun x28 hf => ?_)
    refine iw_aload_n (i := 0) (pc' := 60) 0 rfl (by decide +kernel) ?_
    refine iw_iload_n (i := 2) (pc' := 61) 2 rfl (by decide +kernel) ?_
    refine iw_iload (i := 5) (pc' := 63) 3 rfl (by decide +kernel) ?_
    obtain ⟨m29, hc, hf⟩ := ic_bd hf
    refine iw_callV (pc' := 66) (S0 := []) (S1 := []) (c1 := 0) (s1 := 0) (k := 2) (ct_X1_claim l κ sw q27.2 r0 h0 x2 x28 hc) h0 ⟨rfl, rfl⟩ mv_X1_claim lkm_X1_111 ⟨rfl, rfl⟩ (ic_sum8 trivial (Nat.le_of_ble_eq_true rfl)) (by unfold ic_rm; decide +kernel) ⟨rfl, rfl, rfl⟩ ⟨Nat.le_of_ble_eq_true rfl, Nat.le_of_ble_eq_true rfl⟩ ?_
    refine iw_iload (i := 5) (pc' := 68) 3 rfl (by decide +kernel) ?_
    exact iw_ireturn (ic_q1 (Option.some.inj hf)) rfl (ic_q2 (Option.some.inj hf)) (by decide +kernel)
  refine iw_if_eq (off := 24) (tg := 49) (pc' := 28) hf (by decide +kernel) (fun hf => ?_) (fun hf => ?_)
  · obtain rfl := Option.some.inj hf
    exact iw_sub [0, 1, 2, 5] rfl hjq24
  · refine iw_aload_n (i := 0) (pc' := 29) 0 rfl (by decide +kernel) ?_
    refine iw_aload_n (i := 1) (pc' := 30) 1 rfl (by decide +kernel) ?_
    refine iw_iconst (i := 1) (v := (1 : Int32)) (pc' := 31) (by decide +kernel) ?_
    refine iw_iload_n (i := 3) (pc' := 32) 3 rfl (by decide +kernel) ?_
    refine iw_ishl (pc' := 33) (by decide +kernel) ?_
    obtain ⟨m25, hc, hf⟩ := ic_bd hf
    refine iw_callV (pc' := 36) (S0 := []) (S1 := []) (c1 := 0) (s1 := 0) (k := 2) (ct_X1_drownOn l κ sw m22 r0 h0 r1 h1 ((1 : Int32) <<< (x3 &&& 31)) hc) h0 ⟨rfl, rfl⟩ mv_X1_drownOn lkm_X1_123 ⟨rfl, rfl⟩ (ic_sum8 trivial (Nat.le_of_ble_eq_true rfl)) (by unfold ic_rm; decide +kernel) ⟨rfl, rfl, rfl⟩ ⟨Nat.le_of_ble_eq_true rfl, Nat.le_of_ble_eq_true rfl⟩ ?_
    refine iw_iconst (i := 1) (v := (1 : Int32)) (pc' := 37) (by decide +kernel) ?_
    refine iw_istore0 (i := 5) (pc' := 39) (L' := [(0, ic_rv κ.1 r0), (1, ic_rv κ.1 r1), (2, .int x2), (3, .int x3), (4, .int x4), (5, .int (1 : Int32))]) rfl (by decide +kernel) ?_
    refine iw_aload_n (i := 0) (pc' := 40) 0 rfl (by decide +kernel) ?_
    refine iw_dup (pc' := 41) (ic_cat _ _) (by decide +kernel) ?_
    refine iw_geti (pc' := 44) ic_fk1 h0 lkf_X1_43 (by decide +kernel) ?_
    refine iw_iconst (i := 1) (v := (1 : Int32)) (pc' := 45) (by decide +kernel) ?_
    refine iw_iadd (pc' := 46) (by decide +kernel) ?_
    refine iw_put (pc' := 49) hf ic_fk1 h0 lkf_X1_43 (by decide +kernel) (fun m26 hf => ?_)
    obtain rfl := Option.some.inj hf
    exact iw_sub [0, 1, 2, 5] rfl hjq24
set_option maxRecDepth 100000 in
set_option maxHeartbeats 4000000 in
theorem ct_X5_coldOf (l : Launch) (κ : ic_K) (sw : Nat) (μ : ic_M) (r0 : Nat) (h0 : ic_isO 106 r0 5) (x1 : Int32) {R : Int32} (hf : fX5_coldOf μ r0 x1 = some R) : ic_C l κ MX5_coldOf [ic_rv κ.1 r0, .int x1] 106 (ic_rs sw) μ (some (.int R)) 106 (ic_rs sw) μ := by
  refine ic_C.of (L := [(0, ic_rv κ.1 r0), (1, .int x1)]) ⟨ic_cat _ _, rfl, trivial⟩ ⟨by decide +kernel, Nat.le_of_ble_eq_true rfl⟩ rfl ?_
  unfold fX5_coldOf at hf
  refine iw_aload_n (i := 0) (pc' := 1) 0 rfl (by decide +kernel) ?_
  refine iw_getr (pc' := 4) (q := (r0 + 3)) ic_fk5 h0 (ic_rs_o h0 (by decide)) lkf_X5_18 (by decide +kernel) ?_
  refine iw_aload_n (i := 0) (pc' := 5) 0 rfl (by decide +kernel) ?_
  refine iw_geti (pc' := 8) ic_fk5 h0 lkf_X5_49 (by decide +kernel) ?_
  refine iw_iload_n (i := 1) (pc' := 9) 1 rfl (by decide +kernel) ?_
  refine iw_bipush (i := 10) (v := (10 : Int32)) (pc' := 11) (by decide +kernel) ?_
  obtain ⟨v21, hc, hf⟩ := ic_bd hf
  refine iw_callS (pc' := 14) (S0 := []) (S1 := [.int v21]) (c1 := 0) (s1 := 0) (k := 4) (ct_X5_listed l κ sw μ (r0 + 3) (μ r0 7) x1 (10 : Int32) hc) ms_X5_listed lkm_X5_52 ⟨rfl, rfl⟩ (ic_sum8 trivial (Nat.le_of_ble_eq_true rfl)) (by unfold ic_rm; decide +kernel) ⟨rfl, rfl, rfl⟩ ⟨Nat.le_of_ble_eq_true rfl, Nat.le_of_ble_eq_true rfl⟩ ?_
  refine iw_bipush (i := 10) (v := (10 : Int32)) (pc' := 16) (by decide +kernel) ?_
  refine iw_isub (pc' := 17) (by decide +kernel) ?_
  exact iw_ireturn (Option.some.inj hf) rfl rfl (by decide +kernel)
set_option maxRecDepth 100000 in
set_option maxHeartbeats 4000000 in
theorem ct_X5_currentAt (l : Launch) (κ : ic_K) (sw : Nat) (μ : ic_M) (r0 : Nat) (h0 : ic_isO 106 r0 5) (x1 : Int32) {R : Int32} (hf : fX5_currentAt μ r0 x1 = some R) : ic_C l κ MX5_currentAt [ic_rv κ.1 r0, .int x1] 106 (ic_rs sw) μ (some (.int R)) 106 (ic_rs sw) μ := by
  refine ic_C.of (L := [(0, ic_rv κ.1 r0), (1, .int x1)]) ⟨ic_cat _ _, rfl, trivial⟩ ⟨by decide +kernel, Nat.le_of_ble_eq_true rfl⟩ rfl ?_
  unfold fX5_currentAt at hf
  refine iw_aload_n (i := 0) (pc' := 1) 0 rfl (by decide +kernel) ?_
  refine iw_geti (pc' := 4) ic_fk5 h0 lkf_X5_27 (by decide +kernel) ?_
  refine iw_iconst (i := 1) (v := (1 : Int32)) (pc' := 5) (by decide +kernel) ?_
  obtain ⟨q21, hf, hgq21⟩ := ic_bd hf
  have hjq21 : ic_W l κ MX5_currentAt ic_X0 (ic_Z κ MX5_currentAt (some (.int R)) 106 (ic_rs sw) μ) 30 [] [.int q21] 106 (ic_rs sw) μ 0 0 := by
    have hf := hgq21
    exact iw_ireturn (Option.some.inj hf) rfl rfl (by decide +kernel)
  refine iw_icmp_ge (off := 7) (tg := 12) (pc' := 8) hf (by decide +kernel) (fun hf => ?_) (fun hf => ?_)
  · refine iw_aload_n (i := 0) (pc' := 13) 0 rfl (by decide +kernel) ?_
    refine iw_getr (pc' := 16) (q := (r0 + 2)) ic_fk5 h0 (ic_rs_o h0 (by decide)) lkf_X5_15 (by decide +kernel) ?_
    refine iw_aload_n (i := 0) (pc' := 17) 0 rfl (by decide +kernel) ?_
    refine iw_geti (pc' := 20) ic_fk5 h0 lkf_X5_46 (by decide +kernel) ?_
    refine iw_iload_n (i := 1) (pc' := 21) 1 rfl (by decide +kernel) ?_
    refine iw_aload_n (i := 0) (pc' := 22) 0 rfl (by decide +kernel) ?_
    refine iw_geti (pc' := 25) ic_fk5 h0 lkf_X5_27 (by decide +kernel) ?_
    refine iw_irem (pc' := 26) hf (by decide +kernel) (fun hf => ?_)
    refine iw_iconst (i := 0) (v := (0 : Int32)) (pc' := 27) (by decide +kernel) ?_
    obtain ⟨v22, hc, hf⟩ := ic_bd hf
    refine iw_callS (pc' := 30) (S0 := []) (S1 := [.int v22]) (c1 := 0) (s1 := 0) (k := 4) (ct_X5_listed l κ sw μ (r0 + 2) (μ r0 6) (x1 - x1 / (μ r0 8) * (μ r0 8)) (0 : Int32) hc) ms_X5_listed lkm_X5_52 ⟨rfl, rfl⟩ (ic_sum8 trivial (Nat.le_of_ble_eq_true rfl)) (by unfold ic_rm; decide +kernel) ⟨rfl, rfl, rfl⟩ ⟨Nat.le_of_ble_eq_true rfl, Nat.le_of_ble_eq_true rfl⟩ ?_
    obtain rfl := Option.some.inj hf
    exact iw_sub [] rfl hjq21
  · refine iw_iconst (i := 0) (v := (0 : Int32)) (pc' := 9) (by decide +kernel) ?_
    refine iw_goto (off := 21) (pc' := 30) (by decide +kernel) ?_
    obtain rfl := Option.some.inj hf
    exact iw_sub [] rfl hjq21
set_option maxRecDepth 100000 in
set_option maxHeartbeats 4000000 in
theorem ct_X5_inchesAfter (l : Launch) (κ : ic_K) (sw : Nat) (μ : ic_M) (r0 : Nat) (h0 : ic_isO 106 r0 5) (x1 : Int32) (x2 : Int32) (x3 : Int32) (x4 : Int32) {R : Int32} (hf : fX5_inchesAfter μ r0 x1 x2 x3 x4 = some R) : ic_C l κ MX5_inchesAfter [ic_rv κ.1 r0, .int x1, .int x2, .int x3, .int x4] 106 (ic_rs sw) μ (some (.int R)) 106 (ic_rs sw) μ := by
  refine ic_C.of (L := [(0, ic_rv κ.1 r0), (1, .int x1), (2, .int x2), (3, .int x3), (4, .int x4)]) ⟨ic_cat _ _, rfl, rfl, rfl, rfl, trivial⟩ ⟨by decide +kernel, Nat.le_of_ble_eq_true rfl⟩ rfl ?_
  unfold fX5_inchesAfter at hf
  refine iw_iload_n (i := 3) (pc' := 1) 3 rfl (by decide +kernel) ?_
  refine iw_if_le (off := 38) (tg := 39) (pc' := 4) hf (by decide +kernel) (fun hf => ?_) (fun hf => ?_)
  · refine iw_iconst (i := 0) (v := (0 : Int32)) (pc' := 40) (by decide +kernel) ?_
    refine iw_iload_n (i := 1) (pc' := 41) 1 rfl (by decide +kernel) ?_
    refine iw_iload_n (i := 3) (pc' := 42) 3 rfl (by decide +kernel) ?_
    refine iw_iadd (pc' := 43) (by decide +kernel) ?_
    refine iw_aload_n (i := 0) (pc' := 44) 0 rfl (by decide +kernel) ?_
    refine iw_iload_n (i := 2) (pc' := 45) 2 rfl (by decide +kernel) ?_
    obtain ⟨v21, hc, hf⟩ := ic_bd hf
    refine iw_callV (pc' := 48) (S0 := [.int (x1 + x3), .int (0 : Int32)]) (S1 := [.int v21, .int (x1 + x3), .int (0 : Int32)]) (c1 := 0) (s1 := 0) (k := 1) (ct_X5_currentAt l κ sw μ r0 h0 x2 hc) h0 ⟨rfl, rfl⟩ mv_X5_currentAt lkm_X5_67 ⟨rfl, rfl⟩ (ic_sum8 ⟨rfl, rfl, trivial⟩ (Nat.le_of_ble_eq_true rfl)) (by unfold ic_rm; decide +kernel) ⟨rfl, rfl, rfl⟩ ⟨Nat.le_of_ble_eq_true rfl, Nat.le_of_ble_eq_true rfl⟩ ?_
    refine iw_isub (pc' := 49) (by decide +kernel) ?_
    refine iw_mmax (pc' := 52) lkm_X5_70 (ic_sum8 trivial (Nat.le_of_ble_eq_true rfl)) (by decide +kernel) ?_
    exact iw_ireturn (Option.some.inj hf) rfl rfl (by decide +kernel)
  · refine iw_iconst (i := 0) (v := (0 : Int32)) (pc' := 5) (by decide +kernel) ?_
    refine iw_iload_n (i := 3) (pc' := 6) 3 rfl (by decide +kernel) ?_
    refine iw_aload_n (i := 0) (pc' := 7) 0 rfl (by decide +kernel) ?_
    refine iw_iload_n (i := 2) (pc' := 8) 2 rfl (by decide +kernel) ?_
    obtain ⟨v22, hc, hf⟩ := ic_bd hf
    refine iw_callV (pc' := 11) (S0 := [.int x3, .int (0 : Int32)]) (S1 := [.int v22, .int x3, .int (0 : Int32)]) (c1 := 0) (s1 := 0) (k := 1) (ct_X5_currentAt l κ sw μ r0 h0 x2 hc) h0 ⟨rfl, rfl⟩ mv_X5_currentAt lkm_X5_67 ⟨rfl, rfl⟩ (ic_sum8 ⟨rfl, rfl, trivial⟩ (Nat.le_of_ble_eq_true rfl)) (by unfold ic_rm; decide +kernel) ⟨rfl, rfl, rfl⟩ ⟨Nat.le_of_ble_eq_true rfl, Nat.le_of_ble_eq_true rfl⟩ ?_
    refine iw_isub (pc' := 12) (by decide +kernel) ?_
    refine iw_mmax (pc' := 15) lkm_X5_70 (ic_sum8 trivial (Nat.le_of_ble_eq_true rfl)) (by decide +kernel) ?_
    refine iw_istore (i := 5) (pc' := 17) (L1 := fun x23 => [(0, ic_rv κ.1 r0), (1, .int x1), (2, .int x2), (3, .int x3), (4, .int x4), (5, .int x23)]) hf (fun _ => rfl) (by decide +kernel) (fun x23 hf => ?_)
    refine iw_bipush (i := 60) (v := (60 : Int32)) (pc' := 19) (by decide +kernel) ?_
    refine iw_iload_n (i := 1) (pc' := 20) 1 rfl (by decide +kernel) ?_
    refine iw_iload (i := 4) (pc' := 22) 4 rfl (by decide +kernel) ?_
    obtain ⟨q24, hf, hgq24⟩ := ic_bd hf
    have hjq24 : ic_W l κ MX5_inchesAfter ic_X0 (ic_Z κ MX5_inchesAfter (some (.int R)) 106 (ic_rs sw) μ) 34 [] [.int q24, .int x1, .int (60 : Int32)] 106 (ic_rs sw) μ 0 0 := by
      have hf := hgq24
      refine iw_iadd (pc' := 35) (by decide +kernel) ?_
      refine iw_mmin (pc' := 38) lkm_X5_76 (ic_sum8 trivial (Nat.le_of_ble_eq_true rfl)) (by decide +kernel) ?_
      exact iw_ireturn (Option.some.inj hf) rfl rfl (by decide +kernel)
    refine iw_if_eq (off := 10) (tg := 32) (pc' := 25) hf (by decide +kernel) (fun hf => ?_) (fun hf => ?_)
    · refine iw_iload (i := 5) (pc' := 34) 5 rfl (by decide +kernel) ?_
      obtain rfl := Option.some.inj hf
      exact iw_sub [] rfl hjq24
    · refine iw_iload (i := 5) (pc' := 27) 5 rfl (by decide +kernel) ?_
      refine iw_iconst (i := 2) (v := (2 : Int32)) (pc' := 28) (by decide +kernel) ?_
      refine iw_idiv (pc' := 29) hf (by decide +kernel) (fun hf => ?_)
      refine iw_goto (off := 5) (pc' := 34) (by decide +kernel) ?_
      obtain rfl := Option.some.inj hf
      exact iw_sub [] rfl hjq24
set_option maxRecDepth 100000 in
set_option maxHeartbeats 4000000 in
theorem lpX1_passNight_11_ok (l : Launch) (κ : ic_K) (sw : Nat) (r0_ : Nat) (r1_ : Nat) (x2_ : Int32) (h0_ : ic_isO 106 r0_ 1) (h1_ : ic_isO 106 r1_ 5) {Z : State → List Frame → Array Value → State → Prop} {R : ic_M} (hk : ic_W l κ MX1_passNight ic_X0 Z 46 [(0, ic_rv κ.1 r0_), (1, ic_rv κ.1 r1_), (2, .int x2_)] [] 106 (ic_rs sw) R 0 0) : ∀ (fu : Nat) (y3_ : Int32) (μ : ic_M), lpX1_passNight_11 r0_ r1_ x2_ fu y3_ μ = some R → ic_W l κ MX1_passNight ic_X0 Z 11 [(0, ic_rv κ.1 r0_), (1, ic_rv κ.1 r1_), (2, .int x2_), (3, .int y3_)] [] 106 (ic_rs sw) μ 0 0 := by
  intro fu
  induction fu with
  | zero =>
    intro y3_ μ hf
    exact absurd hf (by simp [lpX1_passNight_11])
  | succ fu ih =>
    intro y3_ μ hf
    rw [lpX1_passNight_11] at hf
    refine iw_iload_n (i := 3) (pc' := 12) 3 rfl (by decide +kernel) ?_
    refine iw_aload_n (i := 1) (pc' := 13) 1 rfl (by decide +kernel) ?_
    refine iw_geti (pc' := 16) ic_fk5 h1_ lkf_X1_22 (by decide +kernel) ?_
    refine iw_icmp_ge (off := 30) (tg := 46) (pc' := 19) hf (by decide +kernel) (fun hf => ?_) (fun hf => ?_)
    · obtain rfl := Option.some.inj hf
      exact iw_sub [0, 1, 2] rfl hk
    · refine iw_aload_n (i := 0) (pc' := 20) 0 rfl (by decide +kernel) ?_
      refine iw_iload_n (i := 3) (pc' := 21) 3 rfl (by decide +kernel) ?_
      refine iw_aload_n (i := 1) (pc' := 22) 1 rfl (by decide +kernel) ?_
      refine iw_aload_n (i := 0) (pc' := 23) 0 rfl (by decide +kernel) ?_
      refine iw_iload_n (i := 3) (pc' := 24) 3 rfl (by decide +kernel) ?_
      obtain ⟨v22, hc, hf⟩ := ic_bd hf
      refine iw_callV (pc' := 27) (S0 := [ic_rv κ.1 r1_, .int y3_, ic_rv κ.1 r0_]) (S1 := [.int v22, ic_rv κ.1 r1_, .int y3_, ic_rv κ.1 r0_]) (c1 := 0) (s1 := 0) (k := 1) (ct_X1_inchesOf l κ sw μ r0_ h0_ y3_ hc) h0_ ⟨rfl, rfl⟩ mv_X1_inchesOf lkm_X1_46 ⟨rfl, rfl⟩ (ic_sum8 ⟨ic_cat _ _, rfl, ic_cat _ _, trivial⟩ (Nat.le_of_ble_eq_true rfl)) (by unfold ic_rm; decide +kernel) ⟨rfl, rfl, rfl⟩ ⟨Nat.le_of_ble_eq_true rfl, Nat.le_of_ble_eq_true rfl⟩ ?_
      refine iw_iload_n (i := 3) (pc' := 28) 3 rfl (by decide +kernel) ?_
      refine iw_iload_n (i := 2) (pc' := 29) 2 rfl (by decide +kernel) ?_
      refine iw_aload_n (i := 0) (pc' := 30) 0 rfl (by decide +kernel) ?_
      refine iw_iload_n (i := 3) (pc' := 31) 3 rfl (by decide +kernel) ?_
      obtain ⟨v23, hc, hf⟩ := ic_bd hf
      refine iw_callV (pc' := 34) (S0 := [.int x2_, .int y3_, .int v22, ic_rv κ.1 r1_, .int y3_, ic_rv κ.1 r0_]) (S1 := [.int v23, .int x2_, .int y3_, .int v22, ic_rv κ.1 r1_, .int y3_, ic_rv κ.1 r0_]) (c1 := 0) (s1 := 0) (k := 1) (ct_X1_isSnowy l κ sw μ r0_ h0_ y3_ hc) h0_ ⟨rfl, rfl⟩ mv_X1_isSnowy lkm_X1_130 ⟨rfl, rfl⟩ (ic_sum8 ⟨rfl, rfl, rfl, ic_cat _ _, rfl, ic_cat _ _, trivial⟩ (Nat.le_of_ble_eq_true rfl)) (by unfold ic_rm; decide +kernel) ⟨rfl, rfl, rfl⟩ ⟨Nat.le_of_ble_eq_true rfl, Nat.le_of_ble_eq_true rfl⟩ ?_
      obtain ⟨v24, hc, hf⟩ := ic_bd hf
      refine iw_callV (pc' := 37) (S0 := [.int y3_, ic_rv κ.1 r0_]) (S1 := [.int v24, .int y3_, ic_rv κ.1 r0_]) (c1 := 0) (s1 := 0) (k := 4) (ct_X5_inchesAfter l κ sw μ r1_ h1_ v22 y3_ x2_ v23 hc) h1_ ⟨rfl, rfl⟩ mv_X5_inchesAfter lkm_X1_133 ⟨rfl, rfl⟩ (ic_sum8 ⟨rfl, ic_cat _ _, trivial⟩ (Nat.le_of_ble_eq_true rfl)) (by unfold ic_rm; decide +kernel) ⟨rfl, rfl, rfl⟩ ⟨Nat.le_of_ble_eq_true rfl, Nat.le_of_ble_eq_true rfl⟩ ?_
      obtain ⟨m25, hc, hf⟩ := ic_bd hf
      refine iw_callV (pc' := 40) (S0 := []) (S1 := []) (c1 := 0) (s1 := 0) (k := 2) (ct_X1_setInches l κ sw μ r0_ h0_ y3_ v24 hc) h0_ ⟨rfl, rfl⟩ mv_X1_setInches lkm_X1_120 ⟨rfl, rfl⟩ (ic_sum8 trivial (Nat.le_of_ble_eq_true rfl)) (by unfold ic_rm; decide +kernel) ⟨rfl, rfl, rfl⟩ ⟨Nat.le_of_ble_eq_true rfl, Nat.le_of_ble_eq_true rfl⟩ ?_
      refine iw_iinc (i := 3) (d := 1) (pc' := 43) (v := (1 : Int32)) (L1 := fun x26 => [(0, ic_rv κ.1 r0_), (1, ic_rv κ.1 r1_), (2, .int x2_), (3, .int x26)]) hf 3 rfl (fun _ => rfl) (by decide +kernel) (fun x26 hf => ?_)
      refine iw_goto (off := (-32)) (pc' := 11) (by decide +kernel) ?_
      exact iw_sub [0, 1, 2, 3] rfl (ih _ _ hf)
set_option maxRecDepth 100000 in
set_option maxHeartbeats 4000000 in
theorem ct_X1_passNight (l : Launch) (κ : ic_K) (sw : Nat) (μ : ic_M) (r0 : Nat) (h0 : ic_isO 106 r0 1) (r1 : Nat) (h1 : ic_isO 106 r1 5) {R : ic_M} (hf : fX1_passNight μ r0 r1 = some R) : ic_C l κ MX1_passNight [ic_rv κ.1 r0, ic_rv κ.1 r1] 106 (ic_rs sw) μ none 106 (ic_rs sw) R := by
  refine ic_C.of (L := [(0, ic_rv κ.1 r0), (1, ic_rv κ.1 r1)]) ⟨ic_cat _ _, ic_cat _ _, trivial⟩ ⟨by decide +kernel, Nat.le_of_ble_eq_true rfl⟩ rfl ?_
  unfold fX1_passNight at hf
  refine iw_aload_n (i := 1) (pc' := 1) 1 rfl (by decide +kernel) ?_
  refine iw_aload_n (i := 0) (pc' := 2) 0 rfl (by decide +kernel) ?_
  refine iw_geti (pc' := 5) ic_fk1 h0 lkf_X1_40 (by decide +kernel) ?_
  obtain ⟨v21, hc, hf⟩ := ic_bd hf
  refine iw_callV (pc' := 8) (S0 := []) (S1 := [.int v21]) (c1 := 0) (s1 := 0) (k := 1) (ct_X5_coldOf l κ sw μ r1 h1 (μ r0 3) hc) h1 ⟨rfl, rfl⟩ mv_X5_coldOf lkm_X1_127 ⟨rfl, rfl⟩ (ic_sum8 trivial (Nat.le_of_ble_eq_true rfl)) (by unfold ic_rm; decide +kernel) ⟨rfl, rfl, rfl⟩ ⟨Nat.le_of_ble_eq_true rfl, Nat.le_of_ble_eq_true rfl⟩ ?_
  refine iw_istore_n0 (i := 2) (pc' := 9) (L' := [(0, ic_rv κ.1 r0), (1, ic_rv κ.1 r1), (2, .int v21)]) rfl (by decide +kernel) ?_
  refine iw_iconst (i := 0) (v := (0 : Int32)) (pc' := 10) (by decide +kernel) ?_
  refine iw_istore_n0 (i := 3) (pc' := 11) (L' := [(0, ic_rv κ.1 r0), (1, ic_rv κ.1 r1), (2, .int v21), (3, .int (0 : Int32))]) rfl (by decide +kernel) ?_
  obtain ⟨q27, hf, hgq27⟩ := ic_bd hf
  have hjq27 : ic_W l κ MX1_passNight ic_X0 (ic_Z κ MX1_passNight none 106 (ic_rs sw) R) 46 [(0, ic_rv κ.1 r0), (1, ic_rv κ.1 r1), (2, .int v21)] [] 106 (ic_rs sw) q27 0 0 := by
    have hf := hgq27
    refine iw_iload_n (i := 2) (pc' := 47) 2 rfl (by decide +kernel) ?_
    obtain ⟨q28, hf, hgq28⟩ := ic_bd hf
    have hjq28 : ic_W l κ MX1_passNight ic_X0 (ic_Z κ MX1_passNight none 106 (ic_rs sw) R) 55 [(0, ic_rv κ.1 r0), (1, ic_rv κ.1 r1)] [] 106 (ic_rs sw) q28 0 0 := by
      have hf := hgq28
      refine iw_aload_n (i := 0) (pc' := 56) 0 rfl (by decide +kernel) ?_
      refine iw_dup (pc' := 57) (ic_cat _ _) (by decide +kernel) ?_
      refine iw_geti (pc' := 60) ic_fk1 h0 lkf_X1_40 (by decide +kernel) ?_
      refine iw_iconst (i := 1) (v := (1 : Int32)) (pc' := 61) (by decide +kernel) ?_
      refine iw_iadd (pc' := 62) (by decide +kernel) ?_
      refine iw_put (pc' := 65) hf ic_fk1 h0 lkf_X1_40 (by decide +kernel) (fun m30 hf => ?_)
      refine iw_aload_n (i := 0) (pc' := 66) 0 rfl (by decide +kernel) ?_
      refine iw_aload_n (i := 1) (pc' := 67) 1 rfl (by decide +kernel) ?_
      obtain ⟨q31, hc, hf⟩ := ic_bd hf
      refine iw_callV (pc' := 70) (S0 := []) (S1 := [.int q31.1]) (c1 := 0) (s1 := 0) (k := 1) (ct_X1_breakOn l κ sw m30 r0 h0 r1 h1 hc) h0 ⟨rfl, rfl⟩ mv_X1_breakOn lkm_X1_108 ⟨rfl, rfl⟩ (ic_sum8 trivial (Nat.le_of_ble_eq_true rfl)) (by unfold ic_rm; decide +kernel) ⟨rfl, rfl, rfl⟩ ⟨Nat.le_of_ble_eq_true rfl, Nat.le_of_ble_eq_true rfl⟩ ?_
      refine iw_pop (pc' := 71) rfl (by decide +kernel) ?_
      refine iw_aload_n (i := 0) (pc' := 72) 0 rfl (by decide +kernel) ?_
      refine iw_aload_n (i := 1) (pc' := 73) 1 rfl (by decide +kernel) ?_
      refine iw_aload_n (i := 0) (pc' := 74) 0 rfl (by decide +kernel) ?_
      refine iw_aload_n (i := 1) (pc' := 75) 1 rfl (by decide +kernel) ?_
      obtain ⟨v32, hc, hf⟩ := ic_bd hf
      refine iw_callV (pc' := 78) (S0 := [ic_rv κ.1 r1, ic_rv κ.1 r0]) (S1 := [.int v32, ic_rv κ.1 r1, ic_rv κ.1 r0]) (c1 := 0) (s1 := 0) (k := 1) (ct_X1_holes l κ sw q31.2 r0 h0 r1 h1 hc) h0 ⟨rfl, rfl⟩ mv_X1_holes lkm_X1_82 ⟨rfl, rfl⟩ (ic_sum8 ⟨ic_cat _ _, ic_cat _ _, trivial⟩ (Nat.le_of_ble_eq_true rfl)) (by unfold ic_rm; decide +kernel) ⟨rfl, rfl, rfl⟩ ⟨Nat.le_of_ble_eq_true rfl, Nat.le_of_ble_eq_true rfl⟩ ?_
      obtain ⟨m33, hc, hf⟩ := ic_bd hf
      refine iw_callV (pc' := 81) (S0 := []) (S1 := []) (c1 := 0) (s1 := 0) (k := 2) (ct_X1_drownOn l κ sw q31.2 r0 h0 r1 h1 v32 hc) h0 ⟨rfl, rfl⟩ mv_X1_drownOn lkm_X1_123 ⟨rfl, rfl⟩ (ic_sum8 trivial (Nat.le_of_ble_eq_true rfl)) (by unfold ic_rm; decide +kernel) ⟨rfl, rfl, rfl⟩ ⟨Nat.le_of_ble_eq_true rfl, Nat.le_of_ble_eq_true rfl⟩ ?_
      exact iw_vreturn rfl (Option.some.inj hf) (by decide +kernel)
    refine iw_if_gt (off := 8) (tg := 55) (pc' := 50) hf (by decide +kernel) (fun hf => ?_) (fun hf => ?_)
    · obtain rfl := Option.some.inj hf
      exact iw_sub [0, 1] rfl hjq28
    · refine iw_aload_n (i := 0) (pc' := 51) 0 rfl (by decide +kernel) ?_
      refine iw_iconst (i := 0) (v := (0 : Int32)) (pc' := 52) (by decide +kernel) ?_
      refine iw_put (pc' := 55) hf ic_fk1 h0 lkf_X1_37 (by decide +kernel) (fun m29 hf => ?_)
      obtain rfl := Option.some.inj hf
      exact iw_sub [0, 1] rfl hjq28
  exact iw_sub [0, 1, 2, 3] rfl (lpX1_passNight_11_ok l κ sw r0 r1 v21 h0 h1 hjq27 1000 (0 : Int32) μ hf)
set_option maxRecDepth 100000 in
set_option maxHeartbeats 4000000 in
theorem lpX1_comeSpring_7_ok (l : Launch) (κ : ic_K) (sw : Nat) (r0_ : Nat) (h0_ : ic_isO 106 r0_ 1) {Z : State → List Frame → Array Value → State → Prop} {R : ic_M} (hk : ic_W l κ MX1_comeSpring ic_X0 Z 40 [] [] 106 (ic_rs sw) R 0 0) : ∀ (fu : Nat) (y1_ : Int32) (μ : ic_M), lpX1_comeSpring_7 r0_ fu y1_ μ = some R → ic_W l κ MX1_comeSpring ic_X0 Z 7 [(0, ic_rv κ.1 r0_), (1, .int y1_)] [] 106 (ic_rs sw) μ 0 0 := by
  intro fu
  induction fu with
  | zero =>
    intro y1_ μ hf
    exact absurd hf (by simp [lpX1_comeSpring_7])
  | succ fu ih =>
    intro y1_ μ hf
    rw [lpX1_comeSpring_7] at hf
    refine iw_iload_n (i := 1) (pc' := 8) 1 rfl (by decide +kernel) ?_
    refine iw_aload_n (i := 0) (pc' := 9) 0 rfl (by decide +kernel) ?_
    refine iw_getr (pc' := 12) (q := (r0_ + 2)) ic_fk1 h0_ (ic_rs_o h0_ (by decide)) lkf_X1_15 (by decide +kernel) ?_
    refine iw_alen (pc' := 13) (v := (6 : Int32)) (ic_ice2 h0_) rfl (by decide +kernel) ?_
    refine iw_icmp_ge (off := 27) (tg := 40) (pc' := 16) hf (by decide +kernel) (fun hf => ?_) (fun hf => ?_)
    · obtain rfl := Option.some.inj hf
      exact iw_sub [] rfl hk
    · refine iw_aload_n (i := 0) (pc' := 17) 0 rfl (by decide +kernel) ?_
      refine iw_getr (pc' := 20) (q := (r0_ + 2)) ic_fk1 h0_ (ic_rs_o h0_ (by decide)) lkf_X1_15 (by decide +kernel) ?_
      refine iw_iload_n (i := 1) (pc' := 21) 1 rfl (by decide +kernel) ?_
      refine iw_iald (pc' := 22) hf (fun _ => (ic_ice2 h0_)) (by decide +kernel) (fun v22 hf => ?_)
      refine iw_bipush (i := (-2)) (v := (-2 : Int32)) (pc' := 24) (by decide +kernel) ?_
      obtain ⟨q23, hf, hgq23⟩ := ic_bd hf
      have hjq23 : ic_W l κ MX1_comeSpring ic_X0 Z 34 [(0, ic_rv κ.1 r0_), (1, .int y1_)] [] 106 (ic_rs sw) q23 0 0 := by
        have hf := hgq23
        refine iw_iinc (i := 1) (d := 1) (pc' := 37) (v := (1 : Int32)) (L1 := fun x25 => [(0, ic_rv κ.1 r0_), (1, .int x25)]) hf 1 rfl (fun _ => rfl) (by decide +kernel) (fun x25 hf => ?_)
        refine iw_goto (off := (-30)) (pc' := 7) (by decide +kernel) ?_
        exact iw_sub [0, 1] rfl (ih _ _ hf)
      refine iw_icmp_eq (off := 10) (tg := 34) (pc' := 27) hf (by decide +kernel) (fun hf => ?_) (fun hf => ?_)
      · obtain rfl := Option.some.inj hf
        exact iw_sub [0, 1] rfl hjq23
      · refine iw_aload_n (i := 0) (pc' := 28) 0 rfl (by decide +kernel) ?_
        refine iw_getr (pc' := 31) (q := (r0_ + 2)) ic_fk1 h0_ (ic_rs_o h0_ (by decide)) lkf_X1_15 (by decide +kernel) ?_
        refine iw_iload_n (i := 1) (pc' := 32) 1 rfl (by decide +kernel) ?_
        refine iw_iconst (i := (-1)) (v := (-1 : Int32)) (pc' := 33) (by decide +kernel) ?_
        refine iw_iast (pc' := 34) hf (fun _ => (ic_ice2 h0_)) (by decide +kernel) (fun m24 hf => ?_)
        obtain rfl := Option.some.inj hf
        exact iw_sub [0, 1] rfl hjq23
set_option maxRecDepth 100000 in
set_option maxHeartbeats 4000000 in
theorem ct_X1_comeSpring (l : Launch) (κ : ic_K) (sw : Nat) (μ : ic_M) (r0 : Nat) (h0 : ic_isO 106 r0 1) {R : ic_M} (hf : fX1_comeSpring μ r0 = some R) : ic_C l κ MX1_comeSpring [ic_rv κ.1 r0] 106 (ic_rs sw) μ none 106 (ic_rs sw) R := by
  refine ic_C.of (L := [(0, ic_rv κ.1 r0)]) ⟨ic_cat _ _, trivial⟩ ⟨by decide +kernel, Nat.le_of_ble_eq_true rfl⟩ rfl ?_
  unfold fX1_comeSpring at hf
  refine iw_aload_n (i := 0) (pc' := 1) 0 rfl (by decide +kernel) ?_
  refine iw_iconst (i := (-1)) (v := (-1 : Int32)) (pc' := 2) (by decide +kernel) ?_
  refine iw_put (pc' := 5) hf ic_fk1 h0 lkf_X1_18 (by decide +kernel) (fun m21 hf => ?_)
  refine iw_iconst (i := 0) (v := (0 : Int32)) (pc' := 6) (by decide +kernel) ?_
  refine iw_istore_n0 (i := 1) (pc' := 7) (L' := [(0, ic_rv κ.1 r0), (1, .int (0 : Int32))]) rfl (by decide +kernel) ?_
  obtain ⟨q26, hf, hgq26⟩ := ic_bd hf
  have hjq26 : ic_W l κ MX1_comeSpring ic_X0 (ic_Z κ MX1_comeSpring none 106 (ic_rs sw) R) 40 [] [] 106 (ic_rs sw) q26 0 0 := by
    have hf := hgq26
    exact iw_vreturn rfl (Option.some.inj hf) (by decide +kernel)
  exact iw_sub [0, 1] rfl (lpX1_comeSpring_7_ok l κ sw r0 h0 hjq26 1000 (0 : Int32) m21 hf)
set_option maxRecDepth 100000 in
set_option maxHeartbeats 4000000 in
theorem ct_X3_stateAt (l : Launch) (κ : ic_K) (sw : Nat) (μ : ic_M) (x1 : Int32) {R : Nat} (hf : fX3_stateAt μ x1 = some R) : ic_C l κ MX3_stateAt [ic_rv κ.1 7, .int x1] 106 (ic_rs sw) μ (some (ic_rv κ.1 R)) 106 (ic_rs sw) μ := by
  refine ic_C.of (L := [(0, ic_rv κ.1 7), (1, .int x1)]) ⟨ic_cat _ _, rfl, trivial⟩ ⟨by decide +kernel, Nat.le_of_ble_eq_true rfl⟩ rfl ?_
  unfold fX3_stateAt at hf
  refine iw_iload_n (i := 1) (pc' := 1) 1 rfl (by decide +kernel) ?_
  obtain ⟨q21, hf, hgq21⟩ := ic_bd hf
  have hjq21 : ic_W l κ MX3_stateAt ic_X0 (ic_Z κ MX3_stateAt (some (ic_rv κ.1 R)) 106 (ic_rs sw) μ) 23 [] [ic_rv κ.1 q21] 106 (ic_rs sw) μ 0 0 := by
    have hf := hgq21
    exact iw_areturn (C := "IceLaw$Ice") (Option.some.inj hf) rfl rfl (by decide +kernel)
  refine iw_if_lt (off := 21) (tg := 22) (pc' := 4) hf (by decide +kernel) (fun hf => ?_) (fun hf => ?_)
  · refine iw_null (pc' := 23) (by decide +kernel) ?_
    obtain rfl := Option.some.inj hf
    exact iw_sub [] rfl hjq21
  · refine iw_iload_n (i := 1) (pc' := 5) 1 rfl (by decide +kernel) ?_
    refine iw_aload_n (i := 0) (pc' := 6) 0 rfl (by decide +kernel) ?_
    refine iw_getr (pc' := 9) (q := 8) ic_fk3 cO_7 rfl lkf_X3_11 (by decide +kernel) ?_
    refine iw_qlen (pc' := 10) (v := (16 : Int32)) cQ_8 rfl (by decide +kernel) ?_
    refine iw_icmp_ge (off := 12) (tg := 22) (pc' := 13) hf (by decide +kernel) (fun hf => ?_) (fun hf => ?_)
    · refine iw_null (pc' := 23) (by decide +kernel) ?_
      obtain rfl := Option.some.inj hf
      exact iw_sub [] rfl hjq21
    · refine iw_aload_n (i := 0) (pc' := 14) 0 rfl (by decide +kernel) ?_
      refine iw_getr (pc' := 17) (q := 8) ic_fk3 cO_7 rfl lkf_X3_11 (by decide +kernel) ?_
      refine iw_iload_n (i := 1) (pc' := 18) 1 rfl (by decide +kernel) ?_
      refine iw_qald (pc' := 19) (q := (9 + 3 * Int32.toNatClampNeg x1)) hf cQ_8 (fun _ => rfl) (by decide +kernel) (fun hf _ => ?_)
      refine iw_goto (off := 4) (pc' := 23) (by decide +kernel) ?_
      obtain rfl := Option.some.inj hf
      exact iw_sub [] rfl hjq21
set_option maxRecDepth 100000 in
set_option maxHeartbeats 4000000 in
theorem ct_X3_remember (l : Launch) (κ : ic_K) (sw : Nat) (μ : ic_M) (r1 : Nat) (h1 : ic_isO 106 r1 1) {R : ic_M} (hf : fX3_remember μ r1 = some R) : ic_C l κ MX3_remember [ic_rv κ.1 7, ic_rv κ.1 r1] 106 (ic_rs sw) μ none 106 (ic_rs sw) R := by
  refine ic_C.of (L := [(0, ic_rv κ.1 7), (1, ic_rv κ.1 r1)]) ⟨ic_cat _ _, ic_cat _ _, trivial⟩ ⟨by decide +kernel, Nat.le_of_ble_eq_true rfl⟩ rfl ?_
  unfold fX3_remember at hf
  refine iw_aload_n (i := 0) (pc' := 1) 0 rfl (by decide +kernel) ?_
  refine iw_aload_n (i := 0) (pc' := 2) 0 rfl (by decide +kernel) ?_
  refine iw_geti (pc' := 5) ic_fk3 cO_7 lkf_X3_18 (by decide +kernel) ?_
  obtain ⟨v21, hc, hf⟩ := ic_bd hf
  refine iw_callV (pc' := 8) (S0 := []) (S1 := [ic_rv κ.1 v21]) (c1 := 0) (s1 := 0) (k := 1) (ct_X3_stateAt l κ sw μ (μ 7 1) hc) cO_7 ⟨rfl, rfl⟩ mv_X3_stateAt lkm_X3_22 ⟨rfl, rfl⟩ (ic_sum8 trivial (Nat.le_of_ble_eq_true rfl)) (by unfold ic_rm; decide +kernel) ⟨rfl, rfl, rfl⟩ ⟨Nat.le_of_ble_eq_true rfl, Nat.le_of_ble_eq_true rfl⟩ ?_
  refine iw_astore_n (i := 2) (pc' := 9) (L' := [(0, ic_rv κ.1 7), (1, ic_rv κ.1 r1), (2, ic_rv κ.1 v21)]) rfl (by decide +kernel) ?_
  refine iw_aload_n (i := 2) (pc' := 10) 2 rfl (by decide +kernel) ?_
  obtain ⟨q22, hf, hgq22⟩ := ic_bd hf
  have hjq22 : ic_W l κ MX3_remember ic_X0 (ic_Z κ MX3_remember none 106 (ic_rs sw) R) 64 [] [] 106 (ic_rs sw) q22 0 0 := by
    have hf := hgq22
    exact iw_vreturn rfl (Option.some.inj hf) (by decide +kernel)
  refine iw_ifnull (off := 54) (tg := 64) (pc' := 13) hf (by decide +kernel) (fun hf => ?_) (fun hf => ?_)
  · obtain rfl := Option.some.inj hf
    exact iw_sub [] rfl hjq22
  · refine iw_aload_n (i := 2) (pc' := 14) 2 rfl (by decide +kernel) ?_
    refine iw_aload_n (i := 1) (pc' := 15) 1 rfl (by decide +kernel) ?_
    obtain ⟨h23, hf⟩ := ic_ck_of hf
    obtain ⟨m24, hc, hf⟩ := ic_bd hf
    refine iw_callV (pc' := 18) (S0 := []) (S1 := []) (c1 := 0) (s1 := 0) (k := 1) (ct_X1_copyFrom l κ sw μ v21 h23 r1 h1 hc) h23 ⟨rfl, rfl⟩ mv_X1_copyFrom lkm_X3_26 ⟨rfl, rfl⟩ (ic_sum8 trivial (Nat.le_of_ble_eq_true rfl)) (by unfold ic_rm; decide +kernel) ⟨rfl, rfl, rfl⟩ ⟨Nat.le_of_ble_eq_true rfl, Nat.le_of_ble_eq_true rfl⟩ ?_
    refine iw_aload_n (i := 0) (pc' := 19) 0 rfl (by decide +kernel) ?_
    refine iw_aload_n (i := 0) (pc' := 20) 0 rfl (by decide +kernel) ?_
    refine iw_geti (pc' := 23) ic_fk3 cO_7 lkf_X3_18 (by decide +kernel) ?_
    refine iw_aload_n (i := 0) (pc' := 24) 0 rfl (by decide +kernel) ?_
    refine iw_getr (pc' := 27) (q := 8) ic_fk3 cO_7 rfl lkf_X3_11 (by decide +kernel) ?_
    refine iw_qlen (pc' := 28) (v := (16 : Int32)) cQ_8 rfl (by decide +kernel) ?_
    refine iw_iconst (i := 1) (v := (1 : Int32)) (pc' := 29) (by decide +kernel) ?_
    refine iw_isub (pc' := 30) (by decide +kernel) ?_
    obtain ⟨q25, hf, hgq25⟩ := ic_bd hf
    have hjq25 : ic_W l κ MX3_remember ic_X0 (ic_Z κ MX3_remember none 106 (ic_rs sw) R) 43 [(0, ic_rv κ.1 7)] [.int q25, ic_rv κ.1 7] 106 (ic_rs sw) m24 0 0 := by
      have hf := hgq25
      refine iw_put (pc' := 46) hf ic_fk3 cO_7 lkf_X3_18 (by decide +kernel) (fun m26 hf => ?_)
      refine iw_aload_n (i := 0) (pc' := 47) 0 rfl (by decide +kernel) ?_
      refine iw_aload_n (i := 0) (pc' := 48) 0 rfl (by decide +kernel) ?_
      refine iw_geti (pc' := 51) ic_fk3 cO_7 lkf_X3_30 (by decide +kernel) ?_
      refine iw_iconst (i := 1) (v := (1 : Int32)) (pc' := 52) (by decide +kernel) ?_
      refine iw_iadd (pc' := 53) (by decide +kernel) ?_
      refine iw_aload_n (i := 0) (pc' := 54) 0 rfl (by decide +kernel) ?_
      refine iw_getr (pc' := 57) (q := 8) ic_fk3 cO_7 rfl lkf_X3_11 (by decide +kernel) ?_
      refine iw_qlen (pc' := 58) (v := (16 : Int32)) cQ_8 rfl (by decide +kernel) ?_
      refine iw_mmin (pc' := 61) lkm_X3_33 (ic_sum8 ⟨ic_cat _ _, trivial⟩ (Nat.le_of_ble_eq_true rfl)) (by decide +kernel) ?_
      refine iw_put (pc' := 64) hf ic_fk3 cO_7 lkf_X3_30 (by decide +kernel) (fun m27 hf => ?_)
      obtain rfl := Option.some.inj hf
      exact iw_sub [] rfl hjq22
    refine iw_icmp_ne (off := 7) (tg := 37) (pc' := 33) hf (by decide +kernel) (fun hf => ?_) (fun hf => ?_)
    · refine iw_aload_n (i := 0) (pc' := 38) 0 rfl (by decide +kernel) ?_
      refine iw_geti (pc' := 41) ic_fk3 cO_7 lkf_X3_18 (by decide +kernel) ?_
      refine iw_iconst (i := 1) (v := (1 : Int32)) (pc' := 42) (by decide +kernel) ?_
      refine iw_iadd (pc' := 43) (by decide +kernel) ?_
      obtain rfl := Option.some.inj hf
      exact iw_sub [0] rfl hjq25
    · refine iw_iconst (i := 0) (v := (0 : Int32)) (pc' := 34) (by decide +kernel) ?_
      refine iw_goto (off := 9) (pc' := 43) (by decide +kernel) ?_
      obtain rfl := Option.some.inj hf
      exact iw_sub [0] rfl hjq25
set_option maxRecDepth 100000 in
set_option maxHeartbeats 4000000 in
theorem ct_X3_restore (l : Launch) (κ : ic_K) (sw : Nat) (μ : ic_M) (r1 : Nat) (h1 : ic_isO 106 r1 1) {R : Int32 × ic_M} (hf : fX3_restore μ r1 = some R) : ic_C l κ MX3_restore [ic_rv κ.1 7, ic_rv κ.1 r1] 106 (ic_rs sw) μ (some (.int R.1)) 106 (ic_rs sw) R.2 := by
  refine ic_C.of (L := [(0, ic_rv κ.1 7), (1, ic_rv κ.1 r1)]) ⟨ic_cat _ _, ic_cat _ _, trivial⟩ ⟨by decide +kernel, Nat.le_of_ble_eq_true rfl⟩ rfl ?_
  unfold fX3_restore at hf
  refine iw_aload_n (i := 0) (pc' := 1) 0 rfl (by decide +kernel) ?_
  refine iw_geti (pc' := 4) ic_fk3 cO_7 lkf_X3_18 (by decide +kernel) ?_
  obtain ⟨q21, hf, hgq21⟩ := ic_bd hf
  have hjq21 : ic_W l κ MX3_restore ic_X0 (ic_Z κ MX3_restore (some (.int R.1)) 106 (ic_rs sw) R.2) 23 [(0, ic_rv κ.1 7), (1, ic_rv κ.1 r1)] [.int q21] 106 (ic_rs sw) μ 0 0 := by
    have hf := hgq21
    refine iw_istore_n0 (i := 2) (pc' := 24) (L' := [(0, ic_rv κ.1 7), (1, ic_rv κ.1 r1), (2, .int q21)]) rfl (by decide +kernel) ?_
    refine iw_aload_n (i := 0) (pc' := 25) 0 rfl (by decide +kernel) ?_
    refine iw_iload_n (i := 2) (pc' := 26) 2 rfl (by decide +kernel) ?_
    obtain ⟨v22, hc, hf⟩ := ic_bd hf
    refine iw_callV (pc' := 29) (S0 := []) (S1 := [ic_rv κ.1 v22]) (c1 := 0) (s1 := 0) (k := 1) (ct_X3_stateAt l κ sw μ q21 hc) cO_7 ⟨rfl, rfl⟩ mv_X3_stateAt lkm_X3_22 ⟨rfl, rfl⟩ (ic_sum8 trivial (Nat.le_of_ble_eq_true rfl)) (by unfold ic_rm; decide +kernel) ⟨rfl, rfl, rfl⟩ ⟨Nat.le_of_ble_eq_true rfl, Nat.le_of_ble_eq_true rfl⟩ ?_
    refine iw_astore_n (i := 3) (pc' := 30) (L' := [(0, ic_rv κ.1 7), (1, ic_rv κ.1 r1), (2, .int q21), (3, ic_rv κ.1 v22)]) rfl (by decide +kernel) ?_
    refine iw_aload_n (i := 0) (pc' := 31) 0 rfl (by decide +kernel) ?_
    refine iw_geti (pc' := 34) ic_fk3 cO_7 lkf_X3_30 (by decide +kernel) ?_
    refine iw_iconst (i := 1) (v := (1 : Int32)) (pc' := 35) (by decide +kernel) ?_
    refine iw_icmp_lt (off := 7) (tg := 42) (pc' := 38) hf (by decide +kernel) (fun hf => ?_) (fun hf => ?_)
    · refine iw_iconst (i := 0) (v := (0 : Int32)) (pc' := 43) (by decide +kernel) ?_
      obtain ⟨hb, hf⟩ := ic_rz_of hf
      exact iw_zreturn hb (ic_q1 (Option.some.inj hf)) rfl (ic_q2 (Option.some.inj hf)) (by decide +kernel)
    · refine iw_aload_n (i := 3) (pc' := 39) 3 rfl (by decide +kernel) ?_
      refine iw_ifnonnull (off := 5) (tg := 44) (pc' := 42) hf (by decide +kernel) (fun hf => ?_) (fun hf => ?_)
      · refine iw_aload_n (i := 1) (pc' := 45) 1 rfl (by decide +kernel) ?_
        refine iw_aload_n (i := 3) (pc' := 46) 3 rfl (by decide +kernel) ?_
        obtain ⟨h23, hf⟩ := ic_ck_of hf
        obtain ⟨m24, hc, hf⟩ := ic_bd hf
        refine iw_callV (pc' := 49) (S0 := []) (S1 := []) (c1 := 0) (s1 := 0) (k := 1) (ct_X1_copyFrom l κ sw μ r1 h1 v22 h23 hc) h1 ⟨rfl, rfl⟩ mv_X1_copyFrom lkm_X3_26 ⟨rfl, rfl⟩ (ic_sum8 trivial (Nat.le_of_ble_eq_true rfl)) (by unfold ic_rm; decide +kernel) ⟨rfl, rfl, rfl⟩ ⟨Nat.le_of_ble_eq_true rfl, Nat.le_of_ble_eq_true rfl⟩ ?_
        refine iw_aload_n (i := 0) (pc' := 50) 0 rfl (by decide +kernel) ?_
        refine iw_iload_n (i := 2) (pc' := 51) 2 rfl (by decide +kernel) ?_
        refine iw_put (pc' := 54) hf ic_fk3 cO_7 lkf_X3_18 (by decide +kernel) (fun m25 hf => ?_)
        refine iw_aload_n (i := 0) (pc' := 55) 0 rfl (by decide +kernel) ?_
        refine iw_dup (pc' := 56) (ic_cat _ _) (by decide +kernel) ?_
        refine iw_geti (pc' := 59) ic_fk3 cO_7 lkf_X3_30 (by decide +kernel) ?_
        refine iw_iconst (i := 1) (v := (1 : Int32)) (pc' := 60) (by decide +kernel) ?_
        refine iw_isub (pc' := 61) (by decide +kernel) ?_
        refine iw_put (pc' := 64) hf ic_fk3 cO_7 lkf_X3_30 (by decide +kernel) (fun m26 hf => ?_)
        refine iw_iconst (i := 1) (v := (1 : Int32)) (pc' := 65) (by decide +kernel) ?_
        obtain ⟨hb, hf⟩ := ic_rz_of hf
        exact iw_zreturn hb (ic_q1 (Option.some.inj hf)) rfl (ic_q2 (Option.some.inj hf)) (by decide +kernel)
      · refine iw_iconst (i := 0) (v := (0 : Int32)) (pc' := 43) (by decide +kernel) ?_
        obtain ⟨hb, hf⟩ := ic_rz_of hf
        exact iw_zreturn hb (ic_q1 (Option.some.inj hf)) rfl (ic_q2 (Option.some.inj hf)) (by decide +kernel)
  refine iw_if_ne (off := 13) (tg := 17) (pc' := 7) hf (by decide +kernel) (fun hf => ?_) (fun hf => ?_)
  · refine iw_aload_n (i := 0) (pc' := 18) 0 rfl (by decide +kernel) ?_
    refine iw_geti (pc' := 21) ic_fk3 cO_7 lkf_X3_18 (by decide +kernel) ?_
    refine iw_iconst (i := 1) (v := (1 : Int32)) (pc' := 22) (by decide +kernel) ?_
    refine iw_isub (pc' := 23) (by decide +kernel) ?_
    obtain rfl := Option.some.inj hf
    exact iw_sub [0, 1] rfl hjq21
  · refine iw_aload_n (i := 0) (pc' := 8) 0 rfl (by decide +kernel) ?_
    refine iw_getr (pc' := 11) (q := 8) ic_fk3 cO_7 rfl lkf_X3_11 (by decide +kernel) ?_
    refine iw_qlen (pc' := 12) (v := (16 : Int32)) cQ_8 rfl (by decide +kernel) ?_
    refine iw_iconst (i := 1) (v := (1 : Int32)) (pc' := 13) (by decide +kernel) ?_
    refine iw_isub (pc' := 14) (by decide +kernel) ?_
    refine iw_goto (off := 9) (pc' := 23) (by decide +kernel) ?_
    obtain rfl := Option.some.inj hf
    exact iw_sub [0, 1] rfl hjq21
set_option maxRecDepth 100000 in
set_option maxHeartbeats 4000000 in
theorem ct_X4_add (l : Launch) (κ : ic_K) (sw : Nat) (μ : ic_M) (x1 : Int32) {R : Int32 × ic_M} (hf : fX4_add μ x1 = some R) : ic_C l κ MX4_add [ic_rv κ.1 2, .int x1] 106 (ic_rs sw) μ (some (.int R.1)) 106 (ic_rs sw) R.2 := by
  refine ic_C.of (L := [(0, ic_rv κ.1 2), (1, .int x1)]) ⟨ic_cat _ _, rfl, trivial⟩ ⟨by decide +kernel, Nat.le_of_ble_eq_true rfl⟩ rfl ?_
  unfold fX4_add at hf
  refine iw_aload_n (i := 0) (pc' := 1) 0 rfl (by decide +kernel) ?_
  refine iw_geti (pc' := 4) ic_fk4 cO_2 lkf_X4_15 (by decide +kernel) ?_
  refine iw_if_lt (off := 15) (tg := 19) (pc' := 7) hf (by decide +kernel) (fun hf => ?_) (fun hf => ?_)
  · refine iw_iconst (i := 0) (v := (0 : Int32)) (pc' := 20) (by decide +kernel) ?_
    obtain ⟨hb, hf⟩ := ic_rz_of hf
    exact iw_zreturn hb (ic_q1 (Option.some.inj hf)) rfl (ic_q2 (Option.some.inj hf)) (by decide +kernel)
  · refine iw_aload_n (i := 0) (pc' := 8) 0 rfl (by decide +kernel) ?_
    refine iw_geti (pc' := 11) ic_fk4 cO_2 lkf_X4_15 (by decide +kernel) ?_
    refine iw_aload_n (i := 0) (pc' := 12) 0 rfl (by decide +kernel) ?_
    refine iw_getr (pc' := 15) (q := 3) ic_fk4 cO_2 rfl lkf_X4_9 (by decide +kernel) ?_
    refine iw_alen (pc' := 16) (v := (240 : Int32)) cI_3 rfl (by decide +kernel) ?_
    refine iw_icmp_lt (off := 5) (tg := 21) (pc' := 19) hf (by decide +kernel) (fun hf => ?_) (fun hf => ?_)
    · refine iw_aload_n (i := 0) (pc' := 22) 0 rfl (by decide +kernel) ?_
      refine iw_getr (pc' := 25) (q := 3) ic_fk4 cO_2 rfl lkf_X4_9 (by decide +kernel) ?_
      refine iw_aload_n (i := 0) (pc' := 26) 0 rfl (by decide +kernel) ?_
      refine iw_geti (pc' := 29) ic_fk4 cO_2 lkf_X4_15 (by decide +kernel) ?_
      refine iw_iload_n (i := 1) (pc' := 30) 1 rfl (by decide +kernel) ?_
      refine iw_iast (pc' := 31) hf (fun _ => cI_3) (by decide +kernel) (fun m21 hf => ?_)
      refine iw_aload_n (i := 0) (pc' := 32) 0 rfl (by decide +kernel) ?_
      refine iw_dup (pc' := 33) (ic_cat _ _) (by decide +kernel) ?_
      refine iw_geti (pc' := 36) ic_fk4 cO_2 lkf_X4_15 (by decide +kernel) ?_
      refine iw_iconst (i := 1) (v := (1 : Int32)) (pc' := 37) (by decide +kernel) ?_
      refine iw_iadd (pc' := 38) (by decide +kernel) ?_
      refine iw_put (pc' := 41) hf ic_fk4 cO_2 lkf_X4_15 (by decide +kernel) (fun m22 hf => ?_)
      refine iw_iconst (i := 1) (v := (1 : Int32)) (pc' := 42) (by decide +kernel) ?_
      obtain ⟨hb, hf⟩ := ic_rz_of hf
      exact iw_zreturn hb (ic_q1 (Option.some.inj hf)) rfl (ic_q2 (Option.some.inj hf)) (by decide +kernel)
    · refine iw_iconst (i := 0) (v := (0 : Int32)) (pc' := 20) (by decide +kernel) ?_
      obtain ⟨hb, hf⟩ := ic_rz_of hf
      exact iw_zreturn hb (ic_q1 (Option.some.inj hf)) rfl (ic_q2 (Option.some.inj hf)) (by decide +kernel)
set_option maxRecDepth 100000 in
set_option maxHeartbeats 4000000 in
theorem ct_X5_clear (l : Launch) (κ : ic_K) (sw : Nat) (μ : ic_M) (r0 : Nat) (h0 : ic_isO 106 r0 5) {R : ic_M} (hf : fX5_clear μ r0 = some R) : ic_C l κ MX5_clear [ic_rv κ.1 r0] 106 (ic_rs sw) μ none 106 (ic_rs sw) R := by
  refine ic_C.of (L := [(0, ic_rv κ.1 r0)]) ⟨ic_cat _ _, trivial⟩ ⟨by decide +kernel, Nat.le_of_ble_eq_true rfl⟩ rfl ?_
  unfold fX5_clear at hf
  refine iw_aload_n (i := 0) (pc' := 1) 0 rfl (by decide +kernel) ?_
  refine iw_iconst (i := 0) (v := (0 : Int32)) (pc' := 2) (by decide +kernel) ?_
  refine iw_put (pc' := 5) hf ic_fk5 h0 lkf_X5_27 (by decide +kernel) (fun m21 hf => ?_)
  refine iw_aload_n (i := 0) (pc' := 6) 0 rfl (by decide +kernel) ?_
  refine iw_iconst (i := 0) (v := (0 : Int32)) (pc' := 7) (by decide +kernel) ?_
  refine iw_put (pc' := 10) hf ic_fk5 h0 lkf_X5_31 (by decide +kernel) (fun m22 hf => ?_)
  refine iw_aload_n (i := 0) (pc' := 11) 0 rfl (by decide +kernel) ?_
  refine iw_iconst (i := 0) (v := (0 : Int32)) (pc' := 12) (by decide +kernel) ?_
  refine iw_put (pc' := 15) hf ic_fk5 h0 lkf_X5_34 (by decide +kernel) (fun m23 hf => ?_)
  refine iw_aload_n (i := 0) (pc' := 16) 0 rfl (by decide +kernel) ?_
  refine iw_iconst (i := 0) (v := (0 : Int32)) (pc' := 17) (by decide +kernel) ?_
  refine iw_put (pc' := 20) hf ic_fk5 h0 lkf_X5_37 (by decide +kernel) (fun m24 hf => ?_)
  refine iw_aload_n (i := 0) (pc' := 21) 0 rfl (by decide +kernel) ?_
  refine iw_iconst (i := 0) (v := (0 : Int32)) (pc' := 22) (by decide +kernel) ?_
  refine iw_put (pc' := 25) hf ic_fk5 h0 lkf_X5_40 (by decide +kernel) (fun m25 hf => ?_)
  refine iw_aload_n (i := 0) (pc' := 26) 0 rfl (by decide +kernel) ?_
  refine iw_iconst (i := 0) (v := (0 : Int32)) (pc' := 27) (by decide +kernel) ?_
  refine iw_put (pc' := 30) hf ic_fk5 h0 lkf_X5_43 (by decide +kernel) (fun m26 hf => ?_)
  refine iw_aload_n (i := 0) (pc' := 31) 0 rfl (by decide +kernel) ?_
  refine iw_iconst (i := 0) (v := (0 : Int32)) (pc' := 32) (by decide +kernel) ?_
  refine iw_put (pc' := 35) hf ic_fk5 h0 lkf_X5_46 (by decide +kernel) (fun m27 hf => ?_)
  refine iw_aload_n (i := 0) (pc' := 36) 0 rfl (by decide +kernel) ?_
  refine iw_iconst (i := 0) (v := (0 : Int32)) (pc' := 37) (by decide +kernel) ?_
  refine iw_put (pc' := 40) hf ic_fk5 h0 lkf_X5_49 (by decide +kernel) (fun m28 hf => ?_)
  exact iw_vreturn rfl (Option.some.inj hf) (by decide +kernel)
set_option maxRecDepth 100000 in
set_option maxHeartbeats 4000000 in
theorem ct_X4_sign (l : Launch) (κ : ic_K) (sw : Nat) (μ : ic_M) {R : Int32} (hf : fX4_sign μ = some R) : ic_C l κ MX4_sign [ic_rv κ.1 2] 106 (ic_rs sw) μ (some (.int R)) 106 (ic_rs sw) μ := by
  refine ic_C.of (L := [(0, ic_rv κ.1 2)]) ⟨ic_cat _ _, trivial⟩ ⟨by decide +kernel, Nat.le_of_ble_eq_true rfl⟩ rfl ?_
  unfold fX4_sign at hf
  refine iw_aload_n (i := 0) (pc' := 1) 0 rfl (by decide +kernel) ?_
  refine iw_geti (pc' := 4) ic_fk4 cO_2 lkf_X4_19 (by decide +kernel) ?_
  obtain ⟨q21, hf, hgq21⟩ := ic_bd hf
  have hjq21 : ic_W l κ MX4_sign ic_X0 (ic_Z κ MX4_sign (some (.int R)) 106 (ic_rs sw) μ) 43 [] [.int q21] 106 (ic_rs sw) μ 0 0 := by
    have hf := hgq21
    exact iw_ireturn (Option.some.inj hf) rfl rfl (by decide +kernel)
  refine iw_if_lt (off := 38) (tg := 42) (pc' := 7) hf (by decide +kernel) (fun hf => ?_) (fun hf => ?_)
  · refine iw_iconst (i := (-1)) (v := (-1 : Int32)) (pc' := 43) (by decide +kernel) ?_
    obtain rfl := Option.some.inj hf
    exact iw_sub [] rfl hjq21
  · refine iw_aload_n (i := 0) (pc' := 8) 0 rfl (by decide +kernel) ?_
    refine iw_geti (pc' := 11) ic_fk4 cO_2 lkf_X4_19 (by decide +kernel) ?_
    refine iw_aload_n (i := 0) (pc' := 12) 0 rfl (by decide +kernel) ?_
    refine iw_geti (pc' := 15) ic_fk4 cO_2 lkf_X4_15 (by decide +kernel) ?_
    refine iw_icmp_ge (off := 27) (tg := 42) (pc' := 18) hf (by decide +kernel) (fun hf => ?_) (fun hf => ?_)
    · refine iw_iconst (i := (-1)) (v := (-1 : Int32)) (pc' := 43) (by decide +kernel) ?_
      obtain rfl := Option.some.inj hf
      exact iw_sub [] rfl hjq21
    · refine iw_aload_n (i := 0) (pc' := 19) 0 rfl (by decide +kernel) ?_
      refine iw_geti (pc' := 22) ic_fk4 cO_2 lkf_X4_19 (by decide +kernel) ?_
      refine iw_aload_n (i := 0) (pc' := 23) 0 rfl (by decide +kernel) ?_
      refine iw_getr (pc' := 26) (q := 3) ic_fk4 cO_2 rfl lkf_X4_9 (by decide +kernel) ?_
      refine iw_alen (pc' := 27) (v := (240 : Int32)) cI_3 rfl (by decide +kernel) ?_
      refine iw_icmp_ge (off := 15) (tg := 42) (pc' := 30) hf (by decide +kernel) (fun hf => ?_) (fun hf => ?_)
      · refine iw_iconst (i := (-1)) (v := (-1 : Int32)) (pc' := 43) (by decide +kernel) ?_
        obtain rfl := Option.some.inj hf
        exact iw_sub [] rfl hjq21
      · refine iw_aload_n (i := 0) (pc' := 31) 0 rfl (by decide +kernel) ?_
        refine iw_getr (pc' := 34) (q := 3) ic_fk4 cO_2 rfl lkf_X4_9 (by decide +kernel) ?_
        refine iw_aload_n (i := 0) (pc' := 35) 0 rfl (by decide +kernel) ?_
        refine iw_geti (pc' := 38) ic_fk4 cO_2 lkf_X4_19 (by decide +kernel) ?_
        refine iw_iald (pc' := 39) hf (fun _ => cI_3) (by decide +kernel) (fun v22 hf => ?_)
        refine iw_goto (off := 4) (pc' := 43) (by decide +kernel) ?_
        obtain rfl := Option.some.inj hf
        exact iw_sub [] rfl hjq21
set_option maxRecDepth 100000 in
set_option maxHeartbeats 4000000 in
theorem lpX4_skipBlanks_0_ok (l : Launch) (κ : ic_K) (sw : Nat)  {Z : State → List Frame → Array Value → State → Prop} {R : ic_M} (hk : ic_W l κ MX4_skipBlanks ic_X0 Z 33 [] [] 106 (ic_rs sw) R 0 0) : ∀ (fu : Nat) (μ : ic_M), lpX4_skipBlanks_0  fu μ = some R → ic_W l κ MX4_skipBlanks ic_X0 Z 0 [(0, ic_rv κ.1 2)] [] 106 (ic_rs sw) μ 0 0 := by
  intro fu
  induction fu with
  | zero =>
    intro μ hf
    exact absurd hf (by simp [lpX4_skipBlanks_0])
  | succ fu ih =>
    intro μ hf
    rw [lpX4_skipBlanks_0] at hf
    refine iw_aload_n (i := 0) (pc' := 1) 0 rfl (by decide +kernel) ?_
    refine iw_geti (pc' := 4) ic_fk4 cO_2 lkf_X4_19 (by decide +kernel) ?_
    refine iw_aload_n (i := 0) (pc' := 5) 0 rfl (by decide +kernel) ?_
    refine iw_geti (pc' := 8) ic_fk4 cO_2 lkf_X4_15 (by decide +kernel) ?_
    refine iw_icmp_ge (off := 25) (tg := 33) (pc' := 11) hf (by decide +kernel) (fun hf => ?_) (fun hf => ?_)
    · obtain rfl := Option.some.inj hf
      exact iw_sub [] rfl hk
    · refine iw_aload_n (i := 0) (pc' := 12) 0 rfl (by decide +kernel) ?_
      obtain ⟨v21, hc, hf⟩ := ic_bd hf
      refine iw_callV (pc' := 15) (S0 := []) (S1 := [.int v21]) (c1 := 0) (s1 := 0) (k := 0) (ct_X4_sign l κ sw μ hc) cO_2 ⟨rfl, rfl⟩ mv_X4_sign lkm_X4_36 ⟨rfl, rfl⟩ (ic_sum8 trivial (Nat.le_of_ble_eq_true rfl)) (by unfold ic_rm; decide +kernel) ⟨rfl, rfl, rfl⟩ ⟨Nat.le_of_ble_eq_true rfl, Nat.le_of_ble_eq_true rfl⟩ ?_
      refine iw_bipush (i := 32) (v := (32 : Int32)) (pc' := 17) (by decide +kernel) ?_
      refine iw_icmp_ne (off := 16) (tg := 33) (pc' := 20) hf (by decide +kernel) (fun hf => ?_) (fun hf => ?_)
      · obtain rfl := Option.some.inj hf
        exact iw_sub [] rfl hk
      · refine iw_aload_n (i := 0) (pc' := 21) 0 rfl (by decide +kernel) ?_
        refine iw_dup (pc' := 22) (ic_cat _ _) (by decide +kernel) ?_
        refine iw_geti (pc' := 25) ic_fk4 cO_2 lkf_X4_19 (by decide +kernel) ?_
        refine iw_iconst (i := 1) (v := (1 : Int32)) (pc' := 26) (by decide +kernel) ?_
        refine iw_iadd (pc' := 27) (by decide +kernel) ?_
        refine iw_put (pc' := 30) hf ic_fk4 cO_2 lkf_X4_19 (by decide +kernel) (fun m22 hf => ?_)
        refine iw_goto (off := (-30)) (pc' := 0) (by decide +kernel) ?_
        exact iw_sub [0] rfl (ih _ hf)
set_option maxRecDepth 100000 in
set_option maxHeartbeats 4000000 in
theorem ct_X4_skipBlanks (l : Launch) (κ : ic_K) (sw : Nat) (μ : ic_M) {R : ic_M} (hf : fX4_skipBlanks μ = some R) : ic_C l κ MX4_skipBlanks [ic_rv κ.1 2] 106 (ic_rs sw) μ none 106 (ic_rs sw) R := by
  refine ic_C.of (L := [(0, ic_rv κ.1 2)]) ⟨ic_cat _ _, trivial⟩ ⟨by decide +kernel, Nat.le_of_ble_eq_true rfl⟩ rfl ?_
  unfold fX4_skipBlanks at hf
  obtain ⟨q23, hf, hgq23⟩ := ic_bd hf
  have hjq23 : ic_W l κ MX4_skipBlanks ic_X0 (ic_Z κ MX4_skipBlanks none 106 (ic_rs sw) R) 33 [] [] 106 (ic_rs sw) q23 0 0 := by
    have hf := hgq23
    exact iw_vreturn rfl (Option.some.inj hf) (by decide +kernel)
  exact iw_sub [0] rfl (lpX4_skipBlanks_0_ok l κ sw  hjq23 1000 μ hf)
set_option maxRecDepth 100000 in
set_option maxHeartbeats 4000000 in
theorem ct_X4_blame (l : Launch) (κ : ic_K) (sw : Nat) (μ : ic_M) (x1 : Int32) (x2 : Int32) {R : ic_M} (hf : fX4_blame μ x1 x2 = some R) : ic_C l κ MX4_blame [ic_rv κ.1 2, .int x1, .int x2] 106 (ic_rs sw) μ none 106 (ic_rs sw) R := by
  refine ic_C.of (L := [(0, ic_rv κ.1 2), (1, .int x1), (2, .int x2)]) ⟨ic_cat _ _, rfl, rfl, trivial⟩ ⟨by decide +kernel, Nat.le_of_ble_eq_true rfl⟩ rfl ?_
  unfold fX4_blame at hf
  refine iw_aload_n (i := 0) (pc' := 1) 0 rfl (by decide +kernel) ?_
  refine iw_geti (pc' := 4) ic_fk4 cO_2 lkf_X4_22 (by decide +kernel) ?_
  obtain ⟨q21, hf, hgq21⟩ := ic_bd hf
  have hjq21 : ic_W l κ MX4_blame ic_X0 (ic_Z κ MX4_blame none 106 (ic_rs sw) R) 17 [] [] 106 (ic_rs sw) q21 0 0 := by
    have hf := hgq21
    exact iw_vreturn rfl (Option.some.inj hf) (by decide +kernel)
  refine iw_if_ne (off := 13) (tg := 17) (pc' := 7) hf (by decide +kernel) (fun hf => ?_) (fun hf => ?_)
  · obtain rfl := Option.some.inj hf
    exact iw_sub [] rfl hjq21
  · refine iw_aload_n (i := 0) (pc' := 8) 0 rfl (by decide +kernel) ?_
    refine iw_iload_n (i := 1) (pc' := 9) 1 rfl (by decide +kernel) ?_
    refine iw_put (pc' := 12) hf ic_fk4 cO_2 lkf_X4_22 (by decide +kernel) (fun m22 hf => ?_)
    refine iw_aload_n (i := 0) (pc' := 13) 0 rfl (by decide +kernel) ?_
    refine iw_iload_n (i := 2) (pc' := 14) 2 rfl (by decide +kernel) ?_
    refine iw_put (pc' := 17) hf ic_fk4 cO_2 lkf_X4_25 (by decide +kernel) (fun m23 hf => ?_)
    obtain rfl := Option.some.inj hf
    exact iw_sub [] rfl hjq21
set_option maxRecDepth 100000 in
set_option maxHeartbeats 4000000 in
theorem ct_X4_isFigure (l : Launch) (κ : ic_K) (sw : Nat) (μ : ic_M) (x0 : Int32) {R : Int32} (hf : fX4_isFigure μ x0 = some R) : ic_C l κ MX4_isFigure [.int x0] 106 (ic_rs sw) μ (some (.int R)) 106 (ic_rs sw) μ := by
  refine ic_C.of (L := [(0, .int x0)]) ⟨rfl, trivial⟩ ⟨by decide +kernel, Nat.le_of_ble_eq_true rfl⟩ rfl ?_
  unfold fX4_isFigure at hf
  refine iw_iload_n (i := 0) (pc' := 1) 0 rfl (by decide +kernel) ?_
  refine iw_bipush (i := 48) (v := (48 : Int32)) (pc' := 3) (by decide +kernel) ?_
  obtain ⟨q21, hf, hgq21⟩ := ic_bd hf
  have hjq21 : ic_W l κ MX4_isFigure ic_X0 (ic_Z κ MX4_isFigure (some (.int R)) 106 (ic_rs sw) μ) 17 [] [.int q21] 106 (ic_rs sw) μ 0 0 := by
    have hf := hgq21
    obtain ⟨hb, hf⟩ := ic_rz_of hf
    exact iw_zreturn hb (Option.some.inj hf) rfl rfl (by decide +kernel)
  refine iw_icmp_lt (off := 13) (tg := 16) (pc' := 6) hf (by decide +kernel) (fun hf => ?_) (fun hf => ?_)
  · refine iw_iconst (i := 0) (v := (0 : Int32)) (pc' := 17) (by decide +kernel) ?_
    obtain rfl := Option.some.inj hf
    exact iw_sub [] rfl hjq21
  · refine iw_iload_n (i := 0) (pc' := 7) 0 rfl (by decide +kernel) ?_
    refine iw_bipush (i := 57) (v := (57 : Int32)) (pc' := 9) (by decide +kernel) ?_
    refine iw_icmp_gt (off := 7) (tg := 16) (pc' := 12) hf (by decide +kernel) (fun hf => ?_) (fun hf => ?_)
    · refine iw_iconst (i := 0) (v := (0 : Int32)) (pc' := 17) (by decide +kernel) ?_
      obtain rfl := Option.some.inj hf
      exact iw_sub [] rfl hjq21
    · refine iw_iconst (i := 1) (v := (1 : Int32)) (pc' := 13) (by decide +kernel) ?_
      refine iw_goto (off := 4) (pc' := 17) (by decide +kernel) ?_
      obtain rfl := Option.some.inj hf
      exact iw_sub [] rfl hjq21
set_option maxRecDepth 100000 in
set_option maxHeartbeats 4000000 in
theorem lpX4_readNumber_21_ok (l : Launch) (κ : ic_K) (sw : Nat) (x1_ : Int32) (x2_ : Int32) (x3_ : Int32) {Z : State → List Frame → Array Value → State → Prop} {R : Int32 × ic_M} (hk : ic_W l κ MX4_readNumber ic_X0 Z 85 [(0, ic_rv κ.1 2), (1, .int x1_), (2, .int x2_), (3, .int x3_), (4, .int R.1)] [] 106 (ic_rs sw) R.2 0 0) : ∀ (fu : Nat) (y4_ : Int32) (μ : ic_M), lpX4_readNumber_21 x1_ x2_ x3_ fu y4_ μ = some R → ic_W l κ MX4_readNumber ic_X0 Z 21 [(0, ic_rv κ.1 2), (1, .int x1_), (2, .int x2_), (3, .int x3_), (4, .int y4_)] [] 106 (ic_rs sw) μ 0 0 := by
  intro fu
  induction fu with
  | zero =>
    intro y4_ μ hf
    exact absurd hf (by simp [lpX4_readNumber_21])
  | succ fu ih =>
    intro y4_ μ hf
    rw [lpX4_readNumber_21] at hf
    refine iw_aload_n (i := 0) (pc' := 22) 0 rfl (by decide +kernel) ?_
    refine iw_geti (pc' := 25) ic_fk4 cO_2 lkf_X4_19 (by decide +kernel) ?_
    refine iw_aload_n (i := 0) (pc' := 26) 0 rfl (by decide +kernel) ?_
    refine iw_geti (pc' := 29) ic_fk4 cO_2 lkf_X4_15 (by decide +kernel) ?_
    refine iw_icmp_ge (off := 56) (tg := 85) (pc' := 32) hf (by decide +kernel) (fun hf => ?_) (fun hf => ?_)
    · obtain rfl := Option.some.inj hf
      exact iw_sub [0, 1, 2, 3, 4] rfl hk
    · refine iw_aload_n (i := 0) (pc' := 33) 0 rfl (by decide +kernel) ?_
      obtain ⟨v23, hc, hf⟩ := ic_bd hf
      refine iw_callV (pc' := 36) (S0 := []) (S1 := [.int v23]) (c1 := 0) (s1 := 0) (k := 0) (ct_X4_sign l κ sw μ hc) cO_2 ⟨rfl, rfl⟩ mv_X4_sign lkm_X4_36 ⟨rfl, rfl⟩ (ic_sum8 trivial (Nat.le_of_ble_eq_true rfl)) (by unfold ic_rm; decide +kernel) ⟨rfl, rfl, rfl⟩ ⟨Nat.le_of_ble_eq_true rfl, Nat.le_of_ble_eq_true rfl⟩ ?_
      obtain ⟨v24, hc, hf⟩ := ic_bd hf
      refine iw_callS (pc' := 39) (S0 := []) (S1 := [.int v24]) (c1 := 0) (s1 := 0) (k := 1) (ct_X4_isFigure l κ sw μ v23 hc) ms_X4_isFigure lkm_X4_96 ⟨rfl, rfl⟩ (ic_sum8 trivial (Nat.le_of_ble_eq_true rfl)) (by unfold ic_rm; decide +kernel) ⟨rfl, rfl, rfl⟩ ⟨Nat.le_of_ble_eq_true rfl, Nat.le_of_ble_eq_true rfl⟩ ?_
      refine iw_if_eq (off := 46) (tg := 85) (pc' := 42) hf (by decide +kernel) (fun hf => ?_) (fun hf => ?_)
      · obtain rfl := Option.some.inj hf
        exact iw_sub [0, 1, 2, 3, 4] rfl hk
      · refine iw_aload_n (i := 0) (pc' := 43) 0 rfl (by decide +kernel) ?_
        refine iw_geti (pc' := 46) ic_fk4 cO_2 lkf_X4_19 (by decide +kernel) ?_
        refine iw_iload_n (i := 3) (pc' := 47) 3 rfl (by decide +kernel) ?_
        refine iw_isub (pc' := 48) (by decide +kernel) ?_
        refine iw_iconst (i := 3) (v := (3 : Int32)) (pc' := 49) (by decide +kernel) ?_
        obtain ⟨q25, hf, hgq25⟩ := ic_bd hf
        have hjq25 : ic_W l κ MX4_readNumber ic_X0 Z 70 [(0, ic_rv κ.1 2), (1, .int x1_), (2, .int x2_), (3, .int x3_)] [.int q25] 106 (ic_rs sw) μ 0 0 := by
          have hf := hgq25
          refine iw_istore0 (i := 4) (pc' := 72) (L' := [(0, ic_rv κ.1 2), (1, .int x1_), (2, .int x2_), (3, .int x3_), (4, .int q25)]) rfl (by decide +kernel) ?_
          refine iw_aload_n (i := 0) (pc' := 73) 0 rfl (by decide +kernel) ?_
          refine iw_dup (pc' := 74) (ic_cat _ _) (by decide +kernel) ?_
          refine iw_geti (pc' := 77) ic_fk4 cO_2 lkf_X4_19 (by decide +kernel) ?_
          refine iw_iconst (i := 1) (v := (1 : Int32)) (pc' := 78) (by decide +kernel) ?_
          refine iw_iadd (pc' := 79) (by decide +kernel) ?_
          refine iw_put (pc' := 82) hf ic_fk4 cO_2 lkf_X4_19 (by decide +kernel) (fun m27 hf => ?_)
          refine iw_goto (off := (-61)) (pc' := 21) (by decide +kernel) ?_
          exact iw_sub [0, 1, 2, 3, 4] rfl (ih _ _ hf)
        refine iw_icmp_ge (off := 19) (tg := 68) (pc' := 52) hf (by decide +kernel) (fun hf => ?_) (fun hf => ?_)
        · refine iw_iload (i := 4) (pc' := 70) 4 rfl (by decide +kernel) ?_
          obtain rfl := Option.some.inj hf
          exact iw_sub [0, 1, 2, 3] rfl hjq25
        · refine iw_iload (i := 4) (pc' := 54) 4 rfl (by decide +kernel) ?_
          refine iw_bipush (i := 10) (v := (10 : Int32)) (pc' := 56) (by decide +kernel) ?_
          refine iw_imul (pc' := 57) (by decide +kernel) ?_
          refine iw_aload_n (i := 0) (pc' := 58) 0 rfl (by decide +kernel) ?_
          obtain ⟨v26, hc, hf⟩ := ic_bd hf
          refine iw_callV (pc' := 61) (S0 := [.int (y4_ * (10 : Int32))]) (S1 := [.int v26, .int (y4_ * (10 : Int32))]) (c1 := 0) (s1 := 0) (k := 0) (ct_X4_sign l κ sw μ hc) cO_2 ⟨rfl, rfl⟩ mv_X4_sign lkm_X4_36 ⟨rfl, rfl⟩ (ic_sum8 ⟨rfl, trivial⟩ (Nat.le_of_ble_eq_true rfl)) (by unfold ic_rm; decide +kernel) ⟨rfl, rfl, rfl⟩ ⟨Nat.le_of_ble_eq_true rfl, Nat.le_of_ble_eq_true rfl⟩ ?_
          refine iw_iadd (pc' := 62) (by decide +kernel) ?_
          refine iw_bipush (i := 48) (v := (48 : Int32)) (pc' := 64) (by decide +kernel) ?_
          refine iw_isub (pc' := 65) (by decide +kernel) ?_
          refine iw_goto (off := 5) (pc' := 70) (by decide +kernel) ?_
          obtain rfl := Option.some.inj hf
          exact iw_sub [0, 1, 2, 3] rfl hjq25
set_option maxRecDepth 100000 in
set_option maxHeartbeats 4000000 in
theorem ct_X4_readNumber (l : Launch) (κ : ic_K) (sw : Nat) (μ : ic_M) (x1 : Int32) (x2 : Int32) {R : Int32 × ic_M} (hf : fX4_readNumber μ x1 x2 = some R) : ic_C l κ MX4_readNumber [ic_rv κ.1 2, .int x1, .int x2] 106 (ic_rs sw) μ (some (.int R.1)) 106 (ic_rs sw) R.2 := by
  refine ic_C.of (L := [(0, ic_rv κ.1 2), (1, .int x1), (2, .int x2)]) ⟨ic_cat _ _, rfl, rfl, trivial⟩ ⟨by decide +kernel, Nat.le_of_ble_eq_true rfl⟩ rfl ?_
  unfold fX4_readNumber at hf
  refine iw_aload_n (i := 0) (pc' := 1) 0 rfl (by decide +kernel) ?_
  refine iw_geti (pc' := 4) ic_fk4 cO_2 lkf_X4_22 (by decide +kernel) ?_
  refine iw_if_eq (off := 5) (tg := 9) (pc' := 7) hf (by decide +kernel) (fun hf => ?_) (fun hf => ?_)
  · refine iw_aload_n (i := 0) (pc' := 10) 0 rfl (by decide +kernel) ?_
    obtain ⟨m21, hc, hf⟩ := ic_bd hf
    refine iw_callV (pc' := 13) (S0 := []) (S1 := []) (c1 := 0) (s1 := 0) (k := 0) (ct_X4_skipBlanks l κ sw μ hc) cO_2 ⟨rfl, rfl⟩ mv_X4_skipBlanks lkm_X4_33 ⟨rfl, rfl⟩ (ic_sum8 trivial (Nat.le_of_ble_eq_true rfl)) (by unfold ic_rm; decide +kernel) ⟨rfl, rfl, rfl⟩ ⟨Nat.le_of_ble_eq_true rfl, Nat.le_of_ble_eq_true rfl⟩ ?_
    refine iw_aload_n (i := 0) (pc' := 14) 0 rfl (by decide +kernel) ?_
    refine iw_geti (pc' := 17) ic_fk4 cO_2 lkf_X4_19 (by decide +kernel) ?_
    refine iw_istore_n (i := 3) (pc' := 18) (L1 := fun x22 => [(0, ic_rv κ.1 2), (1, .int x1), (2, .int x2), (3, .int x22)]) hf (fun _ => rfl) (by decide +kernel) (fun x22 hf => ?_)
    refine iw_iconst (i := 0) (v := (0 : Int32)) (pc' := 19) (by decide +kernel) ?_
    refine iw_istore0 (i := 4) (pc' := 21) (L' := [(0, ic_rv κ.1 2), (1, .int x1), (2, .int x2), (3, .int x22), (4, .int (0 : Int32))]) rfl (by decide +kernel) ?_
    obtain ⟨q28, hf, hgq28⟩ := ic_bd hf
    have hjq28 : ic_W l κ MX4_readNumber ic_X0 (ic_Z κ MX4_readNumber (some (.int R.1)) 106 (ic_rs sw) R.2) 85 [(0, ic_rv κ.1 2), (1, .int x1), (2, .int x2), (3, .int x22), (4, .int q28.1)] [] 106 (ic_rs sw) q28.2 0 0 := by
      have hf := hgq28
      refine iw_aload_n (i := 0) (pc' := 86) 0 rfl (by decide +kernel) ?_
      refine iw_geti (pc' := 89) ic_fk4 cO_2 lkf_X4_19 (by decide +kernel) ?_
      refine iw_iload_n (i := 3) (pc' := 90) 3 rfl (by decide +kernel) ?_
      obtain ⟨q29, hf, hgq29⟩ := ic_bd hf
      have hjq29 : ic_W l κ MX4_readNumber ic_X0 (ic_Z κ MX4_readNumber (some (.int R.1)) 106 (ic_rs sw) R.2) 133 [(4, .int q28.1)] [] 106 (ic_rs sw) q29 0 0 := by
        have hf := hgq29
        refine iw_iload (i := 4) (pc' := 135) 0 rfl (by decide +kernel) ?_
        exact iw_ireturn (ic_q1 (Option.some.inj hf)) rfl (ic_q2 (Option.some.inj hf)) (by decide +kernel)
      refine iw_icmp_ne (off := 15) (tg := 105) (pc' := 93) hf (by decide +kernel) (fun hf => ?_) (fun hf => ?_)
      · refine iw_aload_n (i := 0) (pc' := 106) 0 rfl (by decide +kernel) ?_
        refine iw_geti (pc' := 109) ic_fk4 cO_2 lkf_X4_19 (by decide +kernel) ?_
        refine iw_iload_n (i := 3) (pc' := 110) 3 rfl (by decide +kernel) ?_
        refine iw_isub (pc' := 111) (by decide +kernel) ?_
        refine iw_iconst (i := 3) (v := (3 : Int32)) (pc' := 112) (by decide +kernel) ?_
        refine iw_icmp_gt (off := 15) (tg := 127) (pc' := 115) hf (by decide +kernel) (fun hf => ?_) (fun hf => ?_)
        · refine iw_aload_n (i := 0) (pc' := 128) 0 rfl (by decide +kernel) ?_
          refine iw_iconst (i := 2) (v := (2 : Int32)) (pc' := 129) (by decide +kernel) ?_
          refine iw_iload_n (i := 3) (pc' := 130) 3 rfl (by decide +kernel) ?_
          obtain ⟨m30, hc, hf⟩ := ic_bd hf
          refine iw_callV (pc' := 133) (S0 := []) (S1 := []) (c1 := 0) (s1 := 0) (k := 2) (ct_X4_blame l κ sw q28.2 (2 : Int32) x22 hc) cO_2 ⟨rfl, rfl⟩ mv_X4_blame lkm_X4_47 ⟨rfl, rfl⟩ (ic_sum8 trivial (Nat.le_of_ble_eq_true rfl)) (by unfold ic_rm; decide +kernel) ⟨rfl, rfl, rfl⟩ ⟨Nat.le_of_ble_eq_true rfl, Nat.le_of_ble_eq_true rfl⟩ ?_
          obtain rfl := Option.some.inj hf
          exact iw_sub [4] rfl hjq29
        · refine iw_iload (i := 4) (pc' := 117) 4 rfl (by decide +kernel) ?_
          refine iw_iload_n (i := 1) (pc' := 118) 1 rfl (by decide +kernel) ?_
          refine iw_icmp_lt (off := 9) (tg := 127) (pc' := 121) hf (by decide +kernel) (fun hf => ?_) (fun hf => ?_)
          · refine iw_aload_n (i := 0) (pc' := 128) 0 rfl (by decide +kernel) ?_
            refine iw_iconst (i := 2) (v := (2 : Int32)) (pc' := 129) (by decide +kernel) ?_
            refine iw_iload_n (i := 3) (pc' := 130) 3 rfl (by decide +kernel) ?_
            obtain ⟨m31, hc, hf⟩ := ic_bd hf
            refine iw_callV (pc' := 133) (S0 := []) (S1 := []) (c1 := 0) (s1 := 0) (k := 2) (ct_X4_blame l κ sw q28.2 (2 : Int32) x22 hc) cO_2 ⟨rfl, rfl⟩ mv_X4_blame lkm_X4_47 ⟨rfl, rfl⟩ (ic_sum8 trivial (Nat.le_of_ble_eq_true rfl)) (by unfold ic_rm; decide +kernel) ⟨rfl, rfl, rfl⟩ ⟨Nat.le_of_ble_eq_true rfl, Nat.le_of_ble_eq_true rfl⟩ ?_
            obtain rfl := Option.some.inj hf
            exact iw_sub [4] rfl hjq29
          · refine iw_iload (i := 4) (pc' := 123) 4 rfl (by decide +kernel) ?_
            refine iw_iload_n (i := 2) (pc' := 124) 2 rfl (by decide +kernel) ?_
            refine iw_icmp_le (off := 9) (tg := 133) (pc' := 127) hf (by decide +kernel) (fun hf => ?_) (fun hf => ?_)
            · obtain rfl := Option.some.inj hf
              exact iw_sub [4] rfl hjq29
            · refine iw_aload_n (i := 0) (pc' := 128) 0 rfl (by decide +kernel) ?_
              refine iw_iconst (i := 2) (v := (2 : Int32)) (pc' := 129) (by decide +kernel) ?_
              refine iw_iload_n (i := 3) (pc' := 130) 3 rfl (by decide +kernel) ?_
              obtain ⟨m32, hc, hf⟩ := ic_bd hf
              refine iw_callV (pc' := 133) (S0 := []) (S1 := []) (c1 := 0) (s1 := 0) (k := 2) (ct_X4_blame l κ sw q28.2 (2 : Int32) x22 hc) cO_2 ⟨rfl, rfl⟩ mv_X4_blame lkm_X4_47 ⟨rfl, rfl⟩ (ic_sum8 trivial (Nat.le_of_ble_eq_true rfl)) (by unfold ic_rm; decide +kernel) ⟨rfl, rfl, rfl⟩ ⟨Nat.le_of_ble_eq_true rfl, Nat.le_of_ble_eq_true rfl⟩ ?_
              obtain rfl := Option.some.inj hf
              exact iw_sub [4] rfl hjq29
      · refine iw_aload_n (i := 0) (pc' := 94) 0 rfl (by decide +kernel) ?_
        refine iw_iconst (i := 1) (v := (1 : Int32)) (pc' := 95) (by decide +kernel) ?_
        refine iw_aload_n (i := 0) (pc' := 96) 0 rfl (by decide +kernel) ?_
        refine iw_geti (pc' := 99) ic_fk4 cO_2 lkf_X4_19 (by decide +kernel) ?_
        obtain ⟨m33, hc, hf⟩ := ic_bd hf
        refine iw_callV (pc' := 102) (S0 := []) (S1 := []) (c1 := 0) (s1 := 0) (k := 2) (ct_X4_blame l κ sw q28.2 (1 : Int32) (q28.2 2 1) hc) cO_2 ⟨rfl, rfl⟩ mv_X4_blame lkm_X4_47 ⟨rfl, rfl⟩ (ic_sum8 trivial (Nat.le_of_ble_eq_true rfl)) (by unfold ic_rm; decide +kernel) ⟨rfl, rfl, rfl⟩ ⟨Nat.le_of_ble_eq_true rfl, Nat.le_of_ble_eq_true rfl⟩ ?_
        refine iw_goto (off := 31) (pc' := 133) (by decide +kernel) ?_
        obtain rfl := Option.some.inj hf
        exact iw_sub [4] rfl hjq29
    exact iw_sub [0, 1, 2, 3, 4] rfl (lpX4_readNumber_21_ok l κ sw x1 x2 x22 hjq28 1000 (0 : Int32) m21 hf)
  · refine iw_iconst (i := 0) (v := (0 : Int32)) (pc' := 8) (by decide +kernel) ?_
    exact iw_ireturn (ic_q1 (Option.some.inj hf)) rfl (ic_q2 (Option.some.inj hf)) (by decide +kernel)
