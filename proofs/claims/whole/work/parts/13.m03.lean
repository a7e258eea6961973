def MX7_safeFor : ic_Md := (yX7_safeFor, cX7_safeFor, 6, (some .int), { frames := 3, cells := 0, slots := 0, locals := 71 })
theorem mv_X7_safeFor : ic_MV MX7_safeFor := ⟨ic_in 723 (by decide +kernel), ic_in 21 (by decide +kernel), ic_in 74 (by decide +kernel), ic_in 724 (by decide +kernel), by decide +kernel, by decide +kernel⟩
def MX8_leastIn : ic_Md := (yX8_leastIn, cX8_leastIn, 2, (some .int), { frames := 1, cells := 0, slots := 0, locals := 21 })
theorem ms_X8_leastIn : ic_MS MX8_leastIn := ⟨ic_in 731 (by decide +kernel), ic_in 70 (by decide +kernel), ic_in 732 (by decide +kernel), by decide +kernel, by decide +kernel⟩
def MX7_wayOver : ic_Md := (yX7_wayOver, cX7_wayOver, 10, (some .int), { frames := 4, cells := 0, slots := 0, locals := 96 })
theorem mv_X7_wayOver : ic_MV MX7_wayOver := ⟨ic_in 714 (by decide +kernel), ic_in 715 (by decide +kernel), ic_in 74 (by decide +kernel), ic_in 716 (by decide +kernel), by decide +kernel, by decide +kernel⟩
def MX7_isBrokenBy : ic_Md := (yX7_isBrokenBy, cX7_isBrokenBy, 6, (some .boolean), { frames := 2, cells := 0, slots := 0, locals := 48 })
theorem mv_X7_isBrokenBy : ic_MV MX7_isBrokenBy := ⟨ic_in 752 (by decide +kernel), ic_in 22 (by decide +kernel), ic_in 74 (by decide +kernel), ic_in 753 (by decide +kernel), by decide +kernel, by decide +kernel⟩
def MX7_fewestOn : ic_Md := (yX7_fewestOn, cX7_fewestOn, 8, (some .int), { frames := 3, cells := 0, slots := 0, locals := 73 })
theorem mv_X7_fewestOn : ic_MV MX7_fewestOn := ⟨ic_in 745 (by decide +kernel), ic_in 746 (by decide +kernel), ic_in 74 (by decide +kernel), ic_in 747 (by decide +kernel), by decide +kernel, by decide +kernel⟩
def MX7_saltFor : ic_Md := (yX7_saltFor, cX7_saltFor, 7, (some .int), { frames := 2, cells := 0, slots := 0, locals := 48 })
theorem mv_X7_saltFor : ic_MV MX7_saltFor := ⟨ic_in 761 (by decide +kernel), ic_in 762 (by decide +kernel), ic_in 74 (by decide +kernel), ic_in 763 (by decide +kernel), by decide +kernel, by decide +kernel⟩
def MX7_breakingSteps : ic_Md := (yX7_breakingSteps, cX7_breakingSteps, 10, (some .int), { frames := 5, cells := 0, slots := 0, locals := 120 })
theorem mv_X7_breakingSteps : ic_MV MX7_breakingSteps := ⟨ic_in 769 (by decide +kernel), ic_in 770 (by decide +kernel), ic_in 74 (by decide +kernel), ic_in 771 (by decide +kernel), by decide +kernel, by decide +kernel⟩
def MX7_nearestCrack : ic_Md := (yX7_nearestCrack, cX7_nearestCrack, 8, (some .int), { frames := 3, cells := 0, slots := 0, locals := 73 })
theorem mv_X7_nearestCrack : ic_MV MX7_nearestCrack := ⟨ic_in 778 (by decide +kernel), ic_in 779 (by decide +kernel), ic_in 74 (by decide +kernel), ic_in 780 (by decide +kernel), by decide +kernel, by decide +kernel⟩
def MX8_isWithin : ic_Md := (yX8_isWithin, cX8_isWithin, 3, (some .boolean), { frames := 0, cells := 0, slots := 0, locals := 0 })
theorem ms_X8_isWithin : ic_MS MX8_isWithin := ⟨ic_in 348 (by decide +kernel), ic_in 70 (by decide +kernel), ic_in 349 (by decide +kernel), by decide +kernel, by decide +kernel⟩
def MX8_feed : ic_Md := (yX8_feed, cX8_feed, 2, (some .int), { frames := 1, cells := 0, slots := 0, locals := 22 })
theorem mv_X8_feed : ic_MV MX8_feed := ⟨ic_in 344 (by decide +kernel), ic_in 345 (by decide +kernel), ic_in 70 (by decide +kernel), ic_in 346 (by decide +kernel), by decide +kernel, by decide +kernel⟩
def MX8_fault : ic_Md := (yX8_fault, cX8_fault, 1, (some .int), { frames := 0, cells := 0, slots := 0, locals := 0 })
theorem mv_X8_fault : ic_MV MX8_fault := ⟨ic_in 430 (by decide +kernel), ic_in 431 (by decide +kernel), ic_in 70 (by decide +kernel), ic_in 432 (by decide +kernel), by decide +kernel, by decide +kernel⟩
def MX8_told : ic_Md := (yX8_told, cX8_told, 2, (some .int), { frames := 4, cells := 0, slots := 0, locals := 93 })
theorem mv_X8_told : ic_MV MX8_told := ⟨ic_in 434 (by decide +kernel), ic_in 435 (by decide +kernel), ic_in 70 (by decide +kernel), ic_in 436 (by decide +kernel), by decide +kernel, by decide +kernel⟩
def MX8_isCell : ic_Md := (yX8_isCell, cX8_isCell, 2, (some .boolean), { frames := 0, cells := 0, slots := 0, locals := 0 })
theorem mv_X8_isCell : ic_MV MX8_isCell := ⟨ic_in 498 (by decide +kernel), ic_in 9 (by decide +kernel), ic_in 70 (by decide +kernel), ic_in 499 (by decide +kernel), by decide +kernel, by decide +kernel⟩
def MX8_cell : ic_Md := (yX8_cell, cX8_cell, 3, (some .int), { frames := 3, cells := 0, slots := 0, locals := 70 })
theorem mv_X8_cell : ic_MV MX8_cell := ⟨ic_in 493 (by decide +kernel), ic_in 494 (by decide +kernel), ic_in 70 (by decide +kernel), ic_in 495 (by decide +kernel), by decide +kernel, by decide +kernel⟩
def MX8_isPerson : ic_Md := (yX8_isPerson, cX8_isPerson, 2, (some .boolean), { frames := 0, cells := 0, slots := 0, locals := 0 })
theorem mv_X8_isPerson : ic_MV MX8_isPerson := ⟨ic_in 516 (by decide +kernel), ic_in 10 (by decide +kernel), ic_in 70 (by decide +kernel), ic_in 517 (by decide +kernel), by decide +kernel, by decide +kernel⟩
def MX8_person : ic_Md := (yX8_person, cX8_person, 3, (some .int), { frames := 1, cells := 0, slots := 0, locals := 21 })
theorem mv_X8_person : ic_MV MX8_person := ⟨ic_in 511 (by decide +kernel), ic_in 512 (by decide +kernel), ic_in 70 (by decide +kernel), ic_in 513 (by decide +kernel), by decide +kernel, by decide +kernel⟩
def MX8_isNoRiver : ic_Md := (yX8_isNoRiver, cX8_isNoRiver, 1, (some .boolean), { frames := 0, cells := 0, slots := 0, locals := 0 })
theorem mv_X8_isNoRiver : ic_MV MX8_isNoRiver := ⟨ic_in 530 (by decide +kernel), ic_in 11 (by decide +kernel), ic_in 70 (by decide +kernel), ic_in 531 (by decide +kernel), by decide +kernel, by decide +kernel⟩
def MX8_cold : ic_Md := (yX8_cold, cX8_cold, 2, (some .int), { frames := 2, cells := 0, slots := 0, locals := 44 })
theorem mv_X8_cold : ic_MV MX8_cold := ⟨ic_in 525 (by decide +kernel), ic_in 526 (by decide +kernel), ic_in 70 (by decide +kernel), ic_in 527 (by decide +kernel), by decide +kernel, by decide +kernel⟩
def MX8_refusalOfNights : ic_Md := (yX8_refusalOfNights, cX8_refusalOfNights, 2, (some .int), { frames := 1, cells := 0, slots := 0, locals := 22 })
theorem mv_X8_refusalOfNights : ic_MV MX8_refusalOfNights := ⟨ic_in 543 (by decide +kernel), ic_in 12 (by decide +kernel), ic_in 70 (by decide +kernel), ic_in 544 (by decide +kernel), by decide +kernel, by decide +kernel⟩
def MX8_night : ic_Md := (yX8_night, cX8_night, 4, (some .int), { frames := 5, cells := 0, slots := 0, locals := 119 })
theorem mv_X8_night : ic_MV MX8_night := ⟨ic_in 538 (by decide +kernel), ic_in 539 (by decide +kernel), ic_in 70 (by decide +kernel), ic_in 540 (by decide +kernel), by decide +kernel, by decide +kernel⟩
def MX8_step : ic_Md := (yX8_step, cX8_step, 3, (some .int), { frames := 5, cells := 0, slots := 0, locals := 120 })
theorem mv_X8_step : ic_MV MX8_step := ⟨ic_in 606 (by decide +kernel), ic_in 607 (by decide +kernel), ic_in 70 (by decide +kernel), ic_in 608 (by decide +kernel), by decide +kernel, by decide +kernel⟩
theorem lkf_X7_12 : Cond.fieldLink RX7 12 RX7 (TX7 0).2.1 (TX7 0).2.2.1 ∈ ic_tb := ic_in 175 (by decide +kernel)
theorem lkf_X7_63 : Cond.fieldLink RX7 63 RX5 (TX5 11).2.1 (TX5 11).2.2.1 ∈ ic_tb := ic_in 272 (by decide +kernel)
theorem lkm_X7_83 : Cond.methodLink RX7 83 yX1_overloaded ∈ ic_tb := ic_in 728 (by decide +kernel)
theorem lkm_X7_80 : Cond.methodLink RX7 80 yX1_isHole ∈ ic_tb := ic_in 727 (by decide +kernel)
theorem lkm_X7_76 : Cond.methodLink RX7 76 yX1_putPerson ∈ ic_tb := ic_in 726 (by decide +kernel)
theorem lkm_X7_72 : Cond.methodLink RX7 72 yX1_copyFrom ∈ ic_tb := ic_in 725 (by decide +kernel)
theorem lkm_X8_305 : Cond.methodLink RX8 305 yX8_isIn ∈ ic_tb := ic_in 733 (by decide +kernel)
theorem lkm_X7_69 : Cond.methodLink RX7 69 yX5_nextToAny ∈ ic_tb := ic_in 734 (by decide +kernel)
theorem lkm_X7_66 : Cond.methodLinkNest RX7 66 yX8_leastIn "IceLaw" ∈ ic_tb := ic_in 730 (by decide +kernel)
theorem lkm_X7_59 : Cond.methodLink RX7 59 yX1_ways ∈ ic_tb := ic_in 729 (by decide +kernel)
theorem lkm_X7_55 : Cond.methodLink RX7 55 yX7_safeFor ∈ ic_tb := ic_in 721 (by decide +kernel)
theorem lkm_X7_51 : Cond.methodLinkNest RX7 51 yX8_isIn "IceLaw" ∈ ic_tb := ic_in 720 (by decide +kernel)
theorem lkm_X7_48 : Cond.methodLink RX7 48 yX1_placeOf ∈ ic_tb := ic_in 719 (by decide +kernel)
theorem lkm_X7_45 : Cond.methodLink RX7 45 yX5_bankOf ∈ ic_tb := ic_in 718 (by decide +kernel)
theorem lkm_X7_42 : Cond.methodLink RX7 42 yX5_townOf ∈ ic_tb := ic_in 717 (by decide +kernel)
theorem lkf_X7_90 : Cond.fieldLink RX7 90 RX5 (TX5 12).2.1 (TX5 12).2.2.1 ∈ ic_tb := ic_in 277 (by decide +kernel)
theorem lkm_X7_105 : Cond.methodLink RX7 105 yX1_bears ∈ ic_tb := ic_in 755 (by decide +kernel)
theorem lkm_X7_102 : Cond.methodLink RX7 102 yX1_load ∈ ic_tb := ic_in 754 (by decide +kernel)
theorem lkm_X7_93 : Cond.methodLink RX7 93 yJ6_bitCount_0f7a4 ∈ ic_tb := ic_in 749 (by decide +kernel)
theorem lkm_X7_98 : Cond.methodLink RX7 98 yX7_isBrokenBy ∈ ic_tb := ic_in 750 (by decide +kernel)
theorem lkm_X7_87 : Cond.methodLink RX7 87 yX1_drowned ∈ ic_tb := ic_in 748 (by decide +kernel)
theorem lkm_X7_108 : Cond.methodLink RX7 108 yX1_go ∈ ic_tb := ic_in 772 (by decide +kernel)
theorem lkm_X7_115 : Cond.methodLink RX7 115 yX1_cracking ∈ ic_tb := ic_in 782 (by decide +kernel)
theorem lkm_X7_112 : Cond.methodLink RX7 112 yX1_holes ∈ ic_tb := ic_in 781 (by decide +kernel)
theorem lkf_X8_10 : Cond.fieldLink RX8 10 RX8 (TX8 0).2.1 (TX8 0).2.2.1 ∈ ic_tb := ic_in 306 (by decide +kernel)
theorem lkc_X8_90 : Cond.constant RX8 90 (-1000000004 : Int32) ∈ ic_tb := ic_in 355 (by decide +kernel)
theorem lkf_X8_87 : Cond.fieldLink RX8 87 RX4 (TX4 2).2.1 (TX4 2).2.2.1 ∈ ic_tb := ic_in 100 (by decide +kernel)
theorem lkm_X8_83 : Cond.methodLink RX8 83 yX4_add ∈ ic_tb := ic_in 351 (by decide +kernel)
theorem lkc_X8_82 : Cond.constant RX8 82 (-1000000002 : Int32) ∈ ic_tb := ic_in 350 (by decide +kernel)
theorem lkm_X8_78 : Cond.methodLink RX8 78 yX8_isWithin ∈ ic_tb := ic_in 347 (by decide +kernel)
theorem lkf_X8_75 : Cond.fieldLink RX8 75 RX8 (TX8 11).2.1 (TX8 11).2.2.1 ∈ ic_tb := ic_in 317 (by decide +kernel)
theorem lkf_X8_61 : Cond.fieldLink RX8 61 RX8 (TX8 7).2.1 (TX8 7).2.2.1 ∈ ic_tb := ic_in 313 (by decide +kernel)
theorem lkf_X8_110 : Cond.fieldLink RX8 110 RX5 (TX5 8).2.1 (TX5 8).2.2.1 ∈ ic_tb := ic_in 259 (by decide +kernel)
theorem lkf_X8_113 : Cond.fieldLink RX8 113 RX5 (TX5 9).2.1 (TX5 9).2.2.1 ∈ ic_tb := ic_in 262 (by decide +kernel)
theorem lkf_X8_116 : Cond.fieldLink RX8 116 RX5 (TX5 10).2.1 (TX5 10).2.2.1 ∈ ic_tb := ic_in 267 (by decide +kernel)
theorem lkf_X8_119 : Cond.fieldLink RX8 119 RX5 (TX5 12).2.1 (TX5 12).2.2.1 ∈ ic_tb := ic_in 275 (by decide +kernel)
theorem lkf_X8_19 : Cond.fieldLink RX8 19 RX8 (TX8 1).2.1 (TX8 1).2.2.1 ∈ ic_tb := ic_in 307 (by decide +kernel)
theorem lkf_X8_122 : Cond.fieldLink RX8 122 RX1 (TX1 3).2.1 (TX1 3).2.2.1 ∈ ic_tb := ic_in 129 (by decide +kernel)
theorem lkf_X8_125 : Cond.fieldLink RX8 125 RX1 (TX1 4).2.1 (TX1 4).2.2.1 ∈ ic_tb := ic_in 131 (by decide +kernel)
theorem lkm_X8_128 : Cond.methodLink RX8 128 yX1_holes ∈ ic_tb := ic_in 437 (by decide +kernel)
theorem lkf_X8_132 : Cond.fieldLink RX8 132 RX1 (TX1 2).2.1 (TX1 2).2.2.1 ∈ ic_tb := ic_in 126 (by decide +kernel)
theorem lkm_X8_135 : Cond.methodLink RX8 135 yX1_cracking ∈ ic_tb := ic_in 449 (by decide +kernel)
theorem lkm_X8_138 : Cond.methodLink RX8 138 yX1_drowned ∈ ic_tb := ic_in 476 (by decide +kernel)
theorem lkf_X8_141 : Cond.fieldLink RX8 141 RX1 (TX1 5).2.1 (TX1 5).2.2.1 ∈ ic_tb := ic_in 133 (by decide +kernel)
theorem lkm_X8_144 : Cond.methodLink RX8 144 yX1_weakest ∈ ic_tb := ic_in 484 (by decide +kernel)
theorem lkf_X8_40 : Cond.fieldLink RX8 40 RX8 (TX8 4).2.1 (TX8 4).2.2.1 ∈ ic_tb := ic_in 310 (by decide +kernel)
theorem lkf_X8_105 : Cond.fieldLink RX8 105 RX6 (TX6 4).2.1 (TX6 4).2.2.1 ∈ ic_tb := ic_in 190 (by decide +kernel)
theorem lkf_X8_47 : Cond.fieldLink RX8 47 RX8 (TX8 5).2.1 (TX8 5).2.2.1 ∈ ic_tb := ic_in 311 (by decide +kernel)
theorem lkf_X8_106 : Cond.fieldLink RX8 106 RX0 (TX0 2).2.1 (TX0 2).2.2.1 ∈ ic_tb := ic_in 212 (by decide +kernel)
theorem lkf_X8_26 : Cond.fieldLink RX8 26 RX8 (TX8 2).2.1 (TX8 2).2.2.1 ∈ ic_tb := ic_in 308 (by decide +kernel)
theorem lkf_X8_102 : Cond.fieldLink RX8 102 RX3 (TX3 2).2.1 (TX3 2).2.2.1 ∈ ic_tb := ic_in 159 (by decide +kernel)
theorem lkf_X8_107 : Cond.fieldLink RX8 107 RX5 (TX5 11).2.1 (TX5 11).2.2.1 ∈ ic_tb := ic_in 271 (by decide +kernel)
theorem lkm_X8_151 : Cond.methodLink RX8 151 yX1_inchesOf ∈ ic_tb := ic_in 501 (by decide +kernel)
theorem lkm_X8_155 : Cond.methodLink RX8 155 yX1_bears ∈ ic_tb := ic_in 502 (by decide +kernel)
theorem lkm_X8_159 : Cond.methodLink RX8 159 yX1_load ∈ ic_tb := ic_in 503 (by decide +kernel)
theorem lkm_X8_162 : Cond.methodLink RX8 162 yX1_personsOn ∈ ic_tb := ic_in 504 (by decide +kernel)
theorem lkm_X8_165 : Cond.methodLink RX8 165 yX5_currentAt ∈ ic_tb := ic_in 505 (by decide +kernel)
theorem lkm_X8_168 : Cond.methodLink RX8 168 yX1_spare ∈ ic_tb := ic_in 509 (by decide +kernel)
theorem lkc_X8_150 : Cond.constant RX8 150 (-1000000001 : Int32) ∈ ic_tb := ic_in 500 (by decide +kernel)
theorem lkm_X8_147 : Cond.methodLink RX8 147 yX8_isCell ∈ ic_tb := ic_in 496 (by decide +kernel)
theorem lkm_X8_174 : Cond.methodLink RX8 174 yX5_townOf ∈ ic_tb := ic_in 518 (by decide +kernel)
theorem lkm_X8_177 : Cond.methodLink RX8 177 yX5_weightOf ∈ ic_tb := ic_in 522 (by decide +kernel)
theorem lkm_X8_180 : Cond.methodLink RX8 180 yX1_placeOf ∈ ic_tb := ic_in 523 (by decide +kernel)
theorem lkm_X8_171 : Cond.methodLink RX8 171 yX8_isPerson ∈ ic_tb := ic_in 514 (by decide +kernel)
theorem lkm_X8_188 : Cond.methodLink RX8 188 yX5_coldOf ∈ ic_tb := ic_in 533 (by decide +kernel)
theorem lkc_X8_187 : Cond.constant RX8 187 (-1000000003 : Int32) ∈ ic_tb := ic_in 532 (by decide +kernel)
theorem lkm_X8_183 : Cond.methodLink RX8 183 yX8_isNoRiver ∈ ic_tb := ic_in 528 (by decide +kernel)
theorem lkm_X8_198 : Cond.methodLink RX8 198 yX1_passNight ∈ ic_tb := ic_in 560 (by decide +kernel)
theorem lkm_X8_194 : Cond.methodLink RX8 194 yX3_remember ∈ ic_tb := ic_in 545 (by decide +kernel)
theorem lkm_X8_191 : Cond.methodLink RX8 191 yX8_refusalOfNights ∈ ic_tb := ic_in 541 (by decide +kernel)
theorem lkm_X8_205 : Cond.methodLink RX8 205 yX1_go ∈ ic_tb := ic_in 622 (by decide +kernel)
theorem lkm_X8_201 : Cond.methodLink RX8 201 yX1_canGo ∈ ic_tb := ic_in 609 (by decide +kernel)
def lpX7_safeFor_14 (r1_ : Nat) (x3_ : Int32) : Nat → Int32 → Int32 → ic_M → Option (Int32 × ic_M)
  | 0, _, _, _ => none
  | fu + 1, y4_, y5_, μ => (if (μ r1_ 11) ≤ y5_ then some (y4_, μ) else Option.bind (fX1_putPerson μ 58 x3_ y5_) (fun m22 => Option.bind (fX1_isHole m22 58 y5_) (fun v23 => Option.bind (if v23 = 0 then Option.bind (fX1_overloaded m22 58 r1_) (fun v25 => (if v25 = 0 then ic_lt ((y4_ ||| ((1 : Int32) <<< (y5_ &&& 31)))) (fun x26 => some x26) else some y4_)) else some y4_) (fun q24 => ic_lt (y5_ + (1 : Int32)) (fun x27 => lpX7_safeFor_14 r1_ x3_ fu q24 x27 m22)))))
def fX7_safeFor (μ : ic_M) (r1 : Nat) (r2 : Nat) (x3 : Int32) : Option (Int32 × ic_M) := Option.bind (fX1_copyFrom μ 58 r2) (fun m21 => Option.bind (lpX7_safeFor_14 r1 x3 1000 (0 : Int32) (0 : Int32) m21) (fun q28 => some (q28.1, q28.2)))
def lpX8_leastIn_2 (μ : ic_M) (x0_ : Int32) : Nat → Int32 → Option ((Unit) ⊕ (Int32))
  | 0, _ => none
  | fu + 1, y1_ => (if (31 : Int32) ≤ y1_ then some (.inl ()) else Option.bind (fX8_isIn μ x0_ y1_) (fun v21 => (if v21 = 0 then ic_lt (y1_ + (1 : Int32)) (fun x22 => lpX8_leastIn_2 μ x0_ fu x22) else some (.inr y1_))))
def fX8_leastIn (μ : ic_M) (x0 : Int32) : Option (Int32) := Option.bind (lpX8_leastIn_2 μ x0 1000 (0 : Int32)) (fun q23 => Sum.elim (fun t24 => some (-1 : Int32)) some q23)
def lpX7_wayOver_67 (μ : ic_M) (r1_ : Nat) (x4_ : Int32) (x6_ : Int32) (x7_ : Int32) : Nat → Int32 → Int32 → Option ((Unit) ⊕ (Int32 × ic_M))
  | 0, _, _ => none
  | fu + 1, y8_, y9_ => (if (μ r1_ 11) < y9_ then some (.inl ()) else (if (x7_ &&& y8_) = 0 then Option.bind (fX5_nextToAny μ r1_ y8_) (fun v29 => ic_lt ((y8_ ||| (v29 &&& x6_))) (fun x30 => ic_lt (y9_ + (1 : Int32)) (fun x31 => lpX7_wayOver_67 μ r1_ x4_ x6_ x7_ fu x30 x31))) else (if x4_ = 0 then some (.inr (y9_, μ)) else Option.bind (fX8_leastIn μ (x7_ &&& y8_)) (fun v32 => some (.inr (v32, μ))))))
def fX7_wayOver (μ : ic_M) (r1 : Nat) (r2 : Nat) (x3 : Int32) (x4 : Int32) : Option (Int32 × ic_M) := Option.bind (fX5_townOf μ r1 x3) (fun v21 => Option.bind (fX5_bankOf μ r1 ((1 : Int32) - v21)) (fun v22 => Option.bind (fX1_placeOf μ r2 x3) (fun v23 => Option.bind (fX8_isIn μ v22 v23) (fun v24 => (if v24 = 0 then Option.bind (fX7_safeFor μ r1 r2 x3) (fun q25 => Option.bind (fX1_ways q25.2 r2 r1 x3) (fun v26 => ic_lt ((v26 &&& q25.1)) (fun x27 => ic_lt ((v22 &&& q25.1)) (fun x28 => Option.bind (lpX7_wayOver_67 q25.2 r1 x4 q25.1 x27 1000 x28 (1 : Int32)) (fun q33 => Sum.elim (fun t34 => some ((-1 : Int32), q25.2)) some q33))))) else Option.bind (if x4 = 0 then some (0 : Int32) else some (-1 : Int32)) (fun q35 => some (q35, μ)))))))
def lpX7_isBrokenBy_11 (r1_ : Nat) (x3_ : Int32) (x4_ : Int32) : Nat → Int32 → ic_M → Option (ic_M)
  | 0, _, _ => none
  | fu + 1, y5_, μ => (if (μ r1_ 12) ≤ y5_ then some μ else Option.bind (fX8_isIn μ x4_ y5_) (fun v22 => Option.bind (if v22 = 0 then some μ else Option.bind (fX1_putPerson μ 58 y5_ x3_) (fun m24 => some m24)) (fun q23 => ic_lt (y5_ + (1 : Int32)) (fun x25 => lpX7_isBrokenBy_11 r1_ x3_ x4_ fu x25 q23))))
def fX7_isBrokenBy (μ : ic_M) (r1 : Nat) (r2 : Nat) (x3 : Int32) (x4 : Int32) : Option (Int32 × ic_M) := Option.bind (fX1_copyFrom μ 58 r2) (fun m21 => Option.bind (lpX7_isBrokenBy_11 r1 x3 x4 1000 (0 : Int32) m21) (fun q26 => Option.bind (fX1_load q26 58 r1 x3) (fun v27 => Option.bind (fX1_bears q26 58 r1 x3) (fun v28 => Option.bind (if v27 ≤ v28 then some (0 : Int32) else some (1 : Int32)) (fun q29 => ic_rz q29 (some (q29, q26)))))))
def lpX7_fewestOn_13 (r1_ : Nat) (r2_ : Nat) (x3_ : Int32) (x4_ : Int32) : Nat → Int32 → Int32 → ic_M → Option (Int32 × ic_M)
  | 0, _, _, _ => none
  | fu + 1, y5_, y6_, μ => (if ((1 : Int32) <<< ((μ r1_ 12) &&& 31)) ≤ y6_ then some (y5_, μ) else Option.bind (if y5_ = (-1 : Int32) then some (1 : Int32) else Option.bind (fJ6_bitCount_0f7a4 μ y6_) (fun v23 => Option.bind (fJ6_bitCount_0f7a4 μ y5_) (fun v24 => (if v24 ≤ v23 then some (0 : Int32) else some (1 : Int32))))) (fun q22 => Option.bind (if q22 = 0 then some (y5_, μ) else (if (y6_ &&& x4_) = 0 then Option.bind (fX7_isBrokenBy μ r1_ r2_ x3_ y6_) (fun q26 => (if q26.1 = 0 then some (y5_, q26.2) else some (y6_, q26.2))) else some (y5_, μ))) (fun q25 => ic_lt (y6_ + (1 : Int32)) (fun x27 => lpX7_fewestOn_13 r1_ r2_ x3_ x4_ fu q25.1 x27 q25.2))))
def fX7_fewestOn (μ : ic_M) (r1 : Nat) (r2 : Nat) (x3 : Int32) : Option (Int32 × ic_M) := Option.bind (fX1_drowned μ r2 r1) (fun v21 => Option.bind (lpX7_fewestOn_13 r1 r2 x3 v21 1000 (-1 : Int32) (0 : Int32) μ) (fun q28 => some (q28.1, q28.2)))
def lpX7_saltFor_18 (μ : ic_M) (r1_ : Nat) (x4_ : Int32) (x5_ : Int32) : Nat → Int32 → Option ((Unit) ⊕ (Int32))
  | 0, _ => none
  | fu + 1, y6_ => (if x5_ < y6_ then some (.inl ()) else (if ((μ r1_ 10) * (x5_ - y6_)) < x4_ then some (.inr y6_) else (if y6_ = x5_ then some (.inr y6_) else ic_lt (y6_ + (1 : Int32)) (fun x23 => lpX7_saltFor_18 μ r1_ x4_ x5_ fu x23))))
def fX7_saltFor (μ : ic_M) (r1 : Nat) (r2 : Nat) (x3 : Int32) : Option (Int32) := Option.bind (fX1_load μ r2 r1 x3) (fun v21 => Option.bind (fX1_inchesOf μ r2 x3) (fun v22 => Option.bind (lpX7_saltFor_18 μ r1 v21 v22 1000 (1 : Int32)) (fun q24 => Sum.elim (fun t25 => some (-1 : Int32)) some q24)))
def lpX7_breakingSteps_14 (r1_ : Nat) (r2_ : Nat) (x3_ : Int32) (x4_ : Int32) (x5_ : Int32) : Nat → Int32 → Int32 → ic_M → Option (Int32 × ic_M)
  | 0, _, _, _ => none
  | fu + 1, y6_, y7_, μ => (if (μ r1_ 11) ≤ y7_ then some (y6_, μ) else Option.bind (fX8_isIn μ x5_ y7_) (fun v22 => Option.bind (if v22 = 0 then some (y6_, μ) else Option.bind (fX1_copyFrom μ 58 r2_) (fun m24 => Option.bind (fX1_go m24 58 r1_ x3_ y7_) (fun q25 => Option.bind (fX1_placeOf q25.2 58 x3_) (fun v26 => Option.bind (if v26 = (-2 : Int32) then some (1 : Int32) else some (0 : Int32)) (fun q27 => (if q25.1 ≤ 0 then some (y6_, q25.2) else (if q27 = x4_ then ic_lt ((y6_ ||| ((1 : Int32) <<< (y7_ &&& 31)))) (fun x28 => some (x28, q25.2)) else some (y6_, q25.2)))))))) (fun q23 => ic_lt (y7_ + (1 : Int32)) (fun x29 => lpX7_breakingSteps_14 r1_ r2_ x3_ x4_ x5_ fu q23.1 x29 q23.2))))
def fX7_breakingSteps (μ : ic_M) (r1 : Nat) (r2 : Nat) (x3 : Int32) (x4 : Int32) : Option (Int32 × ic_M) := Option.bind (fX1_ways μ r2 r1 x3) (fun v21 => Option.bind (lpX7_breakingSteps_14 r1 r2 x3 x4 v21 1000 (0 : Int32) (0 : Int32) μ) (fun q30 => some (q30.1, q30.2)))
def lpX7_nearestCrack_34 (μ : ic_M) (r1_ : Nat) (x4_ : Int32) (x5_ : Int32) : Nat → Int32 → Int32 → Option ((Unit) ⊕ (Int32))
  | 0, _, _ => none
  | fu + 1, y6_, y7_ => (if (3 : Int32) < y7_ then some (.inl ()) else (if (y6_ &&& x5_) = 0 then Option.bind (fX5_nextToAny μ r1_ y6_) (fun v26 => ic_lt ((y6_ ||| (v26 &&& x4_))) (fun x27 => ic_lt (y7_ + (1 : Int32)) (fun x28 => lpX7_nearestCrack_34 μ r1_ x4_ x5_ fu x27 x28))) else Option.bind (fX8_leastIn μ (y6_ &&& x5_)) (fun v29 => some (.inr v29))))
def fX7_nearestCrack (μ : ic_M) (r1 : Nat) (r2 : Nat) (x3 : Int32) : Option (Int32) := Option.bind (fX1_isHole μ r2 x3) (fun v21 => (if v21 = 0 then Option.bind (fX1_holes μ r2 r1) (fun v22 => ic_lt ((v22 ^^^ (-1 : Int32))) (fun x23 => Option.bind (fX1_cracking μ r2 r1) (fun v24 => ic_lt (((1 : Int32) <<< (x3 &&& 31))) (fun x25 => Option.bind (lpX7_nearestCrack_34 μ r1 x23 v24 1000 x25 (0 : Int32)) (fun q30 => Sum.elim (fun t31 => some (-1 : Int32)) some q30))))) else some (-1 : Int32)))
def fX8_isWithin (μ : ic_M) (x0 : Int32) (x1 : Int32) (x2 : Int32) : Option (Int32) := Option.bind (if x0 < x1 then some (0 : Int32) else (if x2 < x0 then some (0 : Int32) else some (1 : Int32))) (fun q21 => ic_rz q21 (some q21))
def fX8_feed (sw : Nat) (μ : ic_M) (x1 : Int32) : Option (Int32 × ic_M) := Option.bind (fX8_isWithin μ x1 (0 : Int32) (255 : Int32)) (fun v21 => (if v21 = 0 then some ((-1000000002 : Int32), μ) else Option.bind (fX4_add μ x1) (fun q22 => Option.bind (if q22.1 = 0 then some (-1000000004 : Int32) else some (q22.2 2 2)) (fun q23 => some (q23, q22.2)))))
def fX8_fault (sw : Nat) (μ : ic_M) : Option (Int32) := some (μ 1 11)
def fX8_told (sw : Nat) (μ : ic_M) (x1 : Int32) : Option (Int32) := (if x1 = (0 : Int32) then some (μ (ic_ld sw) 8) else (if x1 = (1 : Int32) then some (μ (ic_ld sw) 9) else (if x1 = (2 : Int32) then some (μ (ic_ld sw) 10) else (if x1 = (3 : Int32) then some (μ (ic_ld sw) 12) else (if x1 = (4 : Int32) then some (μ 2 2) else (if x1 = (5 : Int32) then some (μ 4 3) else (if x1 = (6 : Int32) then some (μ 4 4) else (if x1 = (7 : Int32) then Option.bind (fX1_holes μ 4 (ic_ld sw)) (fun v21 => some v21) else (if x1 = (8 : Int32) then some (μ 4 2) else (if x1 = (9 : Int32) then Option.bind (fX1_cracking μ 4 (ic_ld sw)) (fun v22 => some v22) else (if x1 = (10 : Int32) then Option.bind (fX1_drowned μ 4 (ic_ld sw)) (fun v23 => some v23) else (if x1 = (11 : Int32) then some (μ 4 5) else (if x1 = (12 : Int32) then Option.bind (fX1_weakest μ 4 (ic_ld sw)) (fun v24 => some v24) else (if x1 = (13 : Int32) then some (μ 61 4) else (if x1 = (14 : Int32) then some (μ 66 2) else (if x1 = (15 : Int32) then some (μ 7 2) else some (-1000000002 : Int32)))))))))))))))))
def fX8_isCell (sw : Nat) (μ : ic_M) (x1 : Int32) : Option (Int32) := Option.bind (if x1 < 0 then some (0 : Int32) else (if (μ (ic_ld sw) 11) ≤ x1 then some (0 : Int32) else some (1 : Int32))) (fun q21 => ic_rz q21 (some q21))
def fX8_cell (sw : Nat) (μ : ic_M) (x1 : Int32) (x2 : Int32) : Option (Int32) := Option.bind (fX8_isCell sw μ x1) (fun v21 => (if v21 = 0 then some (-1000000001 : Int32) else (if x2 = (0 : Int32) then Option.bind (fX1_inchesOf μ 4 x1) (fun v22 => some v22) else (if x2 = (1 : Int32) then Option.bind (fX1_bears μ 4 (ic_ld sw) x1) (fun v23 => some v23) else (if x2 = (2 : Int32) then Option.bind (fX1_load μ 4 (ic_ld sw) x1) (fun v24 => some v24) else (if x2 = (3 : Int32) then Option.bind (fX1_personsOn μ 4 (ic_ld sw) x1) (fun v25 => some v25) else (if x2 = (4 : Int32) then Option.bind (fX5_currentAt μ (ic_ld sw) x1) (fun v26 => some v26) else (if x2 = (5 : Int32) then Option.bind (fX1_spare μ 4 (ic_ld sw) x1) (fun v27 => some (v27 + (10000 : Int32))) else some (-1000000002 : Int32)))))))))
def fX8_isPerson (sw : Nat) (μ : ic_M) (x1 : Int32) : Option (Int32) := Option.bind (if x1 < 0 then some (0 : Int32) else (if (μ (ic_ld sw) 12) ≤ x1 then some (0 : Int32) else some (1 : Int32))) (fun q21 => ic_rz q21 (some q21))
def fX8_person (sw : Nat) (μ : ic_M) (x1 : Int32) (x2 : Int32) : Option (Int32) := Option.bind (fX8_isPerson sw μ x1) (fun v21 => (if v21 = 0 then some (-1000000001 : Int32) else (if x2 = (0 : Int32) then Option.bind (fX5_townOf μ (ic_ld sw) x1) (fun v22 => some v22) else (if x2 = (1 : Int32) then Option.bind (fX5_weightOf μ (ic_ld sw) x1) (fun v23 => some v23) else (if x2 = (2 : Int32) then Option.bind (fX1_placeOf μ 4 x1) (fun v24 => some v24) else some (-1000000002 : Int32))))))
def fX8_isNoRiver (sw : Nat) (μ : ic_M) : Option (Int32) := Option.bind (if (μ (ic_ld sw) 11) = 0 then some (1 : Int32) else some (0 : Int32)) (fun q21 => ic_rz q21 (some q21))
def fX8_cold (sw : Nat) (μ : ic_M) (x1 : Int32) : Option (Int32) := Option.bind (fX8_isWithin μ x1 (0 : Int32) (9999 : Int32)) (fun v21 => (if v21 = 0 then some (-1000000002 : Int32) else Option.bind (fX8_isNoRiver sw μ) (fun v22 => Option.bind (if v22 = 0 then Option.bind (fX5_coldOf μ (ic_ld sw) x1) (fun v24 => some (v24 + (10 : Int32))) else some (-1000000003 : Int32)) (fun q23 => some q23))))
def fX8_refusalOfNights (sw : Nat) (μ : ic_M) (x1 : Int32) : Option (Int32) := Option.bind (fX8_isWithin μ x1 (1 : Int32) (60 : Int32)) (fun v21 => (if v21 = 0 then some (-1000000002 : Int32) else Option.bind (fX8_isNoRiver sw μ) (fun v22 => (if v22 = 0 then Option.bind (if (μ 4 3) ≤ (9000 : Int32) then some (0 : Int32) else some (-1000000004 : Int32)) (fun q23 => some q23) else some (-1000000003 : Int32)))))
def lpX8_night_25 (sw : Nat) (x1_ : Int32) : Nat → Int32 → ic_M → Option (ic_M)
  | 0, _, _ => none
  | fu + 1, y3_, μ => (if x1_ ≤ y3_ then some μ else Option.bind (fX1_passNight μ 4 (ic_ld sw)) (fun m23 => ic_lt (y3_ + (1 : Int32)) (fun x24 => lpX8_night_25 sw x1_ fu x24 m23)))
def fX8_night (sw : Nat) (μ : ic_M) (x1 : Int32) : Option (Int32 × ic_M) := Option.bind (fX8_refusalOfNights sw μ x1) (fun v21 => (if v21 = 0 then Option.bind (fX3_remember μ 4) (fun m22 => Option.bind (lpX8_night_25 sw x1 1000 (0 : Int32) m22) (fun q25 => some ((q25 4 3), q25))) else some (v21, μ)))
def fX8_step (sw : Nat) (μ : ic_M) (x1 : Int32) (x2 : Int32) : Option (Int32 × ic_M) := Option.bind (fX8_isPerson sw μ x1) (fun v21 => (if v21 = 0 then some ((-1000000001 : Int32), μ) else (if x2 = (-1 : Int32) then Option.bind (fX1_canGo μ 4 (ic_ld sw) x1 x2) (fun v22 => (if v22 = 0 then some ((-1000000003 : Int32), μ) else Option.bind (fX3_remember μ 4) (fun m23 => Option.bind (fX1_go m23 4 (ic_ld sw) x1 x2) (fun q24 => some (q24.1, q24.2))))) else Option.bind (fX8_isCell sw μ x2) (fun v25 => (if v25 = 0 then some ((-1000000001 : Int32), μ) else Option.bind (fX1_canGo μ 4 (ic_ld sw) x1 x2) (fun v26 => (if v26 = 0 then some ((-1000000003 : Int32), μ) else Option.bind (fX3_remember μ 4) (fun m27 => Option.bind (fX1_go m27 4 (ic_ld sw) x1 x2) (fun q28 => some (q28.1, q28.2))))))))))
set_option maxRecDepth 100000 in
set_option maxHeartbeats 4000000 in
theorem lpX7_safeFor_14_ok (l : Launch) (κ : ic_K) (sw : Nat) (r1_ : Nat) (x3_ : Int32) (h1_ : ic_isO 106 r1_ 5) {Z : State → List Frame → Array Value → State → Prop} {R : Int32 × ic_M} (hk : ic_W l κ MX7_safeFor ic_X0 Z 71 [(4, .int R.1)] [] 106 (ic_rs sw) R.2 0 0) : ∀ (fu : Nat) (y4_ : Int32) (y5_ : Int32) (μ : ic_M), lpX7_safeFor_14 r1_ x3_ fu y4_ y5_ μ = some R → ic_W l κ MX7_safeFor ic_X0 Z 14 [(0, ic_rv κ.1 57), (1, ic_rv κ.1 r1_), (3, .int x3_), (4, .int y4_), (5, .int y5_)] [] 106 (ic_rs sw) μ 0 0 := by
  intro fu
  induction fu with
  | zero =>
    intro y4_ y5_ μ hf
    exact absurd hf (by simp [lpX7_safeFor_14])
  | succ fu ih =>
    intro y4_ y5_ μ hf
    rw [lpX7_safeFor_14] at hf
    refine iw_iload (i := 5) (pc' := 16) 4 rfl (by decide +kernel) ?_
    refine iw_aload_n (i := 1) (pc' := 17) 1 rfl (by decide +kernel) ?_
    refine iw_geti (pc' := 20) ic_fk5 h1_ lkf_X7_63 (by decide +kernel) ?_
    refine iw_icmp_ge (off := 51) (tg := 71) (pc' := 23) hf (by decide +kernel) (fun hf => ?_) (fun hf => ?_)
    · obtain rfl := Option.some.inj hf
      exact iw_sub [3] rfl hk
    · refine iw_aload_n (i := 0) (pc' := 24) 0 rfl (by decide +kernel) ?_
      refine iw_getr (pc' := 27) (q := 58) ic_fk7 cO_57 rfl lkf_X7_12 (by decide +kernel) ?_
      refine iw_iload_n (i := 3) (pc' := 28) 2 rfl (by decide +kernel) ?_
      refine iw_iload (i := 5) (pc' := 30) 4 rfl (by decide +kernel) ?_
      obtain ⟨m22, hc, hf⟩ := ic_bd hf
      refine iw_callV (pc' := 33) (S0 := []) (S1 := []) (c1 := 0) (s1 := 0) (k := 2) (ct_X1_putPerson l κ sw μ 58 cO_58 x3_ y5_ hc) cO_58 ⟨rfl, rfl⟩ mv_X1_putPerson lkm_X7_76 ⟨rfl, rfl⟩ (ic_sum8 trivial (Nat.le_of_ble_eq_true rfl)) (by unfold ic_rm; decide +kernel) ⟨rfl, rfl, rfl⟩ ⟨Nat.le_of_ble_eq_true rfl, Nat.le_of_ble_eq_true rfl⟩ ?_
      refine iw_aload_n (i := 0) (pc' := 34) 0 rfl (by decide +kernel) ?_
      refine iw_getr (pc' := 37) (q := 58) ic_fk7 cO_57 rfl lkf_X7_12 (by decide +kernel) ?_
      refine iw_iload (i := 5) (pc' := 39) 4 rfl (by decide +kernel) ?_
      obtain ⟨v23, hc, hf⟩ := ic_bd hf
      refine iw_callV (pc' := 42) (S0 := []) (S1 := [.int v23]) (c1 := 0) (s1 := 0) (k := 1) (ct_X1_isHole l κ sw m22 58 cO_58 y5_ hc) cO_58 ⟨rfl, rfl⟩ mv_X1_isHole lkm_X7_80 ⟨rfl, rfl⟩ (ic_sum8 trivial (Nat.le_of_ble_eq_true rfl)) (by unfold ic_rm; decide +kernel) ⟨rfl, rfl, rfl⟩ ⟨Nat.le_of_ble_eq_true rfl, Nat.le_of_ble_eq_true rfl⟩ ?_
      obtain ⟨q24, hf, hgq24⟩ := ic_bd hf
      have hjq24 : ic_W l κ MX7_safeFor ic_X0 Z 65 [(0, ic_rv κ.1 57), (1, ic_rv κ.1 r1_), (3, .int x3_), (4, .int q24), (5, .int y5_)] [] 106 (ic_rs sw) m22 0 0 := by
        have hf := hgq24
        refine iw_iinc (i := 5) (d := 1) (pc' := 68) (v := (1 : Int32)) (L1 := fun x27 => [(0, ic_rv κ.1 57), (1, ic_rv κ.1 r1_), (3, .int x3_), (4, .int q24), (5, .int x27)]) hf 4 rfl (fun _ => rfl) (by decide +kernel) (fun x27 hf => ?_)
        refine iw_goto (off := (-54)) (pc' := 14) (by decide +kernel) ?_
        exact iw_sub [0, 1, 2, 3, 4] rfl (ih _ _ _ hf)
      refine iw_if_ne (off := 23) (tg := 65) (pc' := 45) hf (by decide +kernel) (fun hf => ?_) (fun hf => ?_)
      · obtain rfl := Option.some.inj hf
        exact iw_sub [0, 1, 2, 3, 4] rfl hjq24
      · refine iw_aload_n (i := 0) (pc' := 46) 0 rfl (by decide +kernel) ?_
        refine iw_getr (pc' := 49) (q := 58) ic_fk7 cO_57 rfl lkf_X7_12 (by decide +kernel) ?_
        refine iw_aload_n (i := 1) (pc' := 50) 1 rfl (by decide +kernel) ?_
        obtain ⟨v25, hc, hf⟩ := ic_bd hf
        refine iw_callV (pc' := 53) (S0 := []) (S1 := [.int v25]) (c1 := 0) (s1 := 0) (k := 1) (ct_X1_overloaded l κ sw m22 58 cO_58 r1_ h1_ hc) cO_58 ⟨rfl, rfl⟩ mv_X1_overloaded lkm_X7_83 ⟨rfl, rfl⟩ (ic_sum8 trivial (Nat.le_of_ble_eq_true rfl)) (by unfold ic_rm; decide +kernel) ⟨rfl, rfl, rfl⟩ ⟨Nat.le_of_ble_eq_true rfl, Nat.le_of_ble_eq_true rfl⟩ ?_
        refine iw_if_ne (off := 12) (tg := 65) (pc' := 56) hf (by decide +kernel) (fun hf => ?_) (fun hf => ?_)
        · obtain rfl := Option.some.inj hf
          exact iw_sub [0, 1, 2, 3, 4] rfl hjq24
        · refine iw_iload (i := 4) (pc' := 58) 3 rfl (by decide +kernel) ?_
          refine iw_iconst (i := 1) (v := (1 : Int32)) (pc' := 59) (by decide +kernel) ?_
          refine iw_iload (i := 5) (pc' := 61) 4 rfl (by decide +kernel) ?_
          refine iw_ishl (pc' := 62) (by decide +kernel) ?_
          refine iw_ior (pc' := 63) (by decide +kernel) ?_
          refine iw_istore (i := 4) (pc' := 65) (L1 := fun x26 => [(0, ic_rv κ.1 57), (1, ic_rv κ.1 r1_), (3, .int x3_), (4, .int x26), (5, .int y5_)]) hf (fun _ => rfl) (by decide +kernel) (fun x26 hf => ?_)
          obtain rfl := Option.some.inj hf
          exact iw_sub [0, 1, 2, 3, 4] rfl hjq24
set_option maxRecDepth 100000 in
set_option maxHeartbeats 4000000 in
theorem ct_X7_safeFor (l : Launch) (κ : ic_K) (sw : Nat) (μ : ic_M) (r1 : Nat) (h1 : ic_isO 106 r1 5) (r2 : Nat) (h2 : ic_isO 106 r2 1) (x3 : Int32) {R : Int32 × ic_M} (hf : fX7_safeFor μ r1 r2 x3 = some R) : ic_C l κ MX7_safeFor [ic_rv κ.1 57, ic_rv κ.1 r1, ic_rv κ.1 r2, .int x3] 106 (ic_rs sw) μ (some (.int R.1)) 106 (ic_rs sw) R.2 := by
  refine ic_C.of (L := [(0, ic_rv κ.1 57), (1, ic_rv κ.1 r1), (2, ic_rv κ.1 r2), (3, .int x3)]) ⟨ic_cat _ _, ic_cat _ _, ic_cat _ _, rfl, trivial⟩ ⟨by decide +kernel, Nat.le_of_ble_eq_true rfl⟩ rfl ?_
  unfold fX7_safeFor at hf
  refine iw_aload_n (i := 0) (pc' := 1) 0 rfl (by decide +kernel) ?_
  refine iw_getr (pc' := 4) (q := 58) ic_fk7 cO_57 rfl lkf_X7_12 (by decide +kernel) ?_
  refine iw_aload_n (i := 2) (pc' := 5) 2 rfl (by decide +kernel) ?_
  obtain ⟨m21, hc, hf⟩ := ic_bd hf
  refine iw_callV (pc' := 8) (S0 := []) (S1 := []) (c1 := 0) (s1 := 0) (k := 1) (ct_X1_copyFrom l κ sw μ 58 cO_58 r2 h2 hc) cO_58 ⟨rfl, rfl⟩ mv_X1_copyFrom lkm_X7_72 ⟨rfl, rfl⟩ (ic_sum8 trivial (Nat.le_of_ble_eq_true rfl)) (by unfold ic_rm; decide +kernel) ⟨rfl, rfl, rfl⟩ ⟨Nat.le_of_ble_eq_true rfl, Nat.le_of_ble_eq_true rfl⟩ ?_
  refine iw_iconst (i := 0) (v := (0 : Int32)) (pc' := 9) (by decide +kernel) ?_
  refine iw_istore0 (i := 4) (pc' := 11) (L' := [(0, ic_rv κ.1 57), (1, ic_rv κ.1 r1), (2, ic_rv κ.1 r2), (3, .int x3), (4, .int (0 : Int32))]) rfl (by decide +kernel) ?_
  refine iw_iconst (i := 0) (v := (0 : Int32)) (pc' := 12) (by decide +kernel) ?_
  refine iw_istore0 (i := 5) (pc' := 14) (L' := [(0, ic_rv κ.1 57), (1, ic_rv κ.1 r1), (2, ic_rv κ.1 r2), (3, .int x3), (4, .int (0 : Int32)), (5, .int (0 : Int32))]) rfl (by decide +kernel) ?_
  obtain ⟨q28, hf, hgq28⟩ := ic_bd hf
  have hjq28 : ic_W l κ MX7_safeFor ic_X0 (ic_Z κ MX7_safeFor (some (.int R.1)) 106 (ic_rs sw) R.2) 71 [(4, .int q28.1)] [] 106 (ic_rs sw) q28.2 0 0 := by
    have hf := hgq28
    refine iw_iload (i := 4) (pc' := 73) 0 rfl (by decide +kernel) ?_
    exact iw_ireturn (ic_q1 (Option.some.inj hf)) rfl (ic_q2 (Option.some.inj hf)) (by decide +kernel)
  exact iw_sub [0, 1, 3, 4, 5] rfl (lpX7_safeFor_14_ok l κ sw r1 x3 h1 hjq28 1000 (0 : Int32) (0 : Int32) m21 hf)
set_option maxRecDepth 100000 in
set_option maxHeartbeats 4000000 in
theorem lpX8_leastIn_2_ok (l : Launch) (κ : ic_K) (sw : Nat) (μ : ic_M) (x0_ : Int32) {Rf : Int32} {R : (Unit) ⊕ (Int32)} (hk : ∀ t, R = .inl t → ic_W l κ MX8_leastIn ic_X0 (ic_Z κ MX8_leastIn (some (.int Rf)) 106 (ic_rs sw) μ) 24 [] [] 106 (ic_rs sw) μ 0 0) (hr : ∀ v, R = .inr v → v = Rf) : ∀ (fu : Nat) (y1_ : Int32), lpX8_leastIn_2 μ x0_ fu y1_ = some R → ic_W l κ MX8_leastIn ic_X0 (ic_Z κ MX8_leastIn (some (.int Rf)) 106 (ic_rs sw) μ) 2 [(0, .int x0_), (1, .int y1_)] [] 106 (ic_rs sw) μ 0 0 := by
  intro fu
  induction fu with
  | zero =>
    intro y1_ hf
    exact absurd hf (by simp [lpX8_leastIn_2])
  | succ fu ih =>
    intro y1_ hf
    rw [lpX8_leastIn_2] at hf
    refine iw_iload_n (i := 1) (pc' := 3) 1 rfl (by decide +kernel) ?_
    refine iw_bipush (i := 31) (v := (31 : Int32)) (pc' := 5) (by decide +kernel) ?_
    refine iw_icmp_ge (off := 19) (tg := 24) (pc' := 8) hf (by decide +kernel) (fun hf => ?_) (fun hf => ?_)
    · exact iw_sub [] rfl (hk _ (Option.some.inj hf).symm)
    · refine iw_iload_n (i := 0) (pc' := 9) 0 rfl (by decide +kernel) ?_
      refine iw_iload_n (i := 1) (pc' := 10) 1 rfl (by decide +kernel) ?_
      obtain ⟨v21, hc, hf⟩ := ic_bd hf
      refine iw_callS (pc' := 13) (S0 := []) (S1 := [.int v21]) (c1 := 0) (s1 := 0) (k := 2) (ct_X8_isIn l κ sw μ x0_ y1_ hc) ms_X8_isIn lkm_X8_305 ⟨rfl, rfl⟩ (ic_sum8 trivial (Nat.le_of_ble_eq_true rfl)) (by unfold ic_rm; decide +kernel) ⟨rfl, rfl, rfl⟩ ⟨Nat.le_of_ble_eq_true rfl, Nat.le_of_ble_eq_true rfl⟩ ?_
      refine iw_if_eq (off := 5) (tg := 18) (pc' := 16) hf (by decide +kernel) (fun hf => ?_) (fun hf => ?_)
      · refine iw_iinc (i := 1) (d := 1) (pc' := 21) (v := (1 : Int32)) (L1 := fun x22 => [(0, .int x0_), (1, .int x22)]) hf 1 rfl (fun _ => rfl) (by decide +kernel) (fun x22 hf => ?_)
        refine iw_goto (off := (-19)) (pc' := 2) (by decide +kernel) ?_
        exact iw_sub [0, 1] rfl (ih _ hf)
      · refine iw_iload_n (i := 1) (pc' := 17) 1 rfl (by decide +kernel) ?_
        exact iw_ireturn (hr _ (Option.some.inj hf).symm) rfl rfl (by decide +kernel)
set_option maxRecDepth 100000 in
set_option maxHeartbeats 4000000 in
theorem ct_X8_leastIn (l : Launch) (κ : ic_K) (sw : Nat) (μ : ic_M) (x0 : Int32) {R : Int32} (hf : fX8_leastIn μ x0 = some R) : ic_C l κ MX8_leastIn [.int x0] 106 (ic_rs sw) μ (some (.int R)) 106 (ic_rs sw) μ := by
  refine ic_C.of (L := [(0, .int x0)]) ⟨rfl, trivial⟩ ⟨by decide +kernel, Nat.le_of_ble_eq_true rfl⟩ rfl ?_
  unfold fX8_leastIn at hf
  refine iw_iconst (i := 0) (v := (0 : Int32)) (pc' := 1) (by decide +kernel) ?_
  refine iw_istore_n0 (i := 1) (pc' := 2) (L' := [(0, .int x0), (1, .int (0 : Int32))]) rfl (by decide +kernel) ?_
  obtain ⟨q23, hf, hgq23⟩ := ic_bd hf
  refine iw_sub [0, 1] rfl (lpX8_leastIn_2_ok l κ sw μ x0 (R := q23) (fun t24 e => ?_) (fun v e => ?_) 1000 (0 : Int32) hf)
  · subst e
    simp only [Sum.elim_inl] at hgq23
    have hf := hgq23
    refine iw_iconst (i := (-1)) (v := (-1 : Int32)) (pc' := 25) (by decide +kernel) ?_
    exact iw_ireturn (Option.some.inj hf) rfl rfl (by decide +kernel)
  · subst e
    simp only [Sum.elim_inr] at hgq23
    exact Option.some.inj hgq23
set_option maxRecDepth 100000 in
set_option maxHeartbeats 4000000 in
theorem lpX7_wayOver_67_ok (l : Launch) (κ : ic_K) (sw : Nat) (μ : ic_M) (r1_ : Nat) (x4_ : Int32) (x6_ : Int32) (x7_ : Int32) (h1_ : ic_isO 106 r1_ 5) {Rf : Int32 × ic_M} {R : (Unit) ⊕ (Int32 × ic_M)} (hk : ∀ t, R = .inl t → ic_W l κ MX7_wayOver ic_X0 (ic_Z κ MX7_wayOver (some (.int Rf.1)) 106 (ic_rs sw) Rf.2) 123 [] [] 106 (ic_rs sw) μ 0 0) (hr : ∀ v, R = .inr v → v = Rf) : ∀ (fu : Nat) (y8_ : Int32) (y9_ : Int32), lpX7_wayOver_67 μ r1_ x4_ x6_ x7_ fu y8_ y9_ = some R → ic_W l κ MX7_wayOver ic_X0 (ic_Z κ MX7_wayOver (some (.int Rf.1)) 106 (ic_rs sw) Rf.2) 67 [(1, ic_rv κ.1 r1_), (4, .int x4_), (6, .int x6_), (7, .int x7_), (8, .int y8_), (9, .int y9_)] [] 106 (ic_rs sw) μ 0 0 := by
  intro fu
  induction fu with
  | zero =>
    intro y8_ y9_ hf
    exact absurd hf (by simp [lpX7_wayOver_67])
  | succ fu ih =>
    intro y8_ y9_ hf
    rw [lpX7_wayOver_67] at hf
    refine iw_iload (i := 9) (pc' := 69) 5 rfl (by decide +kernel) ?_
    refine iw_aload_n (i := 1) (pc' := 70) 0 rfl (by decide +kernel) ?_
    refine iw_geti (pc' := 73) ic_fk5 h1_ lkf_X7_63 (by decide +kernel) ?_
    refine iw_icmp_gt (off := 50) (tg := 123) (pc' := 76) hf (by decide +kernel) (fun hf => ?_) (fun hf => ?_)
    · exact iw_sub [] rfl (hk _ (Option.some.inj hf).symm)
    · refine iw_iload (i := 7) (pc' := 78) 3 rfl (by decide +kernel) ?_
      refine iw_iload (i := 8) (pc' := 80) 4 rfl (by decide +kernel) ?_
      refine iw_iand (pc' := 81) (by decide +kernel) ?_
      refine iw_if_eq (off := 22) (tg := 103) (pc' := 84) hf (by decide +kernel) (fun hf => ?_) (fun hf => ?_)
      · refine iw_iload (i := 8) (pc' := 105) 4 rfl (by decide +kernel) ?_
        refine iw_aload_n (i := 1) (pc' := 106) 0 rfl (by decide +kernel) ?_
        refine iw_iload (i := 8) (pc' := 108) 4 rfl (by decide +kernel) ?_
        obtain ⟨v29, hc, hf⟩ := ic_bd hf
        refine iw_callV (pc' := 111) (S0 := [.int y8_]) (S1 := [.int v29, .int y8_]) (c1 := 0) (s1 := 0) (k := 1) (ct_X5_nextToAny l κ sw μ r1_ h1_ y8_ hc) h1_ ⟨rfl, rfl⟩ mv_X5_nextToAny lkm_X7_69 ⟨rfl, rfl⟩ (ic_sum8 ⟨rfl, trivial⟩ (Nat.le_of_ble_eq_true rfl)) (by unfold ic_rm; decide +kernel) ⟨rfl, rfl, rfl⟩ ⟨Nat.le_of_ble_eq_true rfl, Nat.le_of_ble_eq_true rfl⟩ ?_
        refine iw_iload (i := 6) (pc' := 113) 2 rfl (by decide +kernel) ?_
        refine iw_iand (pc' := 114) (by decide +kernel) ?_
        refine iw_ior (pc' := 115) (by decide +kernel) ?_
        refine iw_istore (i := 8) (pc' := 117) (L1 := fun x30 => [(1, ic_rv κ.1 r1_), (4, .int x4_), (6, .int x6_), (7, .int x7_), (8, .int x30), (9, .int y9_)]) hf (fun _ => rfl) (by decide +kernel) (fun x30 hf => ?_)
        refine iw_iinc (i := 9) (d := 1) (pc' := 120) (v := (1 : Int32)) (L1 := fun x31 => [(1, ic_rv κ.1 r1_), (4, .int x4_), (6, .int x6_), (7, .int x7_), (8, .int x30), (9, .int x31)]) hf 5 rfl (fun _ => rfl) (by decide +kernel) (fun x31 hf => ?_)
        refine iw_goto (off := (-53)) (pc' := 67) (by decide +kernel) ?_
        exact iw_sub [0, 1, 2, 3, 4, 5] rfl (ih _ _ hf)
      · refine iw_iload (i := 4) (pc' := 86) 1 rfl (by decide +kernel) ?_
        refine iw_if_eq (off := 14) (tg := 100) (pc' := 89) hf (by decide +kernel) (fun hf => ?_) (fun hf => ?_)
        · refine iw_iload (i := 9) (pc' := 102) 5 rfl (by decide +kernel) ?_
          exact iw_ireturn (ic_q1 (hr _ (Option.some.inj hf).symm)) rfl (ic_q2 (hr _ (Option.some.inj hf).symm)) (by decide +kernel)
        · refine iw_iload (i := 7) (pc' := 91) 3 rfl (by decide +kernel) ?_
          refine iw_iload (i := 8) (pc' := 93) 4 rfl (by decide +kernel) ?_
          refine iw_iand (pc' := 94) (by decide +kernel) ?_
          obtain ⟨v32, hc, hf⟩ := ic_bd hf
          refine iw_callSN (pc' := 97) (S0 := []) (S1 := [.int v32]) (c1 := 0) (s1 := 0) (k := 1) (ct_X8_leastIn l κ sw μ (x7_ &&& y8_) hc) ms_X8_leastIn lkm_X7_66 ⟨rfl, rfl⟩ (ic_sum8 trivial (Nat.le_of_ble_eq_true rfl)) (by unfold ic_rm; decide +kernel) ⟨rfl, rfl, rfl⟩ ⟨Nat.le_of_ble_eq_true rfl, Nat.le_of_ble_eq_true rfl⟩ ?_
          refine iw_goto (off := 5) (pc' := 102) (by decide +kernel) ?_
          exact iw_ireturn (ic_q1 (hr _ (Option.some.inj hf).symm)) rfl (ic_q2 (hr _ (Option.some.inj hf).symm)) (by decide +kernel)
set_option maxRecDepth 100000 in
set_option maxHeartbeats 4000000 in
theorem ct_X7_wayOver (l : Launch) (κ : ic_K) (sw : Nat) (μ : ic_M) (r1 : Nat) (h1 : ic_isO 106 r1 5) (r2 : Nat) (h2 : ic_isO 106 r2 1) (x3 : Int32) (x4 : Int32) {R : Int32 × ic_M} (hf : fX7_wayOver μ r1 r2 x3 x4 = some R) : ic_C l κ MX7_wayOver [ic_rv κ.1 57, ic_rv κ.1 r1, ic_rv κ.1 r2, .int x3, .int x4] 106 (ic_rs sw) μ (some (.int R.1)) 106 (ic_rs sw) R.2 := by
  refine ic_C.of (L := [(0, ic_rv κ.1 57), (1, ic_rv κ.1 r1), (2, ic_rv κ.1 r2), (3, .int x3), (4, .int x4)]) ⟨ic_cat _ _, ic_cat _ _, ic_cat _ _, rfl, rfl, trivial⟩ ⟨by decide +kernel, Nat.le_of_ble_eq_true rfl⟩ rfl ?_
  unfold fX7_wayOver at hf
  refine iw_aload_n (i := 1) (pc' := 1) 1 rfl (by decide +kernel) ?_
  refine iw_iconst (i := 1) (v := (1 : Int32)) (pc' := 2) (by decide +kernel) ?_
  refine iw_aload_n (i := 1) (pc' := 3) 1 rfl (by decide +kernel) ?_
  refine iw_iload_n (i := 3) (pc' := 4) 3 rfl (by decide +kernel) ?_
  obtain ⟨v21, hc, hf⟩ := ic_bd hf
  refine iw_callV (pc' := 7) (S0 := [.int (1 : Int32), ic_rv κ.1 r1]) (S1 := [.int v21, .int (1 : Int32), ic_rv κ.1 r1]) (c1 := 0) (s1 := 0) (k := 1) (ct_X5_townOf l κ sw μ r1 h1 x3 hc) h1 ⟨rfl, rfl⟩ mv_X5_townOf lkm_X7_42 ⟨rfl, rfl⟩ (ic_sum8 ⟨rfl, ic_cat _ _, trivial⟩ (Nat.le_of_ble_eq_true rfl)) (by unfold ic_rm; decide +kernel) ⟨rfl, rfl, rfl⟩ ⟨Nat.le_of_ble_eq_true rfl, Nat.le_of_ble_eq_true rfl⟩ ?_
  refine iw_isub (pc' := 8) (by decide +kernel) ?_
  obtain ⟨v22, hc, hf⟩ := ic_bd hf
  refine iw_callV (pc' := 11) (S0 := []) (S1 := [.int v22]) (c1 := 0) (s1 := 0) (k := 1) (ct_X5_bankOf l κ sw μ r1 h1 ((1 : Int32) - v21) hc) h1 ⟨rfl, rfl⟩ mv_X5_bankOf lkm_X7_45 ⟨rfl, rfl⟩ (ic_sum8 trivial (Nat.le_of_ble_eq_true rfl)) (by unfold ic_rm; decide +kernel) ⟨rfl, rfl, rfl⟩ ⟨Nat.le_of_ble_eq_true rfl, Nat.le_of_ble_eq_true rfl⟩ ?_
  refine iw_istore0 (i := 5) (pc' := 13) (L' := [(0, ic_rv κ.1 57), (1, ic_rv κ.1 r1), (2, ic_rv κ.1 r2), (3, .int x3), (4, .int x4), (5, .int v22)]) rfl (by decide +kernel) ?_
  refine iw_iload (i := 5) (pc' := 15) 5 rfl (by decide +kernel) ?_
  refine iw_aload_n (i := 2) (pc' := 16) 2 rfl (by decide +kernel) ?_
  refine iw_iload_n (i := 3) (pc' := 17) 3 rfl (by decide +kernel) ?_
  obtain ⟨v23, hc, hf⟩ := ic_bd hf
  refine iw_callV (pc' := 20) (S0 := [.int v22]) (S1 := [.int v23, .int v22]) (c1 := 0) (s1 := 0) (k := 1) (ct_X1_placeOf l κ sw μ r2 h2 x3 hc) h2 ⟨rfl, rfl⟩ mv_X1_placeOf lkm_X7_48 ⟨rfl, rfl⟩ (ic_sum8 ⟨rfl, trivial⟩ (Nat.le_of_ble_eq_true rfl)) (by unfold ic_rm; decide +kernel) ⟨rfl, rfl, rfl⟩ ⟨Nat.le_of_ble_eq_true rfl, Nat.le_of_ble_eq_true rfl⟩ ?_
  obtain ⟨v24, hc, hf⟩ := ic_bd hf
  refine iw_callSN (pc' := 23) (S0 := []) (S1 := [.int v24]) (c1 := 0) (s1 := 0) (k := 2) (ct_X8_isIn l κ sw μ v22 v23 hc) ms_X8_isIn lkm_X7_51 ⟨rfl, rfl⟩ (ic_sum8 trivial (Nat.le_of_ble_eq_true rfl)) (by unfold ic_rm; decide +kernel) ⟨rfl, rfl, rfl⟩ ⟨Nat.le_of_ble_eq_true rfl, Nat.le_of_ble_eq_true rfl⟩ ?_
  refine iw_if_eq (off := 14) (tg := 37) (pc' := 26) hf (by decide +kernel) (fun hf => ?_) (fun hf => ?_)
  · refine iw_aload_n (i := 0) (pc' := 38) 0 rfl (by decide +kernel) ?_
    refine iw_aload_n (i := 1) (pc' := 39) 1 rfl (by decide +kernel) ?_
    refine iw_aload_n (i := 2) (pc' := 40) 2 rfl (by decide +kernel) ?_
    refine iw_iload_n (i := 3) (pc' := 41) 3 rfl (by decide +kernel) ?_
    obtain ⟨q25, hc, hf⟩ := ic_bd hf
    refine iw_callV (pc' := 44) (S0 := []) (S1 := [.int q25.1]) (c1 := 0) (s1 := 0) (k := 3) (ct_X7_safeFor l κ sw μ r1 h1 r2 h2 x3 hc) cO_57 ⟨rfl, rfl⟩ mv_X7_safeFor lkm_X7_55 ⟨rfl, rfl⟩ (ic_sum8 trivial (Nat.le_of_ble_eq_true rfl)) (by unfold ic_rm; decide +kernel) ⟨rfl, rfl, rfl⟩ ⟨Nat.le_of_ble_eq_true rfl, Nat.le_of_ble_eq_true rfl⟩ ?_
    refine iw_istore0 (i := 6) (pc' := 46) (L' := [(0, ic_rv κ.1 57), (1, ic_rv κ.1 r1), (2, ic_rv κ.1 r2), (3, .int x3), (4, .int x4), (5, .int v22), (6, .int q25.1)]) rfl (by decide +kernel) ?_
    refine iw_aload_n (i := 2) (pc' := 47) 2 rfl (by decide +kernel) ?_
    refine iw_aload_n (i := 1) (pc' := 48) 1 rfl (by decide +kernel) ?_
    refine iw_iload_n (i := 3) (pc' := 49) 3 rfl (by decide +kernel) ?_
    obtain ⟨v26, hc, hf⟩ := ic_bd hf
    refine iw_callV (pc' := 52) (S0 := []) (S1 := [.int v26]) (c1 := 0) (s1 := 0) (k := 2) (ct_X1_ways l κ sw q25.2 r2 h2 r1 h1 x3 hc) h2 ⟨rfl, rfl⟩ mv_X1_ways lkm_X7_59 ⟨rfl, rfl⟩ (ic_sum8 trivial (Nat.le_of_ble_eq_true rfl)) (by unfold ic_rm; decide +kernel) ⟨rfl, rfl, rfl⟩ ⟨Nat.le_of_ble_eq_true rfl, Nat.le_of_ble_eq_true rfl⟩ ?_
    refine iw_iload (i := 6) (pc' := 54) 6 rfl (by decide +kernel) ?_
    refine iw_iand (pc' := 55) (by decide +kernel) ?_
    refine iw_istore (i := 7) (pc' := 57) (L1 := fun x27 => [(0, ic_rv κ.1 57), (1, ic_rv κ.1 r1), (2, ic_rv κ.1 r2), (3, .int x3), (4, .int x4), (5, .int v22), (6, .int q25.1), (7, .int x27)]) hf (fun _ => rfl) (by decide +kernel) (fun x27 hf => ?_)
    refine iw_iload (i := 5) (pc' := 59) 5 rfl (by decide +kernel) ?_
    refine iw_iload (i := 6) (pc' := 61) 6 rfl (by decide +kernel) ?_
    refine iw_iand (pc' := 62) (by decide +kernel) ?_
    refine iw_istore (i := 8) (pc' := 64) (L1 := fun x28 => [(0, ic_rv κ.1 57), (1, ic_rv κ.1 r1), (2, ic_rv κ.1 r2), (3, .int x3), (4, .int x4), (5, .int v22), (6, .int q25.1), (7, .int x27), (8, .int x28)]) hf (fun _ => rfl) (by decide +kernel) (fun x28 hf => ?_)
    refine iw_iconst (i := 1) (v := (1 : Int32)) (pc' := 65) (by decide +kernel) ?_
    refine iw_istore0 (i := 9) (pc' := 67) (L' := [(0, ic_rv κ.1 57), (1, ic_rv κ.1 r1), (2, ic_rv κ.1 r2), (3, .int x3), (4, .int x4), (5, .int v22), (6, .int q25.1), (7, .int x27), (8, .int x28), (9, .int (1 : Int32))]) rfl (by decide +kernel) ?_
    obtain ⟨q33, hf, hgq33⟩ := ic_bd hf
    refine iw_sub [1, 4, 6, 7, 8, 9] rfl (lpX7_wayOver_67_ok l κ sw q25.2 r1 x4 q25.1 x27 h1 (R := q33) (fun t34 e => ?_) (fun v e => ?_) 1000 x28 (1 : Int32) hf)
    · subst e
      simp only [Sum.elim_inl] at hgq33
      have hf := hgq33
      refine iw_iconst (i := (-1)) (v := (-1 : Int32)) (pc' := 124) (by decide +kernel) ?_
      exact iw_ireturn (ic_q1 (Option.some.inj hf)) rfl (ic_q2 (Option.some.inj hf)) (by decide +kernel)
    · subst e
      simp only [Sum.elim_inr] at hgq33
      exact Option.some.inj hgq33
  · refine iw_iload (i := 4) (pc' := 28) 4 rfl (by decide +kernel) ?_
    obtain ⟨q35, hf, hgq35⟩ := ic_bd hf
    have hjq35 : ic_W l κ MX7_wayOver ic_X0 (ic_Z κ MX7_wayOver (some (.int R.1)) 106 (ic_rs sw) R.2) 36 [] [.int q35] 106 (ic_rs sw) μ 0 0 := by
      have hf := hgq35
      exact iw_ireturn (ic_q1 (Option.some.inj hf)) rfl (ic_q2 (Option.some.inj hf)) (by decide +kernel)
    refine iw_if_eq (off := 7) (tg := 35) (pc' := 31) hf (by decide +kernel) (fun hf => ?_) (fun hf => ?_)
    · refine iw_iconst (i := 0) (v := (0 : Int32)) (pc' := 36) (by decide +kernel) ?_
      obtain rfl := Option.some.inj hf
      exact iw_sub [] rfl hjq35
    · refine iw_iconst (i := (-1)) (v := (-1 : Int32)) (pc' := 32) (by decide +kernel) ?_
      refine iw_goto (off := 4) (pc' := 36) (by decide +kernel) ?_
      obtain rfl := Option.some.inj hf
      exact iw_sub [] rfl hjq35
set_option maxRecDepth 100000 in
set_option maxHeartbeats 4000000 in
theorem lpX7_isBrokenBy_11_ok (l : Launch) (κ : ic_K) (sw : Nat) (r1_ : Nat) (x3_ : Int32) (x4_ : Int32) (h1_ : ic_isO 106 r1_ 5) {Z : State → List Frame → Array Value → State → Prop} {R : ic_M} (hk : ic_W l κ MX7_isBrokenBy ic_X0 Z 46 [(0, ic_rv κ.1 57), (1, ic_rv κ.1 r1_), (3, .int x3_)] [] 106 (ic_rs sw) R 0 0) : ∀ (fu : Nat) (y5_ : Int32) (μ : ic_M), lpX7_isBrokenBy_11 r1_ x3_ x4_ fu y5_ μ = some R → ic_W l κ MX7_isBrokenBy ic_X0 Z 11 [(0, ic_rv κ.1 57), (1, ic_rv κ.1 r1_), (3, .int x3_), (4, .int x4_), (5, .int y5_)] [] 106 (ic_rs sw) μ 0 0 := by
  intro fu
  induction fu with
  | zero =>
    intro y5_ μ hf
    exact absurd hf (by simp [lpX7_isBrokenBy_11])
  | succ fu ih =>
    intro y5_ μ hf
    rw [lpX7_isBrokenBy_11] at hf
    refine iw_iload (i := 5) (pc' := 13) 4 rfl (by decide +kernel) ?_
    refine iw_aload_n (i := 1) (pc' := 14) 1 rfl (by decide +kernel) ?_
    refine iw_geti (pc' := 17) ic_fk5 h1_ lkf_X7_90 (by decide +kernel) ?_
    refine iw_icmp_ge (off := 29) (tg := 46) (pc' := 20) hf (by decide +kernel) (fun hf => ?_) (fun hf => ?_)
    · obtain rfl := Option.some.inj hf
      exact iw_sub [0, 1, 2] rfl hk
    · refine iw_iload (i := 4) (pc' := 22) 3 rfl (by decide +kernel) ?_
      refine iw_iload (i := 5) (pc' := 24) 4 rfl (by decide +kernel) ?_
      obtain ⟨v22, hc, hf⟩ := ic_bd hf
      refine iw_callSN (pc' := 27) (S0 := []) (S1 := [.int v22]) (c1 := 0) (s1 := 0) (k := 2) (ct_X8_isIn l κ sw μ x4_ y5_ hc) ms_X8_isIn lkm_X7_51 ⟨rfl, rfl⟩ (ic_sum8 trivial (Nat.le_of_ble_eq_true rfl)) (by unfold ic_rm; decide +kernel) ⟨rfl, rfl, rfl⟩ ⟨Nat.le_of_ble_eq_true rfl, Nat.le_of_ble_eq_true rfl⟩ ?_
      obtain ⟨q23, hf, hgq23⟩ := ic_bd hf
      have hjq23 : ic_W l κ MX7_isBrokenBy ic_X0 Z 40 [(0, ic_rv κ.1 57), (1, ic_rv κ.1 r1_), (3, .int x3_), (4, .int x4_), (5, .int y5_)] [] 106 (ic_rs sw) q23 0 0 := by
        have hf := hgq23
        refine iw_iinc (i := 5) (d := 1) (pc' := 43) (v := (1 : Int32)) (L1 := fun x25 => [(0, ic_rv κ.1 57), (1, ic_rv κ.1 r1_), (3, .int x3_), (4, .int x4_), (5, .int x25)]) hf 4 rfl (fun _ => rfl) (by decide +kernel) (fun x25 hf => ?_)
        refine iw_goto (off := (-32)) (pc' := 11) (by decide +kernel) ?_
        exact iw_sub [0, 1, 2, 3, 4] rfl (ih _ _ hf)
      refine iw_if_eq (off := 13) (tg := 40) (pc' := 30) hf (by decide +kernel) (fun hf => ?_) (fun hf => ?_)
      · obtain rfl := Option.some.inj hf
        exact iw_sub [0, 1, 2, 3, 4] rfl hjq23
      · refine iw_aload_n (i := 0) (pc' := 31) 0 rfl (by decide +kernel) ?_
        refine iw_getr (pc' := 34) (q := 58) ic_fk7 cO_57 rfl lkf_X7_12 (by decide +kernel) ?_
        refine iw_iload (i := 5) (pc' := 36) 4 rfl (by decide +kernel) ?_
        refine iw_iload_n (i := 3) (pc' := 37) 2 rfl (by decide +kernel) ?_
        obtain ⟨m24, hc, hf⟩ := ic_bd hf
        refine iw_callV (pc' := 40) (S0 := []) (S1 := []) (c1 := 0) (s1 := 0) (k := 2) (ct_X1_putPerson l κ sw μ 58 cO_58 y5_ x3_ hc) cO_58 ⟨rfl, rfl⟩ mv_X1_putPerson lkm_X7_76 ⟨rfl, rfl⟩ (ic_sum8 trivial (Nat.le_of_ble_eq_true rfl)) (by unfold ic_rm; decide +kernel) ⟨rfl, rfl, rfl⟩ ⟨Nat.le_of_ble_eq_true rfl, Nat.le_of_ble_eq_true rfl⟩ ?_
        obtain rfl := Option.some.inj hf
        exact iw_sub [0, 1, 2, 3, 4] rfl hjq23
set_option maxRecDepth 100000 in
set_option maxHeartbeats 4000000 in
theorem ct_X7_isBrokenBy (l : Launch) (κ : ic_K) (sw : Nat) (μ : ic_M) (r1 : Nat) (h1 : ic_isO 106 r1 5) (r2 : Nat) (h2 : ic_isO 106 r2 1) (x3 : Int32) (x4 : Int32) {R : Int32 × ic_M} (hf : fX7_isBrokenBy μ r1 r2 x3 x4 = some R) : ic_C l κ MX7_isBrokenBy [ic_rv κ.1 57, ic_rv κ.1 r1, ic_rv κ.1 r2, .int x3, .int x4] 106 (ic_rs sw) μ (some (.int R.1)) 106 (ic_rs sw) R.2 := by
  refine ic_C.of (L := [(0, ic_rv κ.1 57), (1, ic_rv κ.1 r1), (2, ic_rv κ.1 r2), (3, .int x3), (4, .int x4)]) ⟨ic_cat _ _, ic_cat _ _, ic_cat _ _, rfl, rfl, trivial⟩ ⟨by decide +kernel, Nat.le_of_ble_eq_true rfl⟩ rfl ?_
  unfold fX7_isBrokenBy at hf
  refine iw_aload_n (i := 0) (pc' := 1) 0 rfl (by decide +kernel) ?_
  refine iw_getr (pc' := 4) (q := 58) ic_fk7 cO_57 rfl lkf_X7_12 (by decide +kernel) ?_
  refine iw_aload_n (i := 2) (pc' := 5) 2 rfl (by decide +kernel) ?_
  obtain ⟨m21, hc, hf⟩ := ic_bd hf
  refine iw_callV (pc' := 8) (S0 := []) (S1 := []) (c1 := 0) (s1 := 0) (k := 1) (ct_X1_copyFrom l κ sw μ 58 cO_58 r2 h2 hc) cO_58 ⟨rfl, rfl⟩ mv_X1_copyFrom lkm_X7_72 ⟨rfl, rfl⟩ (ic_sum8 trivial (Nat.le_of_ble_eq_true rfl)) (by unfold ic_rm; decide +kernel) ⟨rfl, rfl, rfl⟩ ⟨Nat.le_of_ble_eq_true rfl, Nat.le_of_ble_eq_true rfl⟩ ?_
  refine iw_iconst (i := 0) (v := (0 : Int32)) (pc' := 9) (by decide +kernel) ?_
  refine iw_istore0 (i := 5) (pc' := 11) (L' := [(0, ic_rv κ.1 57), (1, ic_rv κ.1 r1), (2, ic_rv κ.1 r2), (3, .int x3), (4, .int x4), (5, .int (0 : Int32))]) rfl (by decide +kernel) ?_
  obtain ⟨q26, hf, hgq26⟩ := ic_bd hf
  have hjq26 : ic_W l κ MX7_isBrokenBy ic_X0 (ic_Z κ MX7_isBrokenBy (some (.int R.1)) 106 (ic_rs sw) R.2) 46 [(0, ic_rv κ.1 57), (1, ic_rv κ.1 r1), (3, .int x3)] [] 106 (ic_rs sw) q26 0 0 := by
    have hf := hgq26
    refine iw_aload_n (i := 0) (pc' := 47) 0 rfl (by decide +kernel) ?_
    refine iw_getr (pc' := 50) (q := 58) ic_fk7 cO_57 rfl lkf_X7_12 (by decide +kernel) ?_
    refine iw_aload_n (i := 1) (pc' := 51) 1 rfl (by decide +kernel) ?_
    refine iw_iload_n (i := 3) (pc' := 52) 2 rfl (by decide +kernel) ?_
    obtain ⟨v27, hc, hf⟩ := ic_bd hf
    refine iw_callV (pc' := 55) (S0 := []) (S1 := [.int v27]) (c1 := 0) (s1 := 0) (k := 2) (ct_X1_load l κ sw q26 58 cO_58 r1 h1 x3 hc) cO_58 ⟨rfl, rfl⟩ mv_X1_load lkm_X7_102 ⟨rfl, rfl⟩ (ic_sum8 trivial (Nat.le_of_ble_eq_true rfl)) (by unfold ic_rm; decide +kernel) ⟨rfl, rfl, rfl⟩ ⟨Nat.le_of_ble_eq_true rfl, Nat.le_of_ble_eq_true rfl⟩ ?_
    refine iw_aload_n (i := 0) (pc' := 56) 0 rfl (by decide +kernel) ?_
    refine iw_getr (pc' := 59) (q := 58) ic_fk7 cO_57 rfl lkf_X7_12 (by decide +kernel) ?_
    refine iw_aload_n (i := 1) (pc' := 60) 1 rfl (by decide +kernel) ?_
    refine iw_iload_n (i := 3) (pc' := 61) 2 rfl (by decide +kernel) ?_
    obtain ⟨v28, hc, hf⟩ := ic_bd hf
    refine iw_callV (pc' := 64) (S0 := [.int v27]) (S1 := [.int v28, .int v27]) (c1 := 0) (s1 := 0) (k := 2) (ct_X1_bears l κ sw q26 58 cO_58 r1 h1 x3 hc) cO_58 ⟨rfl, rfl⟩ mv_X1_bears lkm_X7_105 ⟨rfl, rfl⟩ (ic_sum8 ⟨rfl, trivial⟩ (Nat.le_of_ble_eq_true rfl)) (by unfold ic_rm; decide +kernel) ⟨rfl, rfl, rfl⟩ ⟨Nat.le_of_ble_eq_true rfl, Nat.le_of_ble_eq_true rfl⟩ ?_
    obtain ⟨q29, hf, hgq29⟩ := ic_bd hf
    have hjq29 : ic_W l κ MX7_isBrokenBy ic_X0 (ic_Z κ MX7_isBrokenBy (some (.int R.1)) 106 (ic_rs sw) R.2) 72 [] [.int q29] 106 (ic_rs sw) q26 0 0 := by
      have hf := hgq29
      obtain ⟨hb, hf⟩ := ic_rz_of hf
      exact iw_zreturn hb (ic_q1 (Option.some.inj hf)) rfl (ic_q2 (Option.some.inj hf)) (by decide +kernel)
    refine iw_icmp_le (off := 7) (tg := 71) (pc' := 67) hf (by decide +kernel) (fun hf => ?_) (fun hf => ?_)
    · refine iw_iconst (i := 0) (v := (0 : Int32)) (pc' := 72) (by decide +kernel) ?_
      obtain rfl := Option.some.inj hf
      exact iw_sub [] rfl hjq29
    · refine iw_iconst (i := 1) (v := (1 : Int32)) (pc' := 68) (by decide +kernel) ?_
      refine iw_goto (off := 4) (pc' := 72) (by decide +kernel) ?_
      obtain rfl := Option.some.inj hf
      exact iw_sub [] rfl hjq29
  exact iw_sub [0, 1, 3, 4, 5] rfl (lpX7_isBrokenBy_11_ok l κ sw r1 x3 x4 h1 hjq26 1000 (0 : Int32) m21 hf)
set_option maxRecDepth 100000 in
set_option maxHeartbeats 4000000 in
theorem lpX7_fewestOn_13_ok (l : Launch) (κ : ic_K) (sw : Nat) (r1_ : Nat) (r2_ : Nat) (x3_ : Int32) (x4_ : Int32) (h1_ : ic_isO 106 r1_ 5) (h2_ : ic_isO 106 r2_ 1) {Z : State → List Frame → Array Value → State → Prop} {R : Int32 × ic_M} (hk : ic_W l κ MX7_fewestOn ic_X0 Z 85 [(5, .int R.1)] [] 106 (ic_rs sw) R.2 0 0) : ∀ (fu : Nat) (y5_ : Int32) (y6_ : Int32) (μ : ic_M), lpX7_fewestOn_13 r1_ r2_ x3_ x4_ fu y5_ y6_ μ = some R → ic_W l κ MX7_fewestOn ic_X0 Z 13 [(0, ic_rv κ.1 57), (1, ic_rv κ.1 r1_), (2, ic_rv κ.1 r2_), (3, .int x3_), (4, .int x4_), (5, .int y5_), (6, .int y6_)] [] 106 (ic_rs sw) μ 0 0 := by
  intro fu
  induction fu with
  | zero =>
    intro y5_ y6_ μ hf
    exact absurd hf (by simp [lpX7_fewestOn_13])
  | succ fu ih =>
    intro y5_ y6_ μ hf
    rw [lpX7_fewestOn_13] at hf
    refine iw_iload (i := 6) (pc' := 15) 6 rfl (by decide +kernel) ?_
    refine iw_iconst (i := 1) (v := (1 : Int32)) (pc' := 16) (by decide +kernel) ?_
    refine iw_aload_n (i := 1) (pc' := 17) 1 rfl (by decide +kernel) ?_
    refine iw_geti (pc' := 20) ic_fk5 h1_ lkf_X7_90 (by decide +kernel) ?_
    refine iw_ishl (pc' := 21) (by decide +kernel) ?_
    refine iw_icmp_ge (off := 64) (tg := 85) (pc' := 24) hf (by decide +kernel) (fun hf => ?_) (fun hf => ?_)
    · obtain rfl := Option.some.inj hf
      exact iw_sub [5] rfl hk
    · refine iw_iload (i := 5) (pc' := 26) 5 rfl (by decide +kernel) ?_
      refine iw_iconst (i := (-1)) (v := (-1 : Int32)) (pc' := 27) (by decide +kernel) ?_
      obtain ⟨q22, hf, hgq22⟩ := ic_bd hf
      have hjq22 : ic_W l κ MX7_fewestOn ic_X0 Z 48 [(0, ic_rv κ.1 57), (1, ic_rv κ.1 r1_), (2, ic_rv κ.1 r2_), (3, .int x3_), (4, .int x4_), (5, .int y5_), (6, .int y6_)] [.int q22] 106 (ic_rs sw) μ 0 0 := by
        have hf := hgq22
        refine iw_istore0 (i := 7) (pc' := 50) (L' := [(0, ic_rv κ.1 57), (1, ic_rv κ.1 r1_), (2, ic_rv κ.1 r2_), (3, .int x3_), (4, .int x4_), (5, .int y5_), (6, .int y6_), (7, .int q22)]) rfl (by decide +kernel) ?_
        refine iw_iload (i := 7) (pc' := 52) 7 rfl (by decide +kernel) ?_
        obtain ⟨q25, hf, hgq25⟩ := ic_bd hf
        have hjq25 : ic_W l κ MX7_fewestOn ic_X0 Z 79 [(0, ic_rv κ.1 57), (1, ic_rv κ.1 r1_), (2, ic_rv κ.1 r2_), (3, .int x3_), (4, .int x4_), (5, .int q25.1), (6, .int y6_)] [] 106 (ic_rs sw) q25.2 0 0 := by
          have hf := hgq25
          refine iw_iinc (i := 6) (d := 1) (pc' := 82) (v := (1 : Int32)) (L1 := fun x27 => [(0, ic_rv κ.1 57), (1, ic_rv κ.1 r1_), (2, ic_rv κ.1 r2_), (3, .int x3_), (4, .int x4_), (5, .int q25.1), (6, .int x27)]) hf 6 rfl (fun _ => rfl) (by decide +kernel) (fun x27 hf => ?_)
          refine iw_goto (off := (-69)) (pc' := 13) (by decide +kernel) ?_
          exact iw_sub [0, 1, 2, 3, 4, 5, 6] rfl (ih _ _ _ hf)
        refine iw_if_eq (off := 27) (tg := 79) (pc' := 55) hf (by decide +kernel) (fun hf => ?_) (fun hf => ?_)
        · obtain rfl := Option.some.inj hf
          exact iw_sub [0, 1, 2, 3, 4, 5, 6] rfl hjq25
        · refine iw_iload (i := 6) (pc' := 57) 6 rfl (by decide +kernel) ?_
          refine iw_iload (i := 4) (pc' := 59) 4 rfl (by decide +kernel) ?_
          refine iw_iand (pc' := 60) (by decide +kernel) ?_
          refine iw_if_ne (off := 19) (tg := 79) (pc' := 63) hf (by decide +kernel) (fun hf => ?_) (fun hf => ?_)
          · obtain rfl := Option.some.inj hf
            exact iw_sub [0, 1, 2, 3, 4, 5, 6] rfl hjq25
          · refine iw_aload_n (i := 0) (pc' := 64) 0 rfl (by decide +kernel) ?_
            refine iw_aload_n (i := 1) (pc' := 65) 1 rfl (by decide +kernel) ?_
            refine iw_aload_n (i := 2) (pc' := 66) 2 rfl (by decide +kernel) ?_
            refine iw_iload_n (i := 3) (pc' := 67) 3 rfl (by decide +kernel) ?_
            refine iw_iload (i := 6) (pc' := 69) 6 rfl (by decide +kernel) ?_
            obtain ⟨q26, hc, hf⟩ := ic_bd hf
            refine iw_callV (pc' := 72) (S0 := []) (S1 := [.int q26.1]) (c1 := 0) (s1 := 0) (k := 4) (ct_X7_isBrokenBy l κ sw μ r1_ h1_ r2_ h2_ x3_ y6_ hc) cO_57 ⟨rfl, rfl⟩ mv_X7_isBrokenBy lkm_X7_98 ⟨rfl, rfl⟩ (ic_sum8 trivial (Nat.le_of_ble_eq_true rfl)) (by unfold ic_rm; decide +kernel) ⟨rfl, rfl, rfl⟩ ⟨Nat.le_of_ble_eq_true rfl, Nat.le_of_ble_eq_true rfl⟩ ?_
            refine iw_if_eq (off := 7) (tg := 79) (pc' := 75) hf (by decide +kernel) (fun hf => ?_) (fun hf => ?_)
            · obtain rfl := Option.some.inj hf
              exact iw_sub [0, 1, 2, 3, 4, 5, 6] rfl hjq25
            · refine iw_iload (i := 6) (pc' := 77) 6 rfl (by decide +kernel) ?_
              refine iw_istore0 (i := 5) (pc' := 79) (L' := [(0, ic_rv κ.1 57), (1, ic_rv κ.1 r1_), (2, ic_rv κ.1 r2_), (3, .int x3_), (4, .int x4_), (5, .int y6_), (6, .int y6_), (7, .int q22)]) rfl (by decide +kernel) ?_
              obtain rfl := Option.some.inj hf
              exact iw_sub [0, 1, 2, 3, 4, 5, 6] rfl hjq25
      refine iw_icmp_eq (off := 16) (tg := 43) (pc' := 30) hf (by decide +kernel) (fun hf => ?_) (fun hf => ?_)
      · refine iw_iconst (i := 1) (v := (1 : Int32)) (pc' := 44) (by decide +kernel) ?_
        refine iw_goto (off := 4) (pc' := 48) (by decide +kernel) ?_
        obtain rfl := Option.some.inj hf
        exact iw_sub [0, 1, 2, 3, 4, 5, 6] rfl hjq22
      · refine iw_iload (i := 6) (pc' := 32) 6 rfl (by decide +kernel) ?_
        obtain ⟨v23, hc, hf⟩ := ic_bd hf
        refine iw_callS (pc' := 35) (S0 := []) (S1 := [.int v23]) (c1 := 0) (s1 := 0) (k := 1) (ct_J6_bitCount_0f7a4 l κ sw μ y6_ hc) ms_J6_bitCount_0f7a4 lkm_X7_93 ⟨rfl, rfl⟩ (ic_sum8 trivial (Nat.le_of_ble_eq_true rfl)) (by unfold ic_rm; decide +kernel) ⟨rfl, rfl, rfl⟩ ⟨Nat.le_of_ble_eq_true rfl, Nat.le_of_ble_eq_true rfl⟩ ?_
        refine iw_iload (i := 5) (pc' := 37) 5 rfl (by decide +kernel) ?_
        obtain ⟨v24, hc, hf⟩ := ic_bd hf
        refine iw_callS (pc' := 40) (S0 := [.int v23]) (S1 := [.int v24, .int v23]) (c1 := 0) (s1 := 0) (k := 1) (ct_J6_bitCount_0f7a4 l κ sw μ y5_ hc) ms_J6_bitCount_0f7a4 lkm_X7_93 ⟨rfl, rfl⟩ (ic_sum8 ⟨rfl, trivial⟩ (Nat.le_of_ble_eq_true rfl)) (by unfold ic_rm; decide +kernel) ⟨rfl, rfl, rfl⟩ ⟨Nat.le_of_ble_eq_true rfl, Nat.le_of_ble_eq_true rfl⟩ ?_
        refine iw_icmp_ge (off := 7) (tg := 47) (pc' := 43) hf (by decide +kernel) (fun hf => ?_) (fun hf => ?_)
        · refine iw_iconst (i := 0) (v := (0 : Int32)) (pc' := 48) (by decide +kernel) ?_
          obtain rfl := Option.some.inj hf
          exact iw_sub [0, 1, 2, 3, 4, 5, 6] rfl hjq22
        · refine iw_iconst (i := 1) (v := (1 : Int32)) (pc' := 44) (by decide +kernel) ?_
          refine iw_goto (off := 4) (pc' := 48) (by decide +kernel) ?_
          obtain rfl := Option.some.inj hf
          exact iw_sub [0, 1, 2, 3, 4, 5, 6] rfl hjq22
set_option maxRecDepth 100000 in
set_option maxHeartbeats 4000000 in
theorem ct_X7_fewestOn (l : Launch) (κ : ic_K) (sw : Nat) (μ : ic_M) (r1 : Nat) (h1 : ic_isO 106 r1 5) (r2 : Nat) (h2 : ic_isO 106 r2 1) (x3 : Int32) {R : Int32 × ic_M} (hf : fX7_fewestOn μ r1 r2 x3 = some R) : ic_C l κ MX7_fewestOn [ic_rv κ.1 57, ic_rv κ.1 r1, ic_rv κ.1 r2, .int x3] 106 (ic_rs sw) μ (some (.int R.1)) 106 (ic_rs sw) R.2 := by
  refine ic_C.of (L := [(0, ic_rv κ.1 57), (1, ic_rv κ.1 r1), (2, ic_rv κ.1 r2), (3, .int x3)]) ⟨ic_cat _ _, ic_cat _ _, ic_cat _ _, rfl, trivial⟩ ⟨by decide +kernel, Nat.le_of_ble_eq_true rfl⟩ rfl ?_
  unfold fX7_fewestOn at hf
  refine iw_aload_n (i := 2) (pc' := 1) 2 rfl (by decide +kernel) ?_
  refine iw_aload_n (i := 1) (pc' := 2) 1 rfl (by decide +kernel) ?_
  obtain ⟨v21, hc, hf⟩ := ic_bd hf
  refine iw_callV (pc' := 5) (S0 := []) (S1 := [.int v21]) (c1 := 0) (s1 := 0) (k := 1) (ct_X1_drowned l κ sw μ r2 h2 r1 h1 hc) h2 ⟨rfl, rfl⟩ mv_X1_drowned lkm_X7_87 ⟨rfl, rfl⟩ (ic_sum8 trivial (Nat.le_of_ble_eq_true rfl)) (by unfold ic_rm; decide +kernel) ⟨rfl, rfl, rfl⟩ ⟨Nat.le_of_ble_eq_true rfl, Nat.le_of_ble_eq_true rfl⟩ ?_
  refine iw_istore0 (i := 4) (pc' := 7) (L' := [(0, ic_rv κ.1 57), (1, ic_rv κ.1 r1), (2, ic_rv κ.1 r2), (3, .int x3), (4, .int v21)]) rfl (by decide +kernel) ?_
  refine iw_iconst (i := (-1)) (v := (-1 : Int32)) (pc' := 8) (by decide +kernel) ?_
  refine iw_istore0 (i := 5) (pc' := 10) (L' := [(0, ic_rv κ.1 57), (1, ic_rv κ.1 r1), (2, ic_rv κ.1 r2), (3, .int x3), (4, .int v21), (5, .int (-1 : Int32))]) rfl (by decide +kernel) ?_
  refine iw_iconst (i := 0) (v := (0 : Int32)) (pc' := 11) (by decide +kernel) ?_
  refine iw_istore0 (i := 6) (pc' := 13) (L' := [(0, ic_rv κ.1 57), (1, ic_rv κ.1 r1), (2, ic_rv κ.1 r2), (3, .int x3), (4, .int v21), (5, .int (-1 : Int32)), (6, .int (0 : Int32))]) rfl (by decide +kernel) ?_
  obtain ⟨q28, hf, hgq28⟩ := ic_bd hf
  have hjq28 : ic_W l κ MX7_fewestOn ic_X0 (ic_Z κ MX7_fewestOn (some (.int R.1)) 106 (ic_rs sw) R.2) 85 [(5, .int q28.1)] [] 106 (ic_rs sw) q28.2 0 0 := by
    have hf := hgq28
    refine iw_iload (i := 5) (pc' := 87) 0 rfl (by decide +kernel) ?_
    exact iw_ireturn (ic_q1 (Option.some.inj hf)) rfl (ic_q2 (Option.some.inj hf)) (by decide +kernel)
  exact iw_sub [0, 1, 2, 3, 4, 5, 6] rfl (lpX7_fewestOn_13_ok l κ sw r1 r2 x3 v21 h1 h2 hjq28 1000 (-1 : Int32) (0 : Int32) μ hf)
set_option maxRecDepth 100000 in
set_option maxHeartbeats 4000000 in
theorem lpX7_saltFor_18_ok (l : Launch) (κ : ic_K) (sw : Nat) (μ : ic_M) (r1_ : Nat) (x4_ : Int32) (x5_ : Int32) (h1_ : ic_isO 106 r1_ 5) {Rf : Int32} {R : (Unit) ⊕ (Int32)} (hk : ∀ t, R = .inl t → ic_W l κ MX7_saltFor ic_X0 (ic_Z κ MX7_saltFor (some (.int Rf)) 106 (ic_rs sw) μ) 56 [] [] 106 (ic_rs sw) μ 0 0) (hr : ∀ v, R = .inr v → v = Rf) : ∀ (fu : Nat) (y6_ : Int32), lpX7_saltFor_18 μ r1_ x4_ x5_ fu y6_ = some R → ic_W l κ MX7_saltFor ic_X0 (ic_Z κ MX7_saltFor (some (.int Rf)) 106 (ic_rs sw) μ) 18 [(1, ic_rv κ.1 r1_), (4, .int x4_), (5, .int x5_), (6, .int y6_)] [] 106 (ic_rs sw) μ 0 0 := by
  intro fu
  induction fu with
  | zero =>
    intro y6_ hf
    exact absurd hf (by simp [lpX7_saltFor_18])
  | succ fu ih =>
    intro y6_ hf
    rw [lpX7_saltFor_18] at hf
    refine iw_iload (i := 6) (pc' := 20) 3 rfl (by decide +kernel) ?_
    refine iw_iload (i := 5) (pc' := 22) 2 rfl (by decide +kernel) ?_
    refine iw_icmp_gt (off := 34) (tg := 56) (pc' := 25) hf (by decide +kernel) (fun hf => ?_) (fun hf => ?_)
    · exact iw_sub [] rfl (hk _ (Option.some.inj hf).symm)
    · refine iw_aload_n (i := 1) (pc' := 26) 0 rfl (by decide +kernel) ?_
      refine iw_geti (pc' := 29) ic_fk5 h1_ lkf_X7_39 (by decide +kernel) ?_
      refine iw_iload (i := 5) (pc' := 31) 2 rfl (by decide +kernel) ?_
      refine iw_iload (i := 6) (pc' := 33) 3 rfl (by decide +kernel) ?_
      refine iw_isub (pc' := 34) (by decide +kernel) ?_
      refine iw_imul (pc' := 35) (by decide +kernel) ?_
      refine iw_iload (i := 4) (pc' := 37) 1 rfl (by decide +kernel) ?_
      refine iw_icmp_lt (off := 10) (tg := 47) (pc' := 40) hf (by decide +kernel) (fun hf => ?_) (fun hf => ?_)
      · refine iw_iload (i := 6) (pc' := 49) 3 rfl (by decide +kernel) ?_
        exact iw_ireturn (hr _ (Option.some.inj hf).symm) rfl rfl (by decide +kernel)
      · refine iw_iload (i := 6) (pc' := 42) 3 rfl (by decide +kernel) ?_
        refine iw_iload (i := 5) (pc' := 44) 2 rfl (by decide +kernel) ?_
        refine iw_icmp_ne (off := 6) (tg := 50) (pc' := 47) hf (by decide +kernel) (fun hf => ?_) (fun hf => ?_)
        · refine iw_iinc (i := 6) (d := 1) (pc' := 53) (v := (1 : Int32)) (L1 := fun x23 => [(1, ic_rv κ.1 r1_), (4, .int x4_), (5, .int x5_), (6, .int x23)]) hf 3 rfl (fun _ => rfl) (by decide +kernel) (fun x23 hf => ?_)
          refine iw_goto (off := (-35)) (pc' := 18) (by decide +kernel) ?_
          exact iw_sub [0, 1, 2, 3] rfl (ih _ hf)
        · refine iw_iload (i := 6) (pc' := 49) 3 rfl (by decide +kernel) ?_
          exact iw_ireturn (hr _ (Option.some.inj hf).symm) rfl rfl (by decide +kernel)
set_option maxRecDepth 100000 in
set_option maxHeartbeats 4000000 in
theorem ct_X7_saltFor (l : Launch) (κ : ic_K) (sw : Nat) (μ : ic_M) (r1 : Nat) (h1 : ic_isO 106 r1 5) (r2 : Nat) (h2 : ic_isO 106 r2 1) (x3 : Int32) {R : Int32} (hf : fX7_saltFor μ r1 r2 x3 = some R) : ic_C l κ MX7_saltFor [ic_rv κ.1 57, ic_rv κ.1 r1, ic_rv κ.1 r2, .int x3] 106 (ic_rs sw) μ (some (.int R)) 106 (ic_rs sw) μ := by
  refine ic_C.of (L := [(0, ic_rv κ.1 57), (1, ic_rv κ.1 r1), (2, ic_rv κ.1 r2), (3, .int x3)]) ⟨ic_cat _ _, ic_cat _ _, ic_cat _ _, rfl, trivial⟩ ⟨by decide +kernel, Nat.le_of_ble_eq_true rfl⟩ rfl ?_
  unfold fX7_saltFor at hf
  refine iw_aload_n (i := 2) (pc' := 1) 2 rfl (by decide +kernel) ?_
  refine iw_aload_n (i := 1) (pc' := 2) 1 rfl (by decide +kernel) ?_
  refine iw_iload_n (i := 3) (pc' := 3) 3 rfl (by decide +kernel) ?_
  obtain ⟨v21, hc, hf⟩ := ic_bd hf
  refine iw_callV (pc' := 6) (S0 := []) (S1 := [.int v21]) (c1 := 0) (s1 := 0) (k := 2) (ct_X1_load l κ sw μ r2 h2 r1 h1 x3 hc) h2 ⟨rfl, rfl⟩ mv_X1_load lkm_X7_102 ⟨rfl, rfl⟩ (ic_sum8 trivial (Nat.le_of_ble_eq_true rfl)) (by unfold ic_rm; decide +kernel) ⟨rfl, rfl, rfl⟩ ⟨Nat.le_of_ble_eq_true rfl, Nat.le_of_ble_eq_true rfl⟩ ?_
  refine iw_istore0 (i := 4) (pc' := 8) (L' := [(0, ic_rv κ.1 57), (1, ic_rv κ.1 r1), (2, ic_rv κ.1 r2), (3, .int x3), (4, .int v21)]) rfl (by decide +kernel) ?_
  refine iw_aload_n (i := 2) (pc' := 9) 2 rfl (by decide +kernel) ?_
  refine iw_iload_n (i := 3) (pc' := 10) 3 rfl (by decide +kernel) ?_
  obtain ⟨v22, hc, hf⟩ := ic_bd hf
  refine iw_callV (pc' := 13) (S0 := []) (S1 := [.int v22]) (c1 := 0) (s1 := 0) (k := 1) (ct_X1_inchesOf l κ sw μ r2 h2 x3 hc) h2 ⟨rfl, rfl⟩ mv_X1_inchesOf lkm_X7_18 ⟨rfl, rfl⟩ (ic_sum8 trivial (Nat.le_of_ble_eq_true rfl)) (by unfold ic_rm; decide +kernel) ⟨rfl, rfl, rfl⟩ ⟨Nat.le_of_ble_eq_true rfl, Nat.le_of_ble_eq_true rfl⟩ ?_
  refine iw_istore0 (i := 5) (pc' := 15) (L' := [(0, ic_rv κ.1 57), (1, ic_rv κ.1 r1), (2, ic_rv κ.1 r2), (3, .int x3), (4, .int v21), (5, .int v22)]) rfl (by decide +kernel) ?_
  refine iw_iconst (i := 1) (v := (1 : Int32)) (pc' := 16) (by decide +kernel) ?_
  refine iw_istore0 (i := 6) (pc' := 18) (L' := [(0, ic_rv κ.1 57), (1, ic_rv κ.1 r1), (2, ic_rv κ.1 r2), (3, .int x3), (4, .int v21), (5, .int v22), (6, .int (1 : Int32))]) rfl (by decide +kernel) ?_
  obtain ⟨q24, hf, hgq24⟩ := ic_bd hf
  refine iw_sub [1, 4, 5, 6] rfl (lpX7_saltFor_18_ok l κ sw μ r1 v21 v22 h1 (R := q24) (fun t25 e => ?_) (fun v e => ?_) 1000 (1 : Int32) hf)
  · subst e
    simp only [Sum.elim_inl] at hgq24
    have hf := hgq24
    refine iw_iconst (i := (-1)) (v := (-1 : Int32)) (pc' := 57) (by decide +kernel) ?_
    exact iw_ireturn (Option.some.inj hf) rfl rfl (by decide +kernel)
  · subst e
    simp only [Sum.elim_inr] at hgq24
    exact Option.some.inj hgq24
set_option maxRecDepth 100000 in
set_option maxHeartbeats 4000000 in
theorem lpX7_breakingSteps_14_ok (l : Launch) (κ : ic_K) (sw : Nat) (r1_ : Nat) (r2_ : Nat) (x3_ : Int32) (x4_ : Int32) (x5_ : Int32) (h1_ : ic_isO 106 r1_ 5) (h2_ : ic_isO 106 r2_ 1) {Z : State → List Frame → Array Value → State → Prop} {R : Int32 × ic_M} (hk : ic_W l κ MX7_breakingSteps ic_X0 Z 101 [(6, .int R.1)] [] 106 (ic_rs sw) R.2 0 0) : ∀ (fu : Nat) (y6_ : Int32) (y7_ : Int32) (μ : ic_M), lpX7_breakingSteps_14 r1_ r2_ x3_ x4_ x5_ fu y6_ y7_ μ = some R → ic_W l κ MX7_breakingSteps ic_X0 Z 14 [(0, ic_rv κ.1 57), (1, ic_rv κ.1 r1_), (2, ic_rv κ.1 r2_), (3, .int x3_), (4, .int x4_), (5, .int x5_), (6, .int y6_), (7, .int y7_)] [] 106 (ic_rs sw) μ 0 0 := by
  intro fu
  induction fu with
  | zero =>
    intro y6_ y7_ μ hf
    exact absurd hf (by simp [lpX7_breakingSteps_14])
  | succ fu ih =>
    intro y6_ y7_ μ hf
    rw [lpX7_breakingSteps_14] at hf
    refine iw_iload (i := 7) (pc' := 16) 7 rfl (by decide +kernel) ?_
    refine iw_aload_n (i := 1) (pc' := 17) 1 rfl (by decide +kernel) ?_
    refine iw_geti (pc' := 20) ic_fk5 h1_ lkf_X7_63 (by decide +kernel) ?_
    refine iw_icmp_ge (off := 81) (tg := 101) (pc' := 23) hf (by decide +kernel) (fun hf => ?_) (fun hf => ?_)
    · obtain rfl := Option.some.inj hf
      exact iw_sub [6] rfl hk
    · refine iw_iload (i := 5) (pc' := 25) 5 rfl (by decide +kernel) ?_
      refine iw_iload (i := 7) (pc' := 27) 7 rfl (by decide +kernel) ?_
      obtain ⟨v22, hc, hf⟩ := ic_bd hf
      refine iw_callSN (pc' := 30) (S0 := []) (S1 := [.int v22]) (c1 := 0) (s1 := 0) (k := 2) (ct_X8_isIn l κ sw μ x5_ y7_ hc) ms_X8_isIn lkm_X7_51 ⟨rfl, rfl⟩ (ic_sum8 trivial (Nat.le_of_ble_eq_true rfl)) (by unfold ic_rm; decide +kernel) ⟨rfl, rfl, rfl⟩ ⟨Nat.le_of_ble_eq_true rfl, Nat.le_of_ble_eq_true rfl⟩ ?_
      obtain ⟨q23, hf, hgq23⟩ := ic_bd hf
      have hjq23 : ic_W l κ MX7_breakingSteps ic_X0 Z 95 [(0, ic_rv κ.1 57), (1, ic_rv κ.1 r1_), (2, ic_rv κ.1 r2_), (3, .int x3_), (4, .int x4_), (5, .int x5_), (6, .int q23.1), (7, .int y7_)] [] 106 (ic_rs sw) q23.2 0 0 := by
        have hf := hgq23
        refine iw_iinc (i := 7) (d := 1) (pc' := 98) (v := (1 : Int32)) (L1 := fun x29 => [(0, ic_rv κ.1 57), (1, ic_rv κ.1 r1_), (2, ic_rv κ.1 r2_), (3, .int x3_), (4, .int x4_), (5, .int x5_), (6, .int q23.1), (7, .int x29)]) hf 7 rfl (fun _ => rfl) (by decide +kernel) (fun x29 hf => ?_)
        refine iw_goto (off := (-84)) (pc' := 14) (by decide +kernel) ?_
        exact iw_sub [0, 1, 2, 3, 4, 5, 6, 7] rfl (ih _ _ _ hf)
      refine iw_if_eq (off := 65) (tg := 95) (pc' := 33) hf (by decide +kernel) (fun hf => ?_) (fun hf => ?_)
      · obtain rfl := Option.some.inj hf
        exact iw_sub [0, 1, 2, 3, 4, 5, 6, 7] rfl hjq23
      · refine iw_aload_n (i := 0) (pc' := 34) 0 rfl (by decide +kernel) ?_
        refine iw_getr (pc' := 37) (q := 58) ic_fk7 cO_57 rfl lkf_X7_12 (by decide +kernel) ?_
        refine iw_aload_n (i := 2) (pc' := 38) 2 rfl (by decide +kernel) ?_
        obtain ⟨m24, hc, hf⟩ := ic_bd hf
        refine iw_callV (pc' := 41) (S0 := []) (S1 := []) (c1 := 0) (s1 := 0) (k := 1) (ct_X1_copyFrom l κ sw μ 58 cO_58 r2_ h2_ hc) cO_58 ⟨rfl, rfl⟩ mv_X1_copyFrom lkm_X7_72 ⟨rfl, rfl⟩ (ic_sum8 trivial (Nat.le_of_ble_eq_true rfl)) (by unfold ic_rm; decide +kernel) ⟨rfl, rfl, rfl⟩ ⟨Nat.le_of_ble_eq_true rfl, Nat.le_of_ble_eq_true rfl⟩ ?_
        refine iw_aload_n (i := 0) (pc' := 42) 0 rfl (by decide +kernel) ?_
        refine iw_getr (pc' := 45) (q := 58) ic_fk7 cO_57 rfl lkf_X7_12 (by decide +kernel) ?_
        refine iw_aload_n (i := 1) (pc' := 46) 1 rfl (by decide +kernel) ?_
        refine iw_iload_n (i := 3) (pc' := 47) 3 rfl (by decide +kernel) ?_
        refine iw_iload (i := 7) (pc' := 49) 7 rfl (by decide +kernel) ?_
        obtain ⟨q25, hc, hf⟩ := ic_bd hf
        refine iw_callV (pc' := 52) (S0 := []) (S1 := [.int q25.1]) (c1 := 0) (s1 := 0) (k := 3) (ct_X1_go l κ sw m24 58 cO_58 r1_ h1_ x3_ y7_ hc) cO_58 ⟨rfl, rfl⟩ mv_X1_go lkm_X7_108 ⟨rfl, rfl⟩ (ic_sum8 trivial (Nat.le_of_ble_eq_true rfl)) (by unfold ic_rm; decide +kernel) ⟨rfl, rfl, rfl⟩ ⟨Nat.le_of_ble_eq_true rfl, Nat.le_of_ble_eq_true rfl⟩ ?_
        refine iw_istore0 (i := 8) (pc' := 54) (L' := [(0, ic_rv κ.1 57), (1, ic_rv κ.1 r1_), (2, ic_rv κ.1 r2_), (3, .int x3_), (4, .int x4_), (5, .int x5_), (6, .int y6_), (7, .int y7_), (8, .int q25.1)]) rfl (by decide +kernel) ?_
        refine iw_aload_n (i := 0) (pc' := 55) 0 rfl (by decide +kernel) ?_
        refine iw_getr (pc' := 58) (q := 58) ic_fk7 cO_57 rfl lkf_X7_12 (by decide +kernel) ?_
        refine iw_iload_n (i := 3) (pc' := 59) 3 rfl (by decide +kernel) ?_
        obtain ⟨v26, hc, hf⟩ := ic_bd hf
        refine iw_callV (pc' := 62) (S0 := []) (S1 := [.int v26]) (c1 := 0) (s1 := 0) (k := 1) (ct_X1_placeOf l κ sw q25.2 58 cO_58 x3_ hc) cO_58 ⟨rfl, rfl⟩ mv_X1_placeOf lkm_X7_48 ⟨rfl, rfl⟩ (ic_sum8 trivial (Nat.le_of_ble_eq_true rfl)) (by unfold ic_rm; decide +kernel) ⟨rfl, rfl, rfl⟩ ⟨Nat.le_of_ble_eq_true rfl, Nat.le_of_ble_eq_true rfl⟩ ?_
        refine iw_bipush (i := (-2)) (v := (-2 : Int32)) (pc' := 64) (by decide +kernel) ?_
        obtain ⟨q27, hf, hgq27⟩ := ic_bd hf
        have hjq27 : ic_W l κ MX7_breakingSteps ic_X0 Z 72 [(0, ic_rv κ.1 57), (1, ic_rv κ.1 r1_), (2, ic_rv κ.1 r2_), (3, .int x3_), (4, .int x4_), (5, .int x5_), (6, .int y6_), (7, .int y7_), (8, .int q25.1)] [.int q27] 106 (ic_rs sw) q25.2 0 0 := by
          have hf := hgq27
          refine iw_istore0 (i := 9) (pc' := 74) (L' := [(0, ic_rv κ.1 57), (1, ic_rv κ.1 r1_), (2, ic_rv κ.1 r2_), (3, .int x3_), (4, .int x4_), (5, .int x5_), (6, .int y6_), (7, .int y7_), (8, .int q25.1), (9, .int q27)]) rfl (by decide +kernel) ?_
          refine iw_iload (i := 8) (pc' := 76) 8 rfl (by decide +kernel) ?_
          refine iw_if_le (off := 19) (tg := 95) (pc' := 79) hf (by decide +kernel) (fun hf => ?_) (fun hf => ?_)
          · obtain rfl := Option.some.inj hf
            exact iw_sub [0, 1, 2, 3, 4, 5, 6, 7] rfl hjq23
          · refine iw_iload (i := 9) (pc' := 81) 9 rfl (by decide +kernel) ?_
            refine iw_iload (i := 4) (pc' := 83) 4 rfl (by decide +kernel) ?_
            refine iw_icmp_ne (off := 12) (tg := 95) (pc' := 86) hf (by decide +kernel) (fun hf => ?_) (fun hf => ?_)
            · obtain rfl := Option.some.inj hf
              exact iw_sub [0, 1, 2, 3, 4, 5, 6, 7] rfl hjq23
            · refine iw_iload (i := 6) (pc' := 88) 6 rfl (by decide +kernel) ?_
              refine iw_iconst (i := 1) (v := (1 : Int32)) (pc' := 89) (by decide +kernel) ?_
              refine iw_iload (i := 7) (pc' := 91) 7 rfl (by decide +kernel) ?_
              refine iw_ishl (pc' := 92) (by decide +kernel) ?_
              refine iw_ior (pc' := 93) (by decide +kernel) ?_
              refine iw_istore (i := 6) (pc' := 95) (L1 := fun x28 => [(0, ic_rv κ.1 57), (1, ic_rv κ.1 r1_), (2, ic_rv κ.1 r2_), (3, .int x3_), (4, .int x4_), (5, .int x5_), (6, .int x28), (7, .int y7_), (8, .int q25.1), (9, .int q27)]) hf (fun _ => rfl) (by decide +kernel) (fun x28 hf => ?_)
              obtain rfl := Option.some.inj hf
              exact iw_sub [0, 1, 2, 3, 4, 5, 6, 7] rfl hjq23
        refine iw_icmp_ne (off := 7) (tg := 71) (pc' := 67) hf (by decide +kernel) (fun hf => ?_) (fun hf => ?_)
        · refine iw_iconst (i := 0) (v := (0 : Int32)) (pc' := 72) (by decide +kernel) ?_
          obtain rfl := Option.some.inj hf
          exact iw_sub [0, 1, 2, 3, 4, 5, 6, 7, 8] rfl hjq27
        · refine iw_iconst (i := 1) (v := (1 : Int32)) (pc' := 68) (by decide +kernel) ?_
          refine iw_goto (off := 4) (pc' := 72) (by decide +kernel) ?_
          obtain rfl := Option.some.inj hf
          exact iw_sub [0, 1, 2, 3, 4, 5, 6, 7, 8] rfl hjq27
set_option maxRecDepth 100000 in
set_option maxHeartbeats 4000000 in
theorem ct_X7_breakingSteps (l : Launch) (κ : ic_K) (sw : Nat) (μ : ic_M) (r1 : Nat) (h1 : ic_isO 106 r1 5) (r2 : Nat) (h2 : ic_isO 106 r2 1) (x3 : Int32) (x4 : Int32) {R : Int32 × ic_M} (hf : fX7_breakingSteps μ r1 r2 x3 x4 = some R) : ic_C l κ MX7_breakingSteps [ic_rv κ.1 57, ic_rv κ.1 r1, ic_rv κ.1 r2, .int x3, .int x4] 106 (ic_rs sw) μ (some (.int R.1)) 106 (ic_rs sw) R.2 := by
  refine ic_C.of (L := [(0, ic_rv κ.1 57), (1, ic_rv κ.1 r1), (2, ic_rv κ.1 r2), (3, .int x3), (4, .int x4)]) ⟨ic_cat _ _, ic_cat _ _, ic_cat _ _, rfl, rfl, trivial⟩ ⟨by decide +kernel, Nat.le_of_ble_eq_true rfl⟩ rfl ?_
  unfold fX7_breakingSteps at hf
  refine iw_aload_n (i := 2) (pc' := 1) 2 rfl (by decide +kernel) ?_
  refine iw_aload_n (i := 1) (pc' := 2) 1 rfl (by decide +kernel) ?_
  refine iw_iload_n (i := 3) (pc' := 3) 3 rfl (by decide +kernel) ?_
  obtain ⟨v21, hc, hf⟩ := ic_bd hf
  refine iw_callV (pc' := 6) (S0 := []) (S1 := [.int v21]) (c1 := 0) (s1 := 0) (k := 2) (ct_X1_ways l κ sw μ r2 h2 r1 h1 x3 hc) h2 ⟨rfl, rfl⟩ mv_X1_ways lkm_X7_59 ⟨rfl, rfl⟩ (ic_sum8 trivial (Nat.le_of_ble_eq_true rfl)) (by unfold ic_rm; decide +kernel) ⟨rfl, rfl, rfl⟩ ⟨Nat.le_of_ble_eq_true rfl, Nat.le_of_ble_eq_true rfl⟩ ?_
  refine iw_istore0 (i := 5) (pc' := 8) (L' := [(0, ic_rv κ.1 57), (1, ic_rv κ.1 r1), (2, ic_rv κ.1 r2), (3, .int x3), (4, .int x4), (5, .int v21)]) rfl (by decide +kernel) ?_
  refine iw_iconst (i := 0) (v := (0 : Int32)) (pc' := 9) (by decide +kernel) ?_
  refine iw_istore0 (i := 6) (pc' := 11) (L' := [(0, ic_rv κ.1 57), (1, ic_rv κ.1 r1), (2, ic_rv κ.1 r2), (3, .int x3), (4, .int x4), (5, .int v21), (6, .int (0 : Int32))]) rfl (by decide +kernel) ?_
  refine iw_iconst (i := 0) (v := (0 : Int32)) (pc' := 12) (by decide +kernel) ?_
  refine iw_istore0 (i := 7) (pc' := 14) (L' := [(0, ic_rv κ.1 57), (1, ic_rv κ.1 r1), (2, ic_rv κ.1 r2), (3, .int x3), (4, .int x4), (5, .int v21), (6, .int (0 : Int32)), (7, .int (0 : Int32))]) rfl (by decide +kernel) ?_
  obtain ⟨q30, hf, hgq30⟩ := ic_bd hf
  have hjq30 : ic_W l κ MX7_breakingSteps ic_X0 (ic_Z κ MX7_breakingSteps (some (.int R.1)) 106 (ic_rs sw) R.2) 101 [(6, .int q30.1)] [] 106 (ic_rs sw) q30.2 0 0 := by
    have hf := hgq30
    refine iw_iload (i := 6) (pc' := 103) 0 rfl (by decide +kernel) ?_
    exact iw_ireturn (ic_q1 (Option.some.inj hf)) rfl (ic_q2 (Option.some.inj hf)) (by decide +kernel)
  exact iw_sub [0, 1, 2, 3, 4, 5, 6, 7] rfl (lpX7_breakingSteps_14_ok l κ sw r1 r2 x3 x4 v21 h1 h2 hjq30 1000 (0 : Int32) (0 : Int32) μ hf)
set_option maxRecDepth 100000 in
set_option maxHeartbeats 4000000 in
theorem lpX7_nearestCrack_34_ok (l : Launch) (κ : ic_K) (sw : Nat) (μ : ic_M) (r1_ : Nat) (x4_ : Int32) (x5_ : Int32) (h1_ : ic_isO 106 r1_ 5) {Rf : Int32} {R : (Unit) ⊕ (Int32)} (hk : ∀ t, R = .inl t → ic_W l κ MX7_nearestCrack ic_X0 (ic_Z κ MX7_nearestCrack (some (.int Rf)) 106 (ic_rs sw) μ) 77 [] [] 106 (ic_rs sw) μ 0 0) (hr : ∀ v, R = .inr v → v = Rf) : ∀ (fu : Nat) (y6_ : Int32) (y7_ : Int32), lpX7_nearestCrack_34 μ r1_ x4_ x5_ fu y6_ y7_ = some R → ic_W l κ MX7_nearestCrack ic_X0 (ic_Z κ MX7_nearestCrack (some (.int Rf)) 106 (ic_rs sw) μ) 34 [(1, ic_rv κ.1 r1_), (4, .int x4_), (5, .int x5_), (6, .int y6_), (7, .int y7_)] [] 106 (ic_rs sw) μ 0 0 := by
  intro fu
  induction fu with
  | zero =>
    intro y6_ y7_ hf
    exact absurd hf (by simp [lpX7_nearestCrack_34])
  | succ fu ih =>
    intro y6_ y7_ hf
    rw [lpX7_nearestCrack_34] at hf
    refine iw_iload (i := 7) (pc' := 36) 4 rfl (by decide +kernel) ?_
    refine iw_iconst (i := 3) (v := (3 : Int32)) (pc' := 37) (by decide +kernel) ?_
    refine iw_icmp_gt (off := 40) (tg := 77) (pc' := 40) hf (by decide +kernel) (fun hf => ?_) (fun hf => ?_)
    · exact iw_sub [] rfl (hk _ (Option.some.inj hf).symm)
    · refine iw_iload (i := 6) (pc' := 42) 3 rfl (by decide +kernel) ?_
      refine iw_iload (i := 5) (pc' := 44) 2 rfl (by decide +kernel) ?_
      refine iw_iand (pc' := 45) (by decide +kernel) ?_
      refine iw_if_eq (off := 12) (tg := 57) (pc' := 48) hf (by decide +kernel) (fun hf => ?_) (fun hf => ?_)
      · refine iw_iload (i := 6) (pc' := 59) 3 rfl (by decide +kernel) ?_
        refine iw_aload_n (i := 1) (pc' := 60) 0 rfl (by decide +kernel) ?_
        refine iw_iload (i := 6) (pc' := 62) 3 rfl (by decide +kernel) ?_
        obtain ⟨v26, hc, hf⟩ := ic_bd hf
        refine iw_callV (pc' := 65) (S0 := [.int y6_]) (S1 := [.int v26, .int y6_]) (c1 := 0) (s1 := 0) (k := 1) (ct_X5_nextToAny l κ sw μ r1_ h1_ y6_ hc) h1_ ⟨rfl, rfl⟩ mv_X5_nextToAny lkm_X7_69 ⟨rfl, rfl⟩ (ic_sum8 ⟨rfl, trivial⟩ (Nat.le_of_ble_eq_true rfl)) (by unfold ic_rm; decide +kernel) ⟨rfl, rfl, rfl⟩ ⟨Nat.le_of_ble_eq_true rfl, Nat.le_of_ble_eq_true rfl⟩ ?_
        refine iw_iload (i := 4) (pc' := 67) 1 rfl (by decide +kernel) ?_
        refine iw_iand (pc' := 68) (by decide +kernel) ?_
        refine iw_ior (pc' := 69) (by decide +kernel) ?_
        refine iw_istore (i := 6) (pc' := 71) (L1 := fun x27 => [(1, ic_rv κ.1 r1_), (4, .int x4_), (5, .int x5_), (6, .int x27), (7, .int y7_)]) hf (fun _ => rfl) (by decide +kernel) (fun x27 hf => ?_)
        refine iw_iinc (i := 7) (d := 1) (pc' := 74) (v := (1 : Int32)) (L1 := fun x28 => [(1, ic_rv κ.1 r1_), (4, .int x4_), (5, .int x5_), (6, .int x27), (7, .int x28)]) hf 4 rfl (fun _ => rfl) (by decide +kernel) (fun x28 hf => ?_)
        refine iw_goto (off := (-40)) (pc' := 34) (by decide +kernel) ?_
        exact iw_sub [0, 1, 2, 3, 4] rfl (ih _ _ hf)
      · refine iw_iload (i := 6) (pc' := 50) 3 rfl (by decide +kernel) ?_
        refine iw_iload (i := 5) (pc' := 52) 2 rfl (by decide +kernel) ?_
        refine iw_iand (pc' := 53) (by decide +kernel) ?_
        obtain ⟨v29, hc, hf⟩ := ic_bd hf
        refine iw_callSN (pc' := 56) (S0 := []) (S1 := [.int v29]) (c1 := 0) (s1 := 0) (k := 1) (ct_X8_leastIn l κ sw μ (y6_ &&& x5_) hc) ms_X8_leastIn lkm_X7_66 ⟨rfl, rfl⟩ (ic_sum8 trivial (Nat.le_of_ble_eq_true rfl)) (by unfold ic_rm; decide +kernel) ⟨rfl, rfl, rfl⟩ ⟨Nat.le_of_ble_eq_true rfl, Nat.le_of_ble_eq_true rfl⟩ ?_
        exact iw_ireturn (hr _ (Option.some.inj hf).symm) rfl rfl (by decide +kernel)
set_option maxRecDepth 100000 in
set_option maxHeartbeats 4000000 in
theorem ct_X7_nearestCrack (l : Launch) (κ : ic_K) (sw : Nat) (μ : ic_M) (r1 : Nat) (h1 : ic_isO 106 r1 5) (r2 : Nat) (h2 : ic_isO 106 r2 1) (x3 : Int32) {R : Int32} (hf : fX7_nearestCrack μ r1 r2 x3 = some R) : ic_C l κ MX7_nearestCrack [ic_rv κ.1 57, ic_rv κ.1 r1, ic_rv κ.1 r2, .int x3] 106 (ic_rs sw) μ (some (.int R)) 106 (ic_rs sw) μ := by
  refine ic_C.of (L := [(0, ic_rv κ.1 57), (1, ic_rv κ.1 r1), (2, ic_rv κ.1 r2), (3, .int x3)]) ⟨ic_cat _ _, ic_cat _ _, ic_cat _ _, rfl, trivial⟩ ⟨by decide +kernel, Nat.le_of_ble_eq_true rfl⟩ rfl ?_
  unfold fX7_nearestCrack at hf
  refine iw_aload_n (i := 2) (pc' := 1) 2 rfl (by decide +kernel) ?_
  refine iw_iload_n (i := 3) (pc' := 2) 3 rfl (by decide +kernel) ?_
  obtain ⟨v21, hc, hf⟩ := ic_bd hf
  refine iw_callV (pc' := 5) (S0 := []) (S1 := [.int v21]) (c1 := 0) (s1 := 0) (k := 1) (ct_X1_isHole l κ sw μ r2 h2 x3 hc) h2 ⟨rfl, rfl⟩ mv_X1_isHole lkm_X7_80 ⟨rfl, rfl⟩ (ic_sum8 trivial (Nat.le_of_ble_eq_true rfl)) (by unfold ic_rm; decide +kernel) ⟨rfl, rfl, rfl⟩ ⟨Nat.le_of_ble_eq_true rfl, Nat.le_of_ble_eq_true rfl⟩ ?_
  refine iw_if_eq (off := 5) (tg := 10) (pc' := 8) hf (by decide +kernel) (fun hf => ?_) (fun hf => ?_)
  · refine iw_aload_n (i := 2) (pc' := 11) 2 rfl (by decide +kernel) ?_
    refine iw_aload_n (i := 1) (pc' := 12) 1 rfl (by decide +kernel) ?_
    obtain ⟨v22, hc, hf⟩ := ic_bd hf
    refine iw_callV (pc' := 15) (S0 := []) (S1 := [.int v22]) (c1 := 0) (s1 := 0) (k := 1) (ct_X1_holes l κ sw μ r2 h2 r1 h1 hc) h2 ⟨rfl, rfl⟩ mv_X1_holes lkm_X7_112 ⟨rfl, rfl⟩ (ic_sum8 trivial (Nat.le_of_ble_eq_true rfl)) (by unfold ic_rm; decide +kernel) ⟨rfl, rfl, rfl⟩ ⟨Nat.le_of_ble_eq_true rfl, Nat.le_of_ble_eq_true rfl⟩ ?_
    refine iw_iconst (i := (-1)) (v := (-1 : Int32)) (pc' := 16) (by decide +kernel) ?_
    refine iw_ixor (pc' := 17) (by decide +kernel) ?_
    refine iw_istore (i := 4) (pc' := 19) (L1 := fun x23 => [(0, ic_rv κ.1 57), (1, ic_rv κ.1 r1), (2, ic_rv κ.1 r2), (3, .int x3), (4, .int x23)]) hf (fun _ => rfl) (by decide +kernel) (fun x23 hf => ?_)
    refine iw_aload_n (i := 2) (pc' := 20) 2 rfl (by decide +kernel) ?_
    refine iw_aload_n (i := 1) (pc' := 21) 1 rfl (by decide +kernel) ?_
    obtain ⟨v24, hc, hf⟩ := ic_bd hf
    refine iw_callV (pc' := 24) (S0 := []) (S1 := [.int v24]) (c1 := 0) (s1 := 0) (k := 1) (ct_X1_cracking l κ sw μ r2 h2 r1 h1 hc) h2 ⟨rfl, rfl⟩ mv_X1_cracking lkm_X7_115 ⟨rfl, rfl⟩ (ic_sum8 trivial (Nat.le_of_ble_eq_true rfl)) (by unfold ic_rm; decide +kernel) ⟨rfl, rfl, rfl⟩ ⟨Nat.le_of_ble_eq_true rfl, Nat.le_of_ble_eq_true rfl⟩ ?_
    refine iw_istore0 (i := 5) (pc' := 26) (L' := [(0, ic_rv κ.1 57), (1, ic_rv κ.1 r1), (2, ic_rv κ.1 r2), (3, .int x3), (4, .int x23), (5, .int v24)]) rfl (by decide +kernel) ?_
    refine iw_iconst (i := 1) (v := (1 : Int32)) (pc' := 27) (by decide +kernel) ?_
    refine iw_iload_n (i := 3) (pc' := 28) 3 rfl (by decide +kernel) ?_
    refine iw_ishl (pc' := 29) (by decide +kernel) ?_
    refine iw_istore (i := 6) (pc' := 31) (L1 := fun x25 => [(0, ic_rv κ.1 57), (1, ic_rv κ.1 r1), (2, ic_rv κ.1 r2), (3, .int x3), (4, .int x23), (5, .int v24), (6, .int x25)]) hf (fun _ => rfl) (by decide +kernel) (fun x25 hf => ?_)
    refine iw_iconst (i := 0) (v := (0 : Int32)) (pc' := 32) (by decide +kernel) ?_
    refine iw_istore0 (i := 7) (pc' := 34) (L' := [(0, ic_rv κ.1 57), (1, ic_rv κ.1 r1), (2, ic_rv κ.1 r2), (3, .int x3), (4, .int x23), (5, .int v24), (6, .int x25), (7, .int (0 : Int32))]) rfl (by decide +kernel) ?_
    obtain ⟨q30, hf, hgq30⟩ := ic_bd hf
    refine iw_sub [1, 4, 5, 6, 7] rfl (lpX7_nearestCrack_34_ok l κ sw μ r1 x23 v24 h1 (R := q30) (fun t31 e => ?_) (fun v e => ?_) 1000 x25 (0 : Int32) hf)
    · subst e
      simp only [Sum.elim_inl] at hgq30
      have hf := hgq30
      refine iw_iconst (i := (-1)) (v := (-1 : Int32)) (pc' := 78) (by decide +kernel) ?_
      exact iw_ireturn (Option.some.inj hf) rfl rfl (by decide +kernel)
    · subst e
      simp only [Sum.elim_inr] at hgq30
      exact Option.some.inj hgq30
  · refine iw_iconst (i := (-1)) (v := (-1 : Int32)) (pc' := 9) (by decide +kernel) ?_
    exact iw_ireturn (Option.some.inj hf) rfl rfl (by decide +kernel)
set_option maxRecDepth 100000 in
set_option maxHeartbeats 4000000 in
theorem ct_X8_isWithin (l : Launch) (κ : ic_K) (sw : Nat) (μ : ic_M) (x0 : Int32) (x1 : Int32) (x2 : Int32) {R : Int32} (hf : fX8_isWithin μ x0 x1 x2 = some R) : ic_C l κ MX8_isWithin [.int x0, .int x1, .int x2] 106 (ic_rs sw) μ (some (.int R)) 106 (ic_rs sw) μ := by
  refine ic_C.of (L := [(0, .int x0), (1, .int x1), (2, .int x2)]) ⟨rfl, rfl, rfl, trivial⟩ ⟨by decide +kernel, Nat.le_of_ble_eq_true rfl⟩ rfl ?_
  unfold fX8_isWithin at hf
  refine iw_iload_n (i := 0) (pc' := 1) 0 rfl (by decide +kernel) ?_
  refine iw_iload_n (i := 1) (pc' := 2) 1 rfl (by decide +kernel) ?_
  obtain ⟨q21, hf, hgq21⟩ := ic_bd hf
  have hjq21 : ic_W l κ MX8_isWithin ic_X0 (ic_Z κ MX8_isWithin (some (.int R)) 106 (ic_rs sw) μ) 15 [] [.int q21] 106 (ic_rs sw) μ 0 0 := by
    have hf := hgq21
    obtain ⟨hb, hf⟩ := ic_rz_of hf
    exact iw_zreturn hb (Option.some.inj hf) rfl rfl (by decide +kernel)
  refine iw_icmp_lt (off := 12) (tg := 14) (pc' := 5) hf (by decide +kernel) (fun hf => ?_) (fun hf => ?_)
  · refine iw_iconst (i := 0) (v := (0 : Int32)) (pc' := 15) (by decide +kernel) ?_
    obtain rfl := Option.some.inj hf
    exact iw_sub [] rfl hjq21
  · refine iw_iload_n (i := 0) (pc' := 6) 0 rfl (by decide +kernel) ?_
    refine iw_iload_n (i := 2) (pc' := 7) 2 rfl (by decide +kernel) ?_
    refine iw_icmp_gt (off := 7) (tg := 14) (pc' := 10) hf (by decide +kernel) (fun hf => ?_) (fun hf => ?_)
    · refine iw_iconst (i := 0) (v := (0 : Int32)) (pc' := 15) (by decide +kernel) ?_
      obtain rfl := Option.some.inj hf
      exact iw_sub [] rfl hjq21
    · refine iw_iconst (i := 1) (v := (1 : Int32)) (pc' := 11) (by decide +kernel) ?_
      refine iw_goto (off := 4) (pc' := 15) (by decide +kernel) ?_
      obtain rfl := Option.some.inj hf
      exact iw_sub [] rfl hjq21
set_option maxRecDepth 100000 in
set_option maxHeartbeats 4000000 in
theorem ct_X8_feed (l : Launch) (κ : ic_K) (sw : Nat) (μ : ic_M) (x1 : Int32) {R : Int32 × ic_M} (hf : fX8_feed sw μ x1 = some R) : ic_C l κ MX8_feed [ic_rv κ.1 1, .int x1] 106 (ic_rs sw) μ (some (.int R.1)) 106 (ic_rs sw) R.2 := by
  refine ic_C.of (L := [(0, ic_rv κ.1 1), (1, .int x1)]) ⟨ic_cat _ _, rfl, trivial⟩ ⟨by decide +kernel, Nat.le_of_ble_eq_true rfl⟩ rfl ?_
  unfold fX8_feed at hf
  refine iw_iload_n (i := 1) (pc' := 1) 1 rfl (by decide +kernel) ?_
  refine iw_iconst (i := 0) (v := (0 : Int32)) (pc' := 2) (by decide +kernel) ?_
  refine iw_sipush (i := 255) (v := (255 : Int32)) (pc' := 5) (by decide +kernel) ?_
  obtain ⟨v21, hc, hf⟩ := ic_bd hf
  refine iw_callS (pc' := 8) (S0 := []) (S1 := [.int v21]) (c1 := 0) (s1 := 0) (k := 3) (ct_X8_isWithin l κ sw μ x1 (0 : Int32) (255 : Int32) hc) ms_X8_isWithin lkm_X8_78 ⟨rfl, rfl⟩ (ic_sum8 trivial (Nat.le_of_ble_eq_true rfl)) (by unfold ic_rm; decide +kernel) ⟨rfl, rfl, rfl⟩ ⟨Nat.le_of_ble_eq_true rfl, Nat.le_of_ble_eq_true rfl⟩ ?_
  refine iw_if_ne (off := 6) (tg := 14) (pc' := 11) hf (by decide +kernel) (fun hf => ?_) (fun hf => ?_)
  · refine iw_aload_n (i := 0) (pc' := 15) 0 rfl (by decide +kernel) ?_
    refine iw_getr (pc' := 18) (q := 2) ic_fk8 cO_1 rfl lkf_X8_10 (by decide +kernel) ?_
    refine iw_iload_n (i := 1) (pc' := 19) 1 rfl (by decide +kernel) ?_
    obtain ⟨q22, hc, hf⟩ := ic_bd hf
    refine iw_callV (pc' := 22) (S0 := []) (S1 := [.int q22.1]) (c1 := 0) (s1 := 0) (k := 1) (ct_X4_add l κ sw μ x1 hc) cO_2 ⟨rfl, rfl⟩ mv_X4_add lkm_X8_83 ⟨rfl, rfl⟩ (ic_sum8 trivial (Nat.le_of_ble_eq_true rfl)) (by unfold ic_rm; decide +kernel) ⟨rfl, rfl, rfl⟩ ⟨Nat.le_of_ble_eq_true rfl, Nat.le_of_ble_eq_true rfl⟩ ?_
    obtain ⟨q23, hf, hgq23⟩ := ic_bd hf
    have hjq23 : ic_W l κ MX8_feed ic_X0 (ic_Z κ MX8_feed (some (.int R.1)) 106 (ic_rs sw) R.2) 37 [] [.int q23] 106 (ic_rs sw) q22.2 0 0 := by
      have hf := hgq23
      exact iw_ireturn (ic_q1 (Option.some.inj hf)) rfl (ic_q2 (Option.some.inj hf)) (by decide +kernel)
    refine iw_if_eq (off := 13) (tg := 35) (pc' := 25) hf (by decide +kernel) (fun hf => ?_) (fun hf => ?_)
    · refine iw_ldc (pc' := 37) lkc_X8_90 (by decide +kernel) ?_
      obtain rfl := Option.some.inj hf
      exact iw_sub [] rfl hjq23
    · refine iw_aload_n (i := 0) (pc' := 26) 0 rfl (by decide +kernel) ?_
      refine iw_getr (pc' := 29) (q := 2) ic_fk8 cO_1 rfl lkf_X8_10 (by decide +kernel) ?_
      refine iw_geti (pc' := 32) ic_fk4 cO_2 lkf_X8_87 (by decide +kernel) ?_
      refine iw_goto (off := 5) (pc' := 37) (by decide +kernel) ?_
      obtain rfl := Option.some.inj hf
      exact iw_sub [] rfl hjq23
  · refine iw_ldc (pc' := 13) lkc_X8_82 (by decide +kernel) ?_
    exact iw_ireturn (ic_q1 (Option.some.inj hf)) rfl (ic_q2 (Option.some.inj hf)) (by decide +kernel)
set_option maxRecDepth 100000 in
set_option maxHeartbeats 4000000 in
theorem ct_X8_fault (l : Launch) (κ : ic_K) (sw : Nat) (μ : ic_M) {R : Int32} (hf : fX8_fault sw μ = some R) : ic_C l κ MX8_fault [ic_rv κ.1 1] 106 (ic_rs sw) μ (some (.int R)) 106 (ic_rs sw) μ := by
  refine ic_C.of (L := [(0, ic_rv κ.1 1)]) ⟨ic_cat _ _, trivial⟩ ⟨by decide +kernel, Nat.le_of_ble_eq_true rfl⟩ rfl ?_
  unfold fX8_fault at hf
  refine iw_aload_n (i := 0) (pc' := 1) 0 rfl (by decide +kernel) ?_
  refine iw_geti (pc' := 4) ic_fk8 cO_1 lkf_X8_75 (by decide +kernel) ?_
  exact iw_ireturn (Option.some.inj hf) rfl rfl (by decide +kernel)
set_option maxRecDepth 100000 in
set_option maxHeartbeats 4000000 in
theorem ct_X8_told (l : Launch) (κ : ic_K) (sw : Nat) (μ : ic_M) (x1 : Int32) {R : Int32} (hf : fX8_told sw μ x1 = some R) : ic_C l κ MX8_told [ic_rv κ.1 1, .int x1] 106 (ic_rs sw) μ (some (.int R)) 106 (ic_rs sw) μ := by
  refine ic_C.of (L := [(0, ic_rv κ.1 1), (1, .int x1)]) ⟨ic_cat _ _, rfl, trivial⟩ ⟨by decide +kernel, Nat.le_of_ble_eq_true rfl⟩ rfl ?_
  unfold fX8_told at hf
  refine iw_iload_n (i := 1) (pc' := 1) 1 rfl (by decide +kernel) ?_
  refine iw_case hf (fun hx hf => ?_) (fun hn0 hf => ?_)
  · refine iw_tableIn (v := (0 : Int32)) (dflt := 223) (lo := 0) (hi := 15) (off := 79) (offs := #[79, 87, 95, 103, 111, 119, 127, 135, 147, 155, 167, 179, 187, 199, 207, 215]) (len := 79) (tg := 80) hx (by decide +kernel) ?_
    refine iw_aload_n (i := 0) (pc' := 81) 0 rfl (by decide +kernel) ?_
    refine iw_getr (pc' := 84) (q := (ic_ld sw)) ic_fk8 cO_1 rfl lkf_X8_61 (by decide +kernel) ?_
    refine iw_geti (pc' := 87) ic_fk5 (ic_ldO sw) lkf_X8_110 (by decide +kernel) ?_
    exact iw_ireturn (Option.some.inj hf) rfl rfl (by decide +kernel)
  · refine iw_case hf (fun hx hf => ?_) (fun hn1 hf => ?_)
    · refine iw_tableIn (v := (1 : Int32)) (dflt := 223) (lo := 0) (hi := 15) (off := 87) (offs := #[79, 87, 95, 103, 111, 119, 127, 135, 147, 155, 167, 179, 187, 199, 207, 215]) (len := 79) (tg := 88) hx (by decide +kernel) ?_
      refine iw_aload_n (i := 0) (pc' := 89) 0 rfl (by decide +kernel) ?_
      refine iw_getr (pc' := 92) (q := (ic_ld sw)) ic_fk8 cO_1 rfl lkf_X8_61 (by decide +kernel) ?_
      refine iw_geti (pc' := 95) ic_fk5 (ic_ldO sw) lkf_X8_113 (by decide +kernel) ?_
      exact iw_ireturn (Option.some.inj hf) rfl rfl (by decide +kernel)
    · refine iw_case hf (fun hx hf => ?_) (fun hn2 hf => ?_)
      · refine iw_tableIn (v := (2 : Int32)) (dflt := 223) (lo := 0) (hi := 15) (off := 95) (offs := #[79, 87, 95, 103, 111, 119, 127, 135, 147, 155, 167, 179, 187, 199, 207, 215]) (len := 79) (tg := 96) hx (by decide +kernel) ?_
        refine iw_aload_n (i := 0) (pc' := 97) 0 rfl (by decide +kernel) ?_
        refine iw_getr (pc' := 100) (q := (ic_ld sw)) ic_fk8 cO_1 rfl lkf_X8_61 (by decide +kernel) ?_
        refine iw_geti (pc' := 103) ic_fk5 (ic_ldO sw) lkf_X8_116 (by decide +kernel) ?_
        exact iw_ireturn (Option.some.inj hf) rfl rfl (by decide +kernel)
      · refine iw_case hf (fun hx hf => ?_) (fun hn3 hf => ?_)
        · refine iw_tableIn (v := (3 : Int32)) (dflt := 223) (lo := 0) (hi := 15) (off := 103) (offs := #[79, 87, 95, 103, 111, 119, 127, 135, 147, 155, 167, 179, 187, 199, 207, 215]) (len := 79) (tg := 104) hx (by decide +kernel) ?_
          refine iw_aload_n (i := 0) (pc' := 105) 0 rfl (by decide +kernel) ?_
          refine iw_getr (pc' := 108) (q := (ic_ld sw)) ic_fk8 cO_1 rfl lkf_X8_61 (by decide +kernel) ?_
          refine iw_geti (pc' := 111) ic_fk5 (ic_ldO sw) lkf_X8_119 (by decide +kernel) ?_
          exact iw_ireturn (Option.some.inj hf) rfl rfl (by decide +kernel)
        · refine iw_case hf (fun hx hf => ?_) (fun hn4 hf => ?_)
          · refine iw_tableIn (v := (4 : Int32)) (dflt := 223) (lo := 0) (hi := 15) (off := 111) (offs := #[79, 87, 95, 103, 111, 119, 127, 135, 147, 155, 167, 179, 187, 199, 207, 215]) (len := 79) (tg := 112) hx (by decide +kernel) ?_
            refine iw_aload_n (i := 0) (pc' := 113) 0 rfl (by decide +kernel) ?_
            refine iw_getr (pc' := 116) (q := 2) ic_fk8 cO_1 rfl lkf_X8_10 (by decide +kernel) ?_
            refine iw_geti (pc' := 119) ic_fk4 cO_2 lkf_X8_87 (by decide +kernel) ?_
            exact iw_ireturn (Option.some.inj hf) rfl rfl (by decide +kernel)
          · refine iw_case hf (fun hx hf => ?_) (fun hn5 hf => ?_)
            · refine iw_tableIn (v := (5 : Int32)) (dflt := 223) (lo := 0) (hi := 15) (off := 119) (offs := #[79, 87, 95, 103, 111, 119, 127, 135, 147, 155, 167, 179, 187, 199, 207, 215]) (len := 79) (tg := 120) hx (by decide +kernel) ?_
              refine iw_aload_n (i := 0) (pc' := 121) 0 rfl (by decide +kernel) ?_
              refine iw_getr (pc' := 124) (q := 4) ic_fk8 cO_1 rfl lkf_X8_19 (by decide +kernel) ?_
              refine iw_geti (pc' := 127) ic_fk1 cO_4 lkf_X8_122 (by decide +kernel) ?_
              exact iw_ireturn (Option.some.inj hf) rfl rfl (by decide +kernel)
            · refine iw_case hf (fun hx hf => ?_) (fun hn6 hf => ?_)
              · refine iw_tableIn (v := (6 : Int32)) (dflt := 223) (lo := 0) (hi := 15) (off := 127) (offs := #[79, 87, 95, 103, 111, 119, 127, 135, 147, 155, 167, 179, 187, 199, 207, 215]) (len := 79) (tg := 128) hx (by decide +kernel) ?_
                refine iw_aload_n (i := 0) (pc' := 129) 0 rfl (by decide +kernel) ?_
                refine iw_getr (pc' := 132) (q := 4) ic_fk8 cO_1 rfl lkf_X8_19 (by decide +kernel) ?_
                refine iw_geti (pc' := 135) ic_fk1 cO_4 lkf_X8_125 (by decide +kernel) ?_
                exact iw_ireturn (Option.some.inj hf) rfl rfl (by decide +kernel)
              · refine iw_case hf (fun hx hf => ?_) (fun hn7 hf => ?_)
                · refine iw_tableIn (v := (7 : Int32)) (dflt := 223) (lo := 0) (hi := 15) (off := 135) (offs := #[79, 87, 95, 103, 111, 119, 127, 135, 147, 155, 167, 179, 187, 199, 207, 215]) (len := 79) (tg := 136) hx (by decide +kernel) ?_
                  refine iw_aload_n (i := 0) (pc' := 137) 0 rfl (by decide +kernel) ?_
                  refine iw_getr (pc' := 140) (q := 4) ic_fk8 cO_1 rfl lkf_X8_19 (by decide +kernel) ?_
                  refine iw_aload_n (i := 0) (pc' := 141) 0 rfl (by decide +kernel) ?_
                  refine iw_getr (pc' := 144) (q := (ic_ld sw)) ic_fk8 cO_1 rfl lkf_X8_61 (by decide +kernel) ?_
                  obtain ⟨v21, hc, hf⟩ := ic_bd hf
                  refine iw_callV (pc' := 147) (S0 := []) (S1 := [.int v21]) (c1 := 0) (s1 := 0) (k := 1) (ct_X1_holes l κ sw μ 4 cO_4 (ic_ld sw) (ic_ldO sw) hc) cO_4 ⟨rfl, rfl⟩ mv_X1_holes lkm_X8_128 ⟨rfl, rfl⟩ (ic_sum8 trivial (Nat.le_of_ble_eq_true rfl)) (by unfold ic_rm; decide +kernel) ⟨rfl, rfl, rfl⟩ ⟨Nat.le_of_ble_eq_true rfl, Nat.le_of_ble_eq_true rfl⟩ ?_
                  exact iw_ireturn (Option.some.inj hf) rfl rfl (by decide +kernel)
                · refine iw_case hf (fun hx hf => ?_) (fun hn8 hf => ?_)
                  · refine iw_tableIn (v := (8 : Int32)) (dflt := 223) (lo := 0) (hi := 15) (off := 147) (offs := #[79, 87, 95, 103, 111, 119, 127, 135, 147, 155, 167, 179, 187, 199, 207, 215]) (len := 79) (tg := 148) hx (by decide +kernel) ?_
                    refine iw_aload_n (i := 0) (pc' := 149) 0 rfl (by decide +kernel) ?_
                    refine iw_getr (pc' := 152) (q := 4) ic_fk8 cO_1 rfl lkf_X8_19 (by decide +kernel) ?_
                    refine iw_geti (pc' := 155) ic_fk1 cO_4 lkf_X8_132 (by decide +kernel) ?_
                    exact iw_ireturn (Option.some.inj hf) rfl rfl (by decide +kernel)
                  · refine iw_case hf (fun hx hf => ?_) (fun hn9 hf => ?_)
                    · refine iw_tableIn (v := (9 : Int32)) (dflt := 223) (lo := 0) (hi := 15) (off := 155) (offs := #[79, 87, 95, 103, 111, 119, 127, 135, 147, 155, 167, 179, 187, 199, 207, 215]) (len := 79) (tg := 156) hx (by decide +kernel) ?_
                      refine iw_aload_n (i := 0) (pc' := 157) 0 rfl (by decide +kernel) ?_
                      refine iw_getr (pc' := 160) (q := 4) ic_fk8 cO_1 rfl lkf_X8_19 (by decide +kernel) ?_
                      refine iw_aload_n (i := 0) (pc' := 161) 0 rfl (by decide +kernel) ?_
                      refine iw_getr (pc' := 164) (q := (ic_ld sw)) ic_fk8 cO_1 rfl lkf_X8_61 (by decide +kernel) ?_
                      obtain ⟨v22, hc, hf⟩ := ic_bd hf
                      refine iw_callV (pc' := 167) (S0 := []) (S1 := [.int v22]) (c1 := 0) (s1 := 0) (k := 1) (ct_X1_cracking l κ sw μ 4 cO_4 (ic_ld sw) (ic_ldO sw) hc) cO_4 ⟨rfl, rfl⟩ mv_X1_cracking lkm_X8_135 ⟨rfl, rfl⟩ (ic_sum8 trivial (Nat.le_of_ble_eq_true rfl)) (by unfold ic_rm; decide +kernel) ⟨rfl, rfl, rfl⟩ ⟨Nat.le_of_ble_eq_true rfl, Nat.le_of_ble_eq_true rfl⟩ ?_
                      exact iw_ireturn (Option.some.inj hf) rfl rfl (by decide +kernel)
                    · refine iw_case hf (fun hx hf => ?_) (fun hn10 hf => ?_)
                      · refine iw_tableIn (v := (10 : Int32)) (dflt := 223) (lo := 0) (hi := 15) (off := 167) (offs := #[79, 87, 95, 103, 111, 119, 127, 135, 147, 155, 167, 179, 187, 199, 207, 215]) (len := 79) (tg := 168) hx (by decide +kernel) ?_
                        refine iw_aload_n (i := 0) (pc' := 169) 0 rfl (by decide +kernel) ?_
                        refine iw_getr (pc' := 172) (q := 4) ic_fk8 cO_1 rfl lkf_X8_19 (by decide +kernel) ?_
                        refine iw_aload_n (i := 0) (pc' := 173) 0 rfl (by decide +kernel) ?_
                        refine iw_getr (pc' := 176) (q := (ic_ld sw)) ic_fk8 cO_1 rfl lkf_X8_61 (by decide +kernel) ?_
                        obtain ⟨v23, hc, hf⟩ := ic_bd hf
                        refine iw_callV (pc' := 179) (S0 := []) (S1 := [.int v23]) (c1 := 0) (s1 := 0) (k := 1) (ct_X1_drowned l κ sw μ 4 cO_4 (ic_ld sw) (ic_ldO sw) hc) cO_4 ⟨rfl, rfl⟩ mv_X1_drowned lkm_X8_138 ⟨rfl, rfl⟩ (ic_sum8 trivial (Nat.le_of_ble_eq_true rfl)) (by unfold ic_rm; decide +kernel) ⟨rfl, rfl, rfl⟩ ⟨Nat.le_of_ble_eq_true rfl, Nat.le_of_ble_eq_true rfl⟩ ?_
                        exact iw_ireturn (Option.some.inj hf) rfl rfl (by decide +kernel)
                      · refine iw_case hf (fun hx hf => ?_) (fun hn11 hf => ?_)
                        · refine iw_tableIn (v := (11 : Int32)) (dflt := 223) (lo := 0) (hi := 15) (off := 179) (offs := #[79, 87, 95, 103, 111, 119, 127, 135, 147, 155, 167, 179, 187, 199, 207, 215]) (len := 79) (tg := 180) hx (by decide +kernel) ?_
                          refine iw_aload_n (i := 0) (pc' := 181) 0 rfl (by decide +kernel) ?_
                          refine iw_getr (pc' := 184) (q := 4) ic_fk8 cO_1 rfl lkf_X8_19 (by decide +kernel) ?_
                          refine iw_geti (pc' := 187) ic_fk1 cO_4 lkf_X8_141 (by decide +kernel) ?_
                          exact iw_ireturn (Option.some.inj hf) rfl rfl (by decide +kernel)
                        · refine iw_case hf (fun hx hf => ?_) (fun hn12 hf => ?_)
                          · refine iw_tableIn (v := (12 : Int32)) (dflt := 223) (lo := 0) (hi := 15) (off := 187) (offs := #[79, 87, 95, 103, 111, 119, 127, 135, 147, 155, 167, 179, 187, 199, 207, 215]) (len := 79) (tg := 188) hx (by decide +kernel) ?_
                            refine iw_aload_n (i := 0) (pc' := 189) 0 rfl (by decide +kernel) ?_
                            refine iw_getr (pc' := 192) (q := 4) ic_fk8 cO_1 rfl lkf_X8_19 (by decide +kernel) ?_
                            refine iw_aload_n (i := 0) (pc' := 193) 0 rfl (by decide +kernel) ?_
                            refine iw_getr (pc' := 196) (q := (ic_ld sw)) ic_fk8 cO_1 rfl lkf_X8_61 (by decide +kernel) ?_
                            obtain ⟨v24, hc, hf⟩ := ic_bd hf
                            refine iw_callV (pc' := 199) (S0 := []) (S1 := [.int v24]) (c1 := 0) (s1 := 0) (k := 1) (ct_X1_weakest l κ sw μ 4 cO_4 (ic_ld sw) (ic_ldO sw) hc) cO_4 ⟨rfl, rfl⟩ mv_X1_weakest lkm_X8_144 ⟨rfl, rfl⟩ (ic_sum8 trivial (Nat.le_of_ble_eq_true rfl)) (by unfold ic_rm; decide +kernel) ⟨rfl, rfl, rfl⟩ ⟨Nat.le_of_ble_eq_true rfl, Nat.le_of_ble_eq_true rfl⟩ ?_
                            exact iw_ireturn (Option.some.inj hf) rfl rfl (by decide +kernel)
                          · refine iw_case hf (fun hx hf => ?_) (fun hn13 hf => ?_)
                            · refine iw_tableIn (v := (13 : Int32)) (dflt := 223) (lo := 0) (hi := 15) (off := 199) (offs := #[79, 87, 95, 103, 111, 119, 127, 135, 147, 155, 167, 179, 187, 199, 207, 215]) (len := 79) (tg := 200) hx (by decide +kernel) ?_
                              refine iw_aload_n (i := 0) (pc' := 201) 0 rfl (by decide +kernel) ?_
                              refine iw_getr (pc' := 204) (q := 61) ic_fk8 cO_1 rfl lkf_X8_40 (by decide +kernel) ?_
                              refine iw_geti (pc' := 207) ic_fk6 cO_61 lkf_X8_105 (by decide +kernel) ?_
                              exact iw_ireturn (Option.some.inj hf) rfl rfl (by decide +kernel)
                            · refine iw_case hf (fun hx hf => ?_) (fun hn14 hf => ?_)
                              · refine iw_tableIn (v := (14 : Int32)) (dflt := 223) (lo := 0) (hi := 15) (off := 207) (offs := #[79, 87, 95, 103, 111, 119, 127, 135, 147, 155, 167, 179, 187, 199, 207, 215]) (len := 79) (tg := 208) hx (by decide +kernel) ?_
                                refine iw_aload_n (i := 0) (pc' := 209) 0 rfl (by decide +kernel) ?_
                                refine iw_getr (pc' := 212) (q := 66) ic_fk8 cO_1 rfl lkf_X8_47 (by decide +kernel) ?_
                                refine iw_geti (pc' := 215) ic_fk0 cO_66 lkf_X8_106 (by decide +kernel) ?_
                                exact iw_ireturn (Option.some.inj hf) rfl rfl (by decide +kernel)
                              · refine iw_case hf (fun hx hf => ?_) (fun hn15 hf => ?_)
                                · refine iw_tableIn (v := (15 : Int32)) (dflt := 223) (lo := 0) (hi := 15) (off := 215) (offs := #[79, 87, 95, 103, 111, 119, 127, 135, 147, 155, 167, 179, 187, 199, 207, 215]) (len := 79) (tg := 216) hx (by decide +kernel) ?_
                                  refine iw_aload_n (i := 0) (pc' := 217) 0 rfl (by decide +kernel) ?_
                                  refine iw_getr (pc' := 220) (q := 7) ic_fk8 cO_1 rfl lkf_X8_26 (by decide +kernel) ?_
                                  refine iw_geti (pc' := 223) ic_fk3 cO_7 lkf_X8_102 (by decide +kernel) ?_
                                  exact iw_ireturn (Option.some.inj hf) rfl rfl (by decide +kernel)
                                · refine iw_tableOut (dflt := 223) (lo := 0) (hi := 15) (offs := #[79, 87, 95, 103, 111, 119, 127, 135, 147, 155, 167, 179, 187, 199, 207, 215]) (len := 79) (tg := 224) (ic_out0_15 hn0 hn1 hn2 hn3 hn4 hn5 hn6 hn7 hn8 hn9 hn10 hn11 hn12 hn13 hn14 hn15) (by decide +kernel) ?_
                                  refine iw_ldc (pc' := 226) lkc_X8_82 (by decide +kernel) ?_
                                  exact iw_ireturn (Option.some.inj hf) rfl rfl (by decide +kernel)
set_option maxRecDepth 100000 in
set_option maxHeartbeats 4000000 in
theorem ct_X8_isCell (l : Launch) (κ : ic_K) (sw : Nat) (μ : ic_M) (x1 : Int32) {R : Int32} (hf : fX8_isCell sw μ x1 = some R) : ic_C l κ MX8_isCell [ic_rv κ.1 1, .int x1] 106 (ic_rs sw) μ (some (.int R)) 106 (ic_rs sw) μ := by
  refine ic_C.of (L := [(0, ic_rv κ.1 1), (1, .int x1)]) ⟨ic_cat _ _, rfl, trivial⟩ ⟨by decide +kernel, Nat.le_of_ble_eq_true rfl⟩ rfl ?_
  unfold fX8_isCell at hf
  refine iw_iload_n (i := 1) (pc' := 1) 1 rfl (by decide +kernel) ?_
  obtain ⟨q21, hf, hgq21⟩ := ic_bd hf
  have hjq21 : ic_W l κ MX8_isCell ic_X0 (ic_Z κ MX8_isCell (some (.int R)) 106 (ic_rs sw) μ) 20 [] [.int q21] 106 (ic_rs sw) μ 0 0 := by
    have hf := hgq21
    obtain ⟨hb, hf⟩ := ic_rz_of hf
    exact iw_zreturn hb (Option.some.inj hf) rfl rfl (by decide +kernel)
  refine iw_if_lt (off := 18) (tg := 19) (pc' := 4) hf (by decide +kernel) (fun hf => ?_) (fun hf => ?_)
  · refine iw_iconst (i := 0) (v := (0 : Int32)) (pc' := 20) (by decide +kernel) ?_
    obtain rfl := Option.some.inj hf
    exact iw_sub [] rfl hjq21
  · refine iw_iload_n (i := 1) (pc' := 5) 1 rfl (by decide +kernel) ?_
    refine iw_aload_n (i := 0) (pc' := 6) 0 rfl (by decide +kernel) ?_
    refine iw_getr (pc' := 9) (q := (ic_ld sw)) ic_fk8 cO_1 rfl lkf_X8_61 (by decide +kernel) ?_
    refine iw_geti (pc' := 12) ic_fk5 (ic_ldO sw) lkf_X8_107 (by decide +kernel) ?_
    refine iw_icmp_ge (off := 7) (tg := 19) (pc' := 15) hf (by decide +kernel) (fun hf => ?_) (fun hf => ?_)
    · refine iw_iconst (i := 0) (v := (0 : Int32)) (pc' := 20) (by decide +kernel) ?_
      obtain rfl := Option.some.inj hf
      exact iw_sub [] rfl hjq21
    · refine iw_iconst (i := 1) (v := (1 : Int32)) (pc' := 16) (by decide +kernel) ?_
      refine iw_goto (off := 4) (pc' := 20) (by decide +kernel) ?_
      obtain rfl := Option.some.inj hf
      exact iw_sub [] rfl hjq21
set_option maxRecDepth 100000 in
set_option maxHeartbeats 4000000 in
theorem ct_X8_cell (l : Launch) (κ : ic_K) (sw : Nat) (μ : ic_M) (x1 : Int32) (x2 : Int32) {R : Int32} (hf : fX8_cell sw μ x1 x2 = some R) : ic_C l κ MX8_cell [ic_rv κ.1 1, .int x1, .int x2] 106 (ic_rs sw) μ (some (.int R)) 106 (ic_rs sw) μ := by
  refine ic_C.of (L := [(0, ic_rv κ.1 1), (1, .int x1), (2, .int x2)]) ⟨ic_cat _ _, rfl, rfl, trivial⟩ ⟨by decide +kernel, Nat.le_of_ble_eq_true rfl⟩ rfl ?_
  unfold fX8_cell at hf
  refine iw_aload_n (i := 0) (pc' := 1) 0 rfl (by decide +kernel) ?_
  refine iw_iload_n (i := 1) (pc' := 2) 1 rfl (by decide +kernel) ?_
  obtain ⟨v21, hc, hf⟩ := ic_bd hf
  refine iw_callV (pc' := 5) (S0 := []) (S1 := [.int v21]) (c1 := 0) (s1 := 0) (k := 1) (ct_X8_isCell l κ sw μ x1 hc) cO_1 ⟨rfl, rfl⟩ mv_X8_isCell lkm_X8_147 ⟨rfl, rfl⟩ (ic_sum8 trivial (Nat.le_of_ble_eq_true rfl)) (by unfold ic_rm; decide +kernel) ⟨rfl, rfl, rfl⟩ ⟨Nat.le_of_ble_eq_true rfl, Nat.le_of_ble_eq_true rfl⟩ ?_
  refine iw_if_ne (off := 6) (tg := 11) (pc' := 8) hf (by decide +kernel) (fun hf => ?_) (fun hf => ?_)
  · refine iw_iload_n (i := 2) (pc' := 12) 2 rfl (by decide +kernel) ?_
    refine iw_case hf (fun hx hf => ?_) (fun hn0 hf => ?_)
    · refine iw_tableIn (v := (0 : Int32)) (dflt := 114) (lo := 0) (hi := 5) (off := 40) (offs := #[40, 49, 62, 75, 88, 97]) (len := 40) (tg := 52) hx (by decide +kernel) ?_
      refine iw_aload_n (i := 0) (pc' := 53) 0 rfl (by decide +kernel) ?_
      refine iw_getr (pc' := 56) (q := 4) ic_fk8 cO_1 rfl lkf_X8_19 (by decide +kernel) ?_
      refine iw_iload_n (i := 1) (pc' := 57) 1 rfl (by decide +kernel) ?_
      obtain ⟨v22, hc, hf⟩ := ic_bd hf
      refine iw_callV (pc' := 60) (S0 := []) (S1 := [.int v22]) (c1 := 0) (s1 := 0) (k := 1) (ct_X1_inchesOf l κ sw μ 4 cO_4 x1 hc) cO_4 ⟨rfl, rfl⟩ mv_X1_inchesOf lkm_X8_151 ⟨rfl, rfl⟩ (ic_sum8 trivial (Nat.le_of_ble_eq_true rfl)) (by unfold ic_rm; decide +kernel) ⟨rfl, rfl, rfl⟩ ⟨Nat.le_of_ble_eq_true rfl, Nat.le_of_ble_eq_true rfl⟩ ?_
      exact iw_ireturn (Option.some.inj hf) rfl rfl (by decide +kernel)
    · refine iw_case hf (fun hx hf => ?_) (fun hn1 hf => ?_)
      · refine iw_tableIn (v := (1 : Int32)) (dflt := 114) (lo := 0) (hi := 5) (off := 49) (offs := #[40, 49, 62, 75, 88, 97]) (len := 40) (tg := 61) hx (by decide +kernel) ?_
        refine iw_aload_n (i := 0) (pc' := 62) 0 rfl (by decide +kernel) ?_
        refine iw_getr (pc' := 65) (q := 4) ic_fk8 cO_1 rfl lkf_X8_19 (by decide +kernel) ?_
        refine iw_aload_n (i := 0) (pc' := 66) 0 rfl (by decide +kernel) ?_
        refine iw_getr (pc' := 69) (q := (ic_ld sw)) ic_fk8 cO_1 rfl lkf_X8_61 (by decide +kernel) ?_
        refine iw_iload_n (i := 1) (pc' := 70) 1 rfl (by decide +kernel) ?_
        obtain ⟨v23, hc, hf⟩ := ic_bd hf
        refine iw_callV (pc' := 73) (S0 := []) (S1 := [.int v23]) (c1 := 0) (s1 := 0) (k := 2) (ct_X1_bears l κ sw μ 4 cO_4 (ic_ld sw) (ic_ldO sw) x1 hc) cO_4 ⟨rfl, rfl⟩ mv_X1_bears lkm_X8_155 ⟨rfl, rfl⟩ (ic_sum8 trivial (Nat.le_of_ble_eq_true rfl)) (by unfold ic_rm; decide +kernel) ⟨rfl, rfl, rfl⟩ ⟨Nat.le_of_ble_eq_true rfl, Nat.le_of_ble_eq_true rfl⟩ ?_
        exact iw_ireturn (Option.some.inj hf) rfl rfl (by decide +kernel)
      · refine iw_case hf (fun hx hf => ?_) (fun hn2 hf => ?_)
        · refine iw_tableIn (v := (2 : Int32)) (dflt := 114) (lo := 0) (hi := 5) (off := 62) (offs := #[40, 49, 62, 75, 88, 97]) (len := 40) (tg := 74) hx (by decide +kernel) ?_
          refine iw_aload_n (i := 0) (pc' := 75) 0 rfl (by decide +kernel) ?_
          refine iw_getr (pc' := 78) (q := 4) ic_fk8 cO_1 rfl lkf_X8_19 (by decide +kernel) ?_
          refine iw_aload_n (i := 0) (pc' := 79) 0 rfl (by decide +kernel) ?_
          refine iw_getr (pc' := 82) (q := (ic_ld sw)) ic_fk8 cO_1 rfl lkf_X8_61 (by decide +kernel) ?_
          refine iw_iload_n (i := 1) (pc' := 83) 1 rfl (by decide +kernel) ?_
          obtain ⟨v24, hc, hf⟩ := ic_bd hf
          refine iw_callV (pc' := 86) (S0 := []) (S1 := [.int v24]) (c1 := 0) (s1 := 0) (k := 2) (ct_X1_load l κ sw μ 4 cO_4 (ic_ld sw) (ic_ldO sw) x1 hc) cO_4 ⟨rfl, rfl⟩ mv_X1_load lkm_X8_159 ⟨rfl, rfl⟩ (ic_sum8 trivial (Nat.le_of_ble_eq_true rfl)) (by unfold ic_rm; decide +kernel) ⟨rfl, rfl, rfl⟩ ⟨Nat.le_of_ble_eq_true rfl, Nat.le_of_ble_eq_true rfl⟩ ?_
          exact iw_ireturn (Option.some.inj hf) rfl rfl (by decide +kernel)
        · refine iw_case hf (fun hx hf => ?_) (fun hn3 hf => ?_)
          · refine iw_tableIn (v := (3 : Int32)) (dflt := 114) (lo := 0) (hi := 5) (off := 75) (offs := #[40, 49, 62, 75, 88, 97]) (len := 40) (tg := 87) hx (by decide +kernel) ?_
            refine iw_aload_n (i := 0) (pc' := 88) 0 rfl (by decide +kernel) ?_
            refine iw_getr (pc' := 91) (q := 4) ic_fk8 cO_1 rfl lkf_X8_19 (by decide +kernel) ?_
            refine iw_aload_n (i := 0) (pc' := 92) 0 rfl (by decide +kernel) ?_
            refine iw_getr (pc' := 95) (q := (ic_ld sw)) ic_fk8 cO_1 rfl lkf_X8_61 (by decide +kernel) ?_
            refine iw_iload_n (i := 1) (pc' := 96) 1 rfl (by decide +kernel) ?_
            obtain ⟨v25, hc, hf⟩ := ic_bd hf
            refine iw_callV (pc' := 99) (S0 := []) (S1 := [.int v25]) (c1 := 0) (s1 := 0) (k := 2) (ct_X1_personsOn l κ sw μ 4 cO_4 (ic_ld sw) (ic_ldO sw) x1 hc) cO_4 ⟨rfl, rfl⟩ mv_X1_personsOn lkm_X8_162 ⟨rfl, rfl⟩ (ic_sum8 trivial (Nat.le_of_ble_eq_true rfl)) (by unfold ic_rm; decide +kernel) ⟨rfl, rfl, rfl⟩ ⟨Nat.le_of_ble_eq_true rfl, Nat.le_of_ble_eq_true rfl⟩ ?_
            exact iw_ireturn (Option.some.inj hf) rfl rfl (by decide +kernel)
          · refine iw_case hf (fun hx hf => ?_) (fun hn4 hf => ?_)
            · refine iw_tableIn (v := (4 : Int32)) (dflt := 114) (lo := 0) (hi := 5) (off := 88) (offs := #[40, 49, 62, 75, 88, 97]) (len := 40) (tg := 100) hx (by decide +kernel) ?_
              refine iw_aload_n (i := 0) (pc' := 101) 0 rfl (by decide +kernel) ?_
              refine iw_getr (pc' := 104) (q := (ic_ld sw)) ic_fk8 cO_1 rfl lkf_X8_61 (by decide +kernel) ?_
              refine iw_iload_n (i := 1) (pc' := 105) 1 rfl (by decide +kernel) ?_
              obtain ⟨v26, hc, hf⟩ := ic_bd hf
              refine iw_callV (pc' := 108) (S0 := []) (S1 := [.int v26]) (c1 := 0) (s1 := 0) (k := 1) (ct_X5_currentAt l κ sw μ (ic_ld sw) (ic_ldO sw) x1 hc) (ic_ldO sw) ⟨rfl, rfl⟩ mv_X5_currentAt lkm_X8_165 ⟨rfl, rfl⟩ (ic_sum8 trivial (Nat.le_of_ble_eq_true rfl)) (by unfold ic_rm; decide +kernel) ⟨rfl, rfl, rfl⟩ ⟨Nat.le_of_ble_eq_true rfl, Nat.le_of_ble_eq_true rfl⟩ ?_
              exact iw_ireturn (Option.some.inj hf) rfl rfl (by decide +kernel)
            · refine iw_case hf (fun hx hf => ?_) (fun hn5 hf => ?_)
              · refine iw_tableIn (v := (5 : Int32)) (dflt := 114) (lo := 0) (hi := 5) (off := 97) (offs := #[40, 49, 62, 75, 88, 97]) (len := 40) (tg := 109) hx (by decide +kernel) ?_
                refine iw_aload_n (i := 0) (pc' := 110) 0 rfl (by decide +kernel) ?_
                refine iw_getr (pc' := 113) (q := 4) ic_fk8 cO_1 rfl lkf_X8_19 (by decide +kernel) ?_
                refine iw_aload_n (i := 0) (pc' := 114) 0 rfl (by decide +kernel) ?_
                refine iw_getr (pc' := 117) (q := (ic_ld sw)) ic_fk8 cO_1 rfl lkf_X8_61 (by decide +kernel) ?_
                refine iw_iload_n (i := 1) (pc' := 118) 1 rfl (by decide +kernel) ?_
                obtain ⟨v27, hc, hf⟩ := ic_bd hf
                refine iw_callV (pc' := 121) (S0 := []) (S1 := [.int v27]) (c1 := 0) (s1 := 0) (k := 2) (ct_X1_spare l κ sw μ 4 cO_4 (ic_ld sw) (ic_ldO sw) x1 hc) cO_4 ⟨rfl, rfl⟩ mv_X1_spare lkm_X8_168 ⟨rfl, rfl⟩ (ic_sum8 trivial (Nat.le_of_ble_eq_true rfl)) (by unfold ic_rm; decide +kernel) ⟨rfl, rfl, rfl⟩ ⟨Nat.le_of_ble_eq_true rfl, Nat.le_of_ble_eq_true rfl⟩ ?_
                refine iw_sipush (i := 10000) (v := (10000 : Int32)) (pc' := 124) (by decide +kernel) ?_
                refine iw_iadd (pc' := 125) (by decide +kernel) ?_
                exact iw_ireturn (Option.some.inj hf) rfl rfl (by decide +kernel)
              · refine iw_tableOut (dflt := 114) (lo := 0) (hi := 5) (offs := #[40, 49, 62, 75, 88, 97]) (len := 40) (tg := 126) (ic_out0_5 hn0 hn1 hn2 hn3 hn4 hn5) (by decide +kernel) ?_
                refine iw_ldc (pc' := 128) lkc_X8_82 (by decide +kernel) ?_
                exact iw_ireturn (Option.some.inj hf) rfl rfl (by decide +kernel)
  · refine iw_ldc (pc' := 10) lkc_X8_150 (by decide +kernel) ?_
    exact iw_ireturn (Option.some.inj hf) rfl rfl (by decide +kernel)
set_option maxRecDepth 100000 in
set_option maxHeartbeats 4000000 in
theorem ct_X8_isPerson (l : Launch) (κ : ic_K) (sw : Nat) (μ : ic_M) (x1 : Int32) {R : Int32} (hf : fX8_isPerson sw μ x1 = some R) : ic_C l κ MX8_isPerson [ic_rv κ.1 1, .int x1] 106 (ic_rs sw) μ (some (.int R)) 106 (ic_rs sw) μ := by
  refine ic_C.of (L := [(0, ic_rv κ.1 1), (1, .int x1)]) ⟨ic_cat _ _, rfl, trivial⟩ ⟨by decide +kernel, Nat.le_of_ble_eq_true rfl⟩ rfl ?_
  unfold fX8_isPerson at hf
  refine iw_iload_n (i := 1) (pc' := 1) 1 rfl (by decide +kernel) ?_
  obtain ⟨q21, hf, hgq21⟩ := ic_bd hf
  have hjq21 : ic_W l κ MX8_isPerson ic_X0 (ic_Z κ MX8_isPerson (some (.int R)) 106 (ic_rs sw) μ) 20 [] [.int q21] 106 (ic_rs sw) μ 0 0 := by
    have hf := hgq21
    obtain ⟨hb, hf⟩ := ic_rz_of hf
    exact iw_zreturn hb (Option.some.inj hf) rfl rfl (by decide +kernel)
  refine iw_if_lt (off := 18) (tg := 19) (pc' := 4) hf (by decide +kernel) (fun hf => ?_) (fun hf => ?_)
  · refine iw_iconst (i := 0) (v := (0 : Int32)) (pc' := 20) (by decide +kernel) ?_
    obtain rfl := Option.some.inj hf
    exact iw_sub [] rfl hjq21
  · refine iw_iload_n (i := 1) (pc' := 5) 1 rfl (by decide +kernel) ?_
    refine iw_aload_n (i := 0) (pc' := 6) 0 rfl (by decide +kernel) ?_
    refine iw_getr (pc' := 9) (q := (ic_ld sw)) ic_fk8 cO_1 rfl lkf_X8_61 (by decide +kernel) ?_
    refine iw_geti (pc' := 12) ic_fk5 (ic_ldO sw) lkf_X8_119 (by decide +kernel) ?_
    refine iw_icmp_ge (off := 7) (tg := 19) (pc' := 15) hf (by decide +kernel) (fun hf => ?_) (fun hf => ?_)
    · refine iw_iconst (i := 0) (v := (0 : Int32)) (pc' := 20) (by decide +kernel) ?_
      obtain rfl := Option.some.inj hf
      exact iw_sub [] rfl hjq21
    · refine iw_iconst (i := 1) (v := (1 : Int32)) (pc' := 16) (by decide +kernel) ?_
      refine iw_goto (off := 4) (pc' := 20) (by decide +kernel) ?_
      obtain rfl := Option.some.inj hf
      exact iw_sub [] rfl hjq21
set_option maxRecDepth 100000 in
set_option maxHeartbeats 4000000 in
theorem ct_X8_person (l : Launch) (κ : ic_K) (sw : Nat) (μ : ic_M) (x1 : Int32) (x2 : Int32) {R : Int32} (hf : fX8_person sw μ x1 x2 = some R) : ic_C l κ MX8_person [ic_rv κ.1 1, .int x1, .int x2] 106 (ic_rs sw) μ (some (.int R)) 106 (ic_rs sw) μ := by
  refine ic_C.of (L := [(0, ic_rv κ.1 1), (1, .int x1), (2, .int x2)]) ⟨ic_cat _ _, rfl, rfl, trivial⟩ ⟨by decide +kernel, Nat.le_of_ble_eq_true rfl⟩ rfl ?_
  unfold fX8_person at hf
  refine iw_aload_n (i := 0) (pc' := 1) 0 rfl (by decide +kernel) ?_
  refine iw_iload_n (i := 1) (pc' := 2) 1 rfl (by decide +kernel) ?_
  obtain ⟨v21, hc, hf⟩ := ic_bd hf
  refine iw_callV (pc' := 5) (S0 := []) (S1 := [.int v21]) (c1 := 0) (s1 := 0) (k := 1) (ct_X8_isPerson l κ sw μ x1 hc) cO_1 ⟨rfl, rfl⟩ mv_X8_isPerson lkm_X8_171 ⟨rfl, rfl⟩ (ic_sum8 trivial (Nat.le_of_ble_eq_true rfl)) (by unfold ic_rm; decide +kernel) ⟨rfl, rfl, rfl⟩ ⟨Nat.le_of_ble_eq_true rfl, Nat.le_of_ble_eq_true rfl⟩ ?_
  refine iw_if_ne (off := 6) (tg := 11) (pc' := 8) hf (by decide +kernel) (fun hf => ?_) (fun hf => ?_)
  · refine iw_iload_n (i := 2) (pc' := 12) 2 rfl (by decide +kernel) ?_
    refine iw_case hf (fun hx hf => ?_) (fun hn0 hf => ?_)
    · refine iw_tableIn (v := (0 : Int32)) (dflt := 55) (lo := 0) (hi := 2) (off := 28) (offs := #[28, 37, 46]) (len := 28) (tg := 40) hx (by decide +kernel) ?_
      refine iw_aload_n (i := 0) (pc' := 41) 0 rfl (by decide +kernel) ?_
      refine iw_getr (pc' := 44) (q := (ic_ld sw)) ic_fk8 cO_1 rfl lkf_X8_61 (by decide +kernel) ?_
      refine iw_iload_n (i := 1) (pc' := 45) 1 rfl (by decide +kernel) ?_
      obtain ⟨v22, hc, hf⟩ := ic_bd hf
      refine iw_callV (pc' := 48) (S0 := []) (S1 := [.int v22]) (c1 := 0) (s1 := 0) (k := 1) (ct_X5_townOf l κ sw μ (ic_ld sw) (ic_ldO sw) x1 hc) (ic_ldO sw) ⟨rfl, rfl⟩ mv_X5_townOf lkm_X8_174 ⟨rfl, rfl⟩ (ic_sum8 trivial (Nat.le_of_ble_eq_true rfl)) (by unfold ic_rm; decide +kernel) ⟨rfl, rfl, rfl⟩ ⟨Nat.le_of_ble_eq_true rfl, Nat.le_of_ble_eq_true rfl⟩ ?_
      exact iw_ireturn (Option.some.inj hf) rfl rfl (by decide +kernel)
    · refine iw_case hf (fun hx hf => ?_) (fun hn1 hf => ?_)
      · refine iw_tableIn (v := (1 : Int32)) (dflt := 55) (lo := 0) (hi := 2) (off := 37) (offs := #[28, 37, 46]) (len := 28) (tg := 49) hx (by decide +kernel) ?_
        refine iw_aload_n (i := 0) (pc' := 50) 0 rfl (by decide +kernel) ?_
        refine iw_getr (pc' := 53) (q := (ic_ld sw)) ic_fk8 cO_1 rfl lkf_X8_61 (by decide +kernel) ?_
        refine iw_iload_n (i := 1) (pc' := 54) 1 rfl (by decide +kernel) ?_
        obtain ⟨v23, hc, hf⟩ := ic_bd hf
        refine iw_callV (pc' := 57) (S0 := []) (S1 := [.int v23]) (c1 := 0) (s1 := 0) (k := 1) (ct_X5_weightOf l κ sw μ (ic_ld sw) (ic_ldO sw) x1 hc) (ic_ldO sw) ⟨rfl, rfl⟩ mv_X5_weightOf lkm_X8_177 ⟨rfl, rfl⟩ (ic_sum8 trivial (Nat.le_of_ble_eq_true rfl)) (by unfold ic_rm; decide +kernel) ⟨rfl, rfl, rfl⟩ ⟨Nat.le_of_ble_eq_true rfl, Nat.le_of_ble_eq_true rfl⟩ ?_
        exact iw_ireturn (Option.some.inj hf) rfl rfl (by decide +kernel)
      · refine iw_case hf (fun hx hf => ?_) (fun hn2 hf => ?_)
        · refine iw_tableIn (v := (2 : Int32)) (dflt := 55) (lo := 0) (hi := 2) (off := 46) (offs := #[28, 37, 46]) (len := 28) (tg := 58) hx (by decide +kernel) ?_
          refine iw_aload_n (i := 0) (pc' := 59) 0 rfl (by decide +kernel) ?_
          refine iw_getr (pc' := 62) (q := 4) ic_fk8 cO_1 rfl lkf_X8_19 (by decide +kernel) ?_
          refine iw_iload_n (i := 1) (pc' := 63) 1 rfl (by decide +kernel) ?_
          obtain ⟨v24, hc, hf⟩ := ic_bd hf
          refine iw_callV (pc' := 66) (S0 := []) (S1 := [.int v24]) (c1 := 0) (s1 := 0) (k := 1) (ct_X1_placeOf l κ sw μ 4 cO_4 x1 hc) cO_4 ⟨rfl, rfl⟩ mv_X1_placeOf lkm_X8_180 ⟨rfl, rfl⟩ (ic_sum8 trivial (Nat.le_of_ble_eq_true rfl)) (by unfold ic_rm; decide +kernel) ⟨rfl, rfl, rfl⟩ ⟨Nat.le_of_ble_eq_true rfl, Nat.le_of_ble_eq_true rfl⟩ ?_
          exact iw_ireturn (Option.some.inj hf) rfl rfl (by decide +kernel)
        · refine iw_tableOut (dflt := 55) (lo := 0) (hi := 2) (offs := #[28, 37, 46]) (len := 28) (tg := 67) (ic_out0_2 hn0 hn1 hn2) (by decide +kernel) ?_
          refine iw_ldc (pc' := 69) lkc_X8_82 (by decide +kernel) ?_
          exact iw_ireturn (Option.some.inj hf) rfl rfl (by decide +kernel)
  · refine iw_ldc (pc' := 10) lkc_X8_150 (by decide +kernel) ?_
    exact iw_ireturn (Option.some.inj hf) rfl rfl (by decide +kernel)
set_option maxRecDepth 100000 in
set_option maxHeartbeats 4000000 in
theorem ct_X8_isNoRiver (l : Launch) (κ : ic_K) (sw : Nat) (μ : ic_M) {R : Int32} (hf : fX8_isNoRiver sw μ = some R) : ic_C l κ MX8_isNoRiver [ic_rv κ.1 1] 106 (ic_rs sw) μ (some (.int R)) 106 (ic_rs sw) μ := by
  refine ic_C.of (L := [(0, ic_rv κ.1 1)]) ⟨ic_cat _ _, trivial⟩ ⟨by decide +kernel, Nat.le_of_ble_eq_true rfl⟩ rfl ?_
  unfold fX8_isNoRiver at hf
  refine iw_aload_n (i := 0) (pc' := 1) 0 rfl (by decide +kernel) ?_
  refine iw_getr (pc' := 4) (q := (ic_ld sw)) ic_fk8 cO_1 rfl lkf_X8_61 (by decide +kernel) ?_
  refine iw_geti (pc' := 7) ic_fk5 (ic_ldO sw) lkf_X8_107 (by decide +kernel) ?_
  obtain ⟨q21, hf, hgq21⟩ := ic_bd hf
  have hjq21 : ic_W l κ MX8_isNoRiver ic_X0 (ic_Z κ MX8_isNoRiver (some (.int R)) 106 (ic_rs sw) μ) 15 [] [.int q21] 106 (ic_rs sw) μ 0 0 := by
    have hf := hgq21
    obtain ⟨hb, hf⟩ := ic_rz_of hf
    exact iw_zreturn hb (Option.some.inj hf) rfl rfl (by decide +kernel)
  refine iw_if_ne (off := 7) (tg := 14) (pc' := 10) hf (by decide +kernel) (fun hf => ?_) (fun hf => ?_)
  · refine iw_iconst (i := 0) (v := (0 : Int32)) (pc' := 15) (by decide +kernel) ?_
    obtain rfl := Option.some.inj hf
    exact iw_sub [] rfl hjq21
  · refine iw_iconst (i := 1) (v := (1 : Int32)) (pc' := 11) (by decide +kernel) ?_
    refine iw_goto (off := 4) (pc' := 15) (by decide +kernel) ?_
    obtain rfl := Option.some.inj hf
    exact iw_sub [] rfl hjq21
set_option maxRecDepth 100000 in
set_option maxHeartbeats 4000000 in
theorem ct_X8_cold (l : Launch) (κ : ic_K) (sw : Nat) (μ : ic_M) (x1 : Int32) {R : Int32} (hf : fX8_cold sw μ x1 = some R) : ic_C l κ MX8_cold [ic_rv κ.1 1, .int x1] 106 (ic_rs sw) μ (some (.int R)) 106 (ic_rs sw) μ := by
  refine ic_C.of (L := [(0, ic_rv κ.1 1), (1, .int x1)]) ⟨ic_cat _ _, rfl, trivial⟩ ⟨by decide +kernel, Nat.le_of_ble_eq_true rfl⟩ rfl ?_
  unfold fX8_cold at hf
  refine iw_iload_n (i := 1) (pc' := 1) 1 rfl (by decide +kernel) ?_
  refine iw_iconst (i := 0) (v := (0 : Int32)) (pc' := 2) (by decide +kernel) ?_
  refine iw_sipush (i := 9999) (v := (9999 : Int32)) (pc' := 5) (by decide +kernel) ?_
  obtain ⟨v21, hc, hf⟩ := ic_bd hf
  refine iw_callS (pc' := 8) (S0 := []) (S1 := [.int v21]) (c1 := 0) (s1 := 0) (k := 3) (ct_X8_isWithin l κ sw μ x1 (0 : Int32) (9999 : Int32) hc) ms_X8_isWithin lkm_X8_78 ⟨rfl, rfl⟩ (ic_sum8 trivial (Nat.le_of_ble_eq_true rfl)) (by unfold ic_rm; decide +kernel) ⟨rfl, rfl, rfl⟩ ⟨Nat.le_of_ble_eq_true rfl, Nat.le_of_ble_eq_true rfl⟩ ?_
  refine iw_if_ne (off := 6) (tg := 14) (pc' := 11) hf (by decide +kernel) (fun hf => ?_) (fun hf => ?_)
  · refine iw_aload_n (i := 0) (pc' := 15) 0 rfl (by decide +kernel) ?_
    obtain ⟨v22, hc, hf⟩ := ic_bd hf
    refine iw_callV (pc' := 18) (S0 := []) (S1 := [.int v22]) (c1 := 0) (s1 := 0) (k := 0) (ct_X8_isNoRiver l κ sw μ hc) cO_1 ⟨rfl, rfl⟩ mv_X8_isNoRiver lkm_X8_183 ⟨rfl, rfl⟩ (ic_sum8 trivial (Nat.le_of_ble_eq_true rfl)) (by unfold ic_rm; decide +kernel) ⟨rfl, rfl, rfl⟩ ⟨Nat.le_of_ble_eq_true rfl, Nat.le_of_ble_eq_true rfl⟩ ?_
    obtain ⟨q23, hf, hgq23⟩ := ic_bd hf
    have hjq23 : ic_W l κ MX8_cold ic_X0 (ic_Z κ MX8_cold (some (.int R)) 106 (ic_rs sw) μ) 37 [] [.int q23] 106 (ic_rs sw) μ 0 0 := by
      have hf := hgq23
      exact iw_ireturn (Option.some.inj hf) rfl rfl (by decide +kernel)
    refine iw_if_eq (off := 8) (tg := 26) (pc' := 21) hf (by decide +kernel) (fun hf => ?_) (fun hf => ?_)
    · refine iw_aload_n (i := 0) (pc' := 27) 0 rfl (by decide +kernel) ?_
      refine iw_getr (pc' := 30) (q := (ic_ld sw)) ic_fk8 cO_1 rfl lkf_X8_61 (by decide +kernel) ?_
      refine iw_iload_n (i := 1) (pc' := 31) 1 rfl (by decide +kernel) ?_
      obtain ⟨v24, hc, hf⟩ := ic_bd hf
      refine iw_callV (pc' := 34) (S0 := []) (S1 := [.int v24]) (c1 := 0) (s1 := 0) (k := 1) (ct_X5_coldOf l κ sw μ (ic_ld sw) (ic_ldO sw) x1 hc) (ic_ldO sw) ⟨rfl, rfl⟩ mv_X5_coldOf lkm_X8_188 ⟨rfl, rfl⟩ (ic_sum8 trivial (Nat.le_of_ble_eq_true rfl)) (by unfold ic_rm; decide +kernel) ⟨rfl, rfl, rfl⟩ ⟨Nat.le_of_ble_eq_true rfl, Nat.le_of_ble_eq_true rfl⟩ ?_
      refine iw_bipush (i := 10) (v := (10 : Int32)) (pc' := 36) (by decide +kernel) ?_
      refine iw_iadd (pc' := 37) (by decide +kernel) ?_
      obtain rfl := Option.some.inj hf
      exact iw_sub [] rfl hjq23
    · refine iw_ldc (pc' := 23) lkc_X8_187 (by decide +kernel) ?_
      refine iw_goto (off := 14) (pc' := 37) (by decide +kernel) ?_
      obtain rfl := Option.some.inj hf
      exact iw_sub [] rfl hjq23
  · refine iw_ldc (pc' := 13) lkc_X8_82 (by decide +kernel) ?_
    exact iw_ireturn (Option.some.inj hf) rfl rfl (by decide +kernel)
set_option maxRecDepth 100000 in
set_option maxHeartbeats 4000000 in
theorem ct_X8_refusalOfNights (l : Launch) (κ : ic_K) (sw : Nat) (μ : ic_M) (x1 : Int32) {R : Int32} (hf : fX8_refusalOfNights sw μ x1 = some R) : ic_C l κ MX8_refusalOfNights [ic_rv κ.1 1, .int x1] 106 (ic_rs sw) μ (some (.int R)) 106 (ic_rs sw) μ := by
  refine ic_C.of (L := [(0, ic_rv κ.1 1), (1, .int x1)]) ⟨ic_cat _ _, rfl, trivial⟩ ⟨by decide +kernel, Nat.le_of_ble_eq_true rfl⟩ rfl ?_
  unfold fX8_refusalOfNights at hf
  refine iw_iload_n (i := 1) (pc' := 1) 1 rfl (by decide +kernel) ?_
  refine iw_iconst (i := 1) (v := (1 : Int32)) (pc' := 2) (by decide +kernel) ?_
  refine iw_bipush (i := 60) (v := (60 : Int32)) (pc' := 4) (by decide +kernel) ?_
  obtain ⟨v21, hc, hf⟩ := ic_bd hf
  refine iw_callS (pc' := 7) (S0 := []) (S1 := [.int v21]) (c1 := 0) (s1 := 0) (k := 3) (ct_X8_isWithin l κ sw μ x1 (1 : Int32) (60 : Int32) hc) ms_X8_isWithin lkm_X8_78 ⟨rfl, rfl⟩ (ic_sum8 trivial (Nat.le_of_ble_eq_true rfl)) (by unfold ic_rm; decide +kernel) ⟨rfl, rfl, rfl⟩ ⟨Nat.le_of_ble_eq_true rfl, Nat.le_of_ble_eq_true rfl⟩ ?_
  refine iw_if_ne (off := 6) (tg := 13) (pc' := 10) hf (by decide +kernel) (fun hf => ?_) (fun hf => ?_)
  · refine iw_aload_n (i := 0) (pc' := 14) 0 rfl (by decide +kernel) ?_
    obtain ⟨v22, hc, hf⟩ := ic_bd hf
    refine iw_callV (pc' := 17) (S0 := []) (S1 := [.int v22]) (c1 := 0) (s1 := 0) (k := 0) (ct_X8_isNoRiver l κ sw μ hc) cO_1 ⟨rfl, rfl⟩ mv_X8_isNoRiver lkm_X8_183 ⟨rfl, rfl⟩ (ic_sum8 trivial (Nat.le_of_ble_eq_true rfl)) (by unfold ic_rm; decide +kernel) ⟨rfl, rfl, rfl⟩ ⟨Nat.le_of_ble_eq_true rfl, Nat.le_of_ble_eq_true rfl⟩ ?_
    refine iw_if_eq (off := 6) (tg := 23) (pc' := 20) hf (by decide +kernel) (fun hf => ?_) (fun hf => ?_)
    · refine iw_aload_n (i := 0) (pc' := 24) 0 rfl (by decide +kernel) ?_
      refine iw_getr (pc' := 27) (q := 4) ic_fk8 cO_1 rfl lkf_X8_19 (by decide +kernel) ?_
      refine iw_geti (pc' := 30) ic_fk1 cO_4 lkf_X8_122 (by decide +kernel) ?_
      refine iw_sipush (i := 9000) (v := (9000 : Int32)) (pc' := 33) (by decide +kernel) ?_
      obtain ⟨q23, hf, hgq23⟩ := ic_bd hf
      have hjq23 : ic_W l κ MX8_refusalOfNights ic_X0 (ic_Z κ MX8_refusalOfNights (some (.int R)) 106 (ic_rs sw) μ) 42 [] [.int q23] 106 (ic_rs sw) μ 0 0 := by
        have hf := hgq23
        exact iw_ireturn (Option.some.inj hf) rfl rfl (by decide +kernel)
      refine iw_icmp_le (off := 8) (tg := 41) (pc' := 36) hf (by decide +kernel) (fun hf => ?_) (fun hf => ?_)
      · refine iw_iconst (i := 0) (v := (0 : Int32)) (pc' := 42) (by decide +kernel) ?_
        obtain rfl := Option.some.inj hf
        exact iw_sub [] rfl hjq23
      · refine iw_ldc (pc' := 38) lkc_X8_90 (by decide +kernel) ?_
        refine iw_goto (off := 4) (pc' := 42) (by decide +kernel) ?_
        obtain rfl := Option.some.inj hf
        exact iw_sub [] rfl hjq23
    · refine iw_ldc (pc' := 22) lkc_X8_187 (by decide +kernel) ?_
      exact iw_ireturn (Option.some.inj hf) rfl rfl (by decide +kernel)
  · refine iw_ldc (pc' := 12) lkc_X8_82 (by decide +kernel) ?_
    exact iw_ireturn (Option.some.inj hf) rfl rfl (by decide +kernel)
set_option maxRecDepth 100000 in
set_option maxHeartbeats 4000000 in
theorem lpX8_night_25_ok (l : Launch) (κ : ic_K) (sw : Nat) (x1_ : Int32) {Z : State → List Frame → Array Value → State → Prop} {R : ic_M} (hk : ic_W l κ MX8_night ic_X0 Z 47 [(0, ic_rv κ.1 1)] [] 106 (ic_rs sw) R 0 0) : ∀ (fu : Nat) (y3_ : Int32) (μ : ic_M), lpX8_night_25 sw x1_ fu y3_ μ = some R → ic_W l κ MX8_night ic_X0 Z 25 [(0, ic_rv κ.1 1), (1, .int x1_), (3, .int y3_)] [] 106 (ic_rs sw) μ 0 0 := by
  intro fu
  induction fu with
  | zero =>
    intro y3_ μ hf
    exact absurd hf (by simp [lpX8_night_25])
  | succ fu ih =>
    intro y3_ μ hf
    rw [lpX8_night_25] at hf
    refine iw_iload_n (i := 3) (pc' := 26) 2 rfl (by decide +kernel) ?_
    refine iw_iload_n (i := 1) (pc' := 27) 1 rfl (by decide +kernel) ?_
    refine iw_icmp_ge (off := 20) (tg := 47) (pc' := 30) hf (by decide +kernel) (fun hf => ?_) (fun hf => ?_)
    · obtain rfl := Option.some.inj hf
      exact iw_sub [0] rfl hk
    · refine iw_aload_n (i := 0) (pc' := 31) 0 rfl (by decide +kernel) ?_
      refine iw_getr (pc' := 34) (q := 4) ic_fk8 cO_1 rfl lkf_X8_19 (by decide +kernel) ?_
      refine iw_aload_n (i := 0) (pc' := 35) 0 rfl (by decide +kernel) ?_
      refine iw_getr (pc' := 38) (q := (ic_ld sw)) ic_fk8 cO_1 rfl lkf_X8_61 (by decide +kernel) ?_
      obtain ⟨m23, hc, hf⟩ := ic_bd hf
      refine iw_callV (pc' := 41) (S0 := []) (S1 := []) (c1 := 0) (s1 := 0) (k := 1) (ct_X1_passNight l κ sw μ 4 cO_4 (ic_ld sw) (ic_ldO sw) hc) cO_4 ⟨rfl, rfl⟩ mv_X1_passNight lkm_X8_198 ⟨rfl, rfl⟩ (ic_sum8 trivial (Nat.le_of_ble_eq_true rfl)) (by unfold ic_rm; decide +kernel) ⟨rfl, rfl, rfl⟩ ⟨Nat.le_of_ble_eq_true rfl, Nat.le_of_ble_eq_true rfl⟩ ?_
      refine iw_iinc (i := 3) (d := 1) (pc' := 44) (v := (1 : Int32)) (L1 := fun x24 => [(0, ic_rv κ.1 1), (1, .int x1_), (3, .int x24)]) hf 2 rfl (fun _ => rfl) (by decide +kernel) (fun x24 hf => ?_)
      refine iw_goto (off := (-19)) (pc' := 25) (by decide +kernel) ?_
      exact iw_sub [0, 1, 2] rfl (ih _ _ hf)
set_option maxRecDepth 100000 in
set_option maxHeartbeats 4000000 in
theorem ct_X8_night (l : Launch) (κ : ic_K) (sw : Nat) (μ : ic_M) (x1 : Int32) {R : Int32 × ic_M} (hf : fX8_night sw μ x1 = some R) : ic_C l κ MX8_night [ic_rv κ.1 1, .int x1] 106 (ic_rs sw) μ (some (.int R.1)) 106 (ic_rs sw) R.2 := by
  refine ic_C.of (L := [(0, ic_rv κ.1 1), (1, .int x1)]) ⟨ic_cat _ _, rfl, trivial⟩ ⟨by decide +kernel, Nat.le_of_ble_eq_true rfl⟩ rfl ?_
  unfold fX8_night at hf
  refine iw_aload_n (i := 0) (pc' := 1) 0 rfl (by decide +kernel) ?_
  refine iw_iload_n (i := 1) (pc' := 2) 1 rfl (by decide +kernel) ?_
  obtain ⟨v21, hc, hf⟩ := ic_bd hf
  refine iw_callV (pc' := 5) (S0 := []) (S1 := [.int v21]) (c1 := 0) (s1 := 0) (k := 1) (ct_X8_refusalOfNights l κ sw μ x1 hc) cO_1 ⟨rfl, rfl⟩ mv_X8_refusalOfNights lkm_X8_191 ⟨rfl, rfl⟩ (ic_sum8 trivial (Nat.le_of_ble_eq_true rfl)) (by unfold ic_rm; decide +kernel) ⟨rfl, rfl, rfl⟩ ⟨Nat.le_of_ble_eq_true rfl, Nat.le_of_ble_eq_true rfl⟩ ?_
  refine iw_istore_n0 (i := 2) (pc' := 6) (L' := [(0, ic_rv κ.1 1), (1, .int x1), (2, .int v21)]) rfl (by decide +kernel) ?_
  refine iw_iload_n (i := 2) (pc' := 7) 2 rfl (by decide +kernel) ?_
  refine iw_if_eq (off := 5) (tg := 12) (pc' := 10) hf (by decide +kernel) (fun hf => ?_) (fun hf => ?_)
  · refine iw_aload_n (i := 0) (pc' := 13) 0 rfl (by decide +kernel) ?_
    refine iw_getr (pc' := 16) (q := 7) ic_fk8 cO_1 rfl lkf_X8_26 (by decide +kernel) ?_
    refine iw_aload_n (i := 0) (pc' := 17) 0 rfl (by decide +kernel) ?_
    refine iw_getr (pc' := 20) (q := 4) ic_fk8 cO_1 rfl lkf_X8_19 (by decide +kernel) ?_
    obtain ⟨m22, hc, hf⟩ := ic_bd hf
    refine iw_callV (pc' := 23) (S0 := []) (S1 := []) (c1 := 0) (s1 := 0) (k := 1) (ct_X3_remember l κ sw μ 4 cO_4 hc) cO_7 ⟨rfl, rfl⟩ mv_X3_remember lkm_X8_194 ⟨rfl, rfl⟩ (ic_sum8 trivial (Nat.le_of_ble_eq_true rfl)) (by unfold ic_rm; decide +kernel) ⟨rfl, rfl, rfl⟩ ⟨Nat.le_of_ble_eq_true rfl, Nat.le_of_ble_eq_true rfl⟩ ?_
    refine iw_iconst (i := 0) (v := (0 : Int32)) (pc' := 24) (by decide +kernel) ?_
    refine iw_istore_n0 (i := 3) (pc' := 25) (L' := [(0, ic_rv κ.1 1), (1, .int x1), (2, .int v21), (3, .int (0 : Int32))]) rfl (by decide +kernel) ?_
    obtain ⟨q25, hf, hgq25⟩ := ic_bd hf
    have hjq25 : ic_W l κ MX8_night ic_X0 (ic_Z κ MX8_night (some (.int R.1)) 106 (ic_rs sw) R.2) 47 [(0, ic_rv κ.1 1)] [] 106 (ic_rs sw) q25 0 0 := by
      have hf := hgq25
      refine iw_aload_n (i := 0) (pc' := 48) 0 rfl (by decide +kernel) ?_
      refine iw_getr (pc' := 51) (q := 4) ic_fk8 cO_1 rfl lkf_X8_19 (by decide +kernel) ?_
      refine iw_geti (pc' := 54) ic_fk1 cO_4 lkf_X8_122 (by decide +kernel) ?_
      exact iw_ireturn (ic_q1 (Option.some.inj hf)) rfl (ic_q2 (Option.some.inj hf)) (by decide +kernel)
    exact iw_sub [0, 1, 3] rfl (lpX8_night_25_ok l κ sw x1 hjq25 1000 (0 : Int32) m22 hf)
  · refine iw_iload_n (i := 2) (pc' := 11) 2 rfl (by decide +kernel) ?_
    exact iw_ireturn (ic_q1 (Option.some.inj hf)) rfl (ic_q2 (Option.some.inj hf)) (by decide +kernel)
set_option maxRecDepth 100000 in
set_option maxHeartbeats 4000000 in
theorem ct_X8_step (l : Launch) (κ : ic_K) (sw : Nat) (μ : ic_M) (x1 : Int32) (x2 : Int32) {R : Int32 × ic_M} (hf : fX8_step sw μ x1 x2 = some R) : ic_C l κ MX8_step [ic_rv κ.1 1, .int x1, .int x2] 106 (ic_rs sw) μ (some (.int R.1)) 106 (ic_rs sw) R.2 := by
  refine ic_C.of (L := [(0, ic_rv κ.1 1), (1, .int x1), (2, .int x2)]) ⟨ic_cat _ _, rfl, rfl, trivial⟩ ⟨by decide +kernel, Nat.le_of_ble_eq_true rfl⟩ rfl ?_
  unfold fX8_step at hf
  refine iw_aload_n (i := 0) (pc' := 1) 0 rfl (by decide +kernel) ?_
  refine iw_iload_n (i := 1) (pc' := 2) 1 rfl (by decide +kernel) ?_
  obtain ⟨v21, hc, hf⟩ := ic_bd hf
  refine iw_callV (pc' := 5) (S0 := []) (S1 := [.int v21]) (c1 := 0) (s1 := 0) (k := 1) (ct_X8_isPerson l κ sw μ x1 hc) cO_1 ⟨rfl, rfl⟩ mv_X8_isPerson lkm_X8_171 ⟨rfl, rfl⟩ (ic_sum8 trivial (Nat.le_of_ble_eq_true rfl)) (by unfold ic_rm; decide +kernel) ⟨rfl, rfl, rfl⟩ ⟨Nat.le_of_ble_eq_true rfl, Nat.le_of_ble_eq_true rfl⟩ ?_
  refine iw_if_eq (off := 16) (tg := 21) (pc' := 8) hf (by decide +kernel) (fun hf => ?_) (fun hf => ?_)
  · refine iw_ldc (pc' := 23) lkc_X8_150 (by decide +kernel) ?_
    exact iw_ireturn (ic_q1 (Option.some.inj hf)) rfl (ic_q2 (Option.some.inj hf)) (by decide +kernel)
  · refine iw_iload_n (i := 2) (pc' := 9) 2 rfl (by decide +kernel) ?_
    refine iw_iconst (i := (-1)) (v := (-1 : Int32)) (pc' := 10) (by decide +kernel) ?_
    refine iw_icmp_eq (off := 14) (tg := 24) (pc' := 13) hf (by decide +kernel) (fun hf => ?_) (fun hf => ?_)
    · refine iw_aload_n (i := 0) (pc' := 25) 0 rfl (by decide +kernel) ?_
      refine iw_getr (pc' := 28) (q := 4) ic_fk8 cO_1 rfl lkf_X8_19 (by decide +kernel) ?_
      refine iw_aload_n (i := 0) (pc' := 29) 0 rfl (by decide +kernel) ?_
      refine iw_getr (pc' := 32) (q := (ic_ld sw)) ic_fk8 cO_1 rfl lkf_X8_61 (by decide +kernel) ?_
      refine iw_iload_n (i := 1) (pc' := 33) 1 rfl (by decide +kernel) ?_
      refine iw_iload_n (i := 2) (pc' := 34) 2 rfl (by decide +kernel) ?_
      obtain ⟨v22, hc, hf⟩ := ic_bd hf
      refine iw_callV (pc' := 37) (S0 := []) (S1 := [.int v22]) (c1 := 0) (s1 := 0) (k := 3) (ct_X1_canGo l κ sw μ 4 cO_4 (ic_ld sw) (ic_ldO sw) x1 x2 hc) cO_4 ⟨rfl, rfl⟩ mv_X1_canGo lkm_X8_201 ⟨rfl, rfl⟩ (ic_sum8 trivial (Nat.le_of_ble_eq_true rfl)) (by unfold ic_rm; decide +kernel) ⟨rfl, rfl, rfl⟩ ⟨Nat.le_of_ble_eq_true rfl, Nat.le_of_ble_eq_true rfl⟩ ?_
      refine iw_if_ne (off := 6) (tg := 43) (pc' := 40) hf (by decide +kernel) (fun hf => ?_) (fun hf => ?_)
      · refine iw_aload_n (i := 0) (pc' := 44) 0 rfl (by decide +kernel) ?_
        refine iw_getr (pc' := 47) (q := 7) ic_fk8 cO_1 rfl lkf_X8_26 (by decide +kernel) ?_
        refine iw_aload_n (i := 0) (pc' := 48) 0 rfl (by decide +kernel) ?_
        refine iw_getr (pc' := 51) (q := 4) ic_fk8 cO_1 rfl lkf_X8_19 (by decide +kernel) ?_
        obtain ⟨m23, hc, hf⟩ := ic_bd hf
        refine iw_callV (pc' := 54) (S0 := []) (S1 := []) (c1 := 0) (s1 := 0) (k := 1) (ct_X3_remember l κ sw μ 4 cO_4 hc) cO_7 ⟨rfl, rfl⟩ mv_X3_remember lkm_X8_194 ⟨rfl, rfl⟩ (ic_sum8 trivial (Nat.le_of_ble_eq_true rfl)) (by unfold ic_rm; decide +kernel) ⟨rfl, rfl, rfl⟩ ⟨Nat.le_of_ble_eq_true rfl, Nat.le_of_ble_eq_true rfl⟩ ?_
        refine iw_aload_n (i := 0) (pc' := 55) 0 rfl (by decide +kernel) ?_
        refine iw_getr (pc' := 58) (q := 4) ic_fk8 cO_1 rfl lkf_X8_19 (by decide +kernel) ?_
        refine iw_aload_n (i := 0) (pc' := 59) 0 rfl (by decide +kernel) ?_
        refine iw_getr (pc' := 62) (q := (ic_ld sw)) ic_fk8 cO_1 rfl lkf_X8_61 (by decide +kernel) ?_
        refine iw_iload_n (i := 1) (pc' := 63) 1 rfl (by decide +kernel) ?_
        refine iw_iload_n (i := 2) (pc' := 64) 2 rfl (by decide +kernel) ?_
        obtain ⟨q24, hc, hf⟩ := ic_bd hf
        refine iw_callV (pc' := 67) (S0 := []) (S1 := [.int q24.1]) (c1 := 0) (s1 := 0) (k := 3) (ct_X1_go l κ sw m23 4 cO_4 (ic_ld sw) (ic_ldO sw) x1 x2 hc) cO_4 ⟨rfl, rfl⟩ mv_X1_go lkm_X8_205 ⟨rfl, rfl⟩ (ic_sum8 trivial (Nat.le_of_ble_eq_true rfl)) (by unfold ic_rm; decide +kernel) ⟨rfl, rfl, rfl⟩ ⟨Nat.le_of_ble_eq_true rfl, Nat.le_of_ble_eq_true rfl⟩ ?_
        exact iw_ireturn (ic_q1 (Option.some.inj hf)) rfl (ic_q2 (Option.some.inj hf)) (by decide +kernel)
      · refine iw_ldc (pc' := 42) lkc_X8_187 (by decide +kernel) ?_
        exact iw_ireturn (ic_q1 (Option.some.inj hf)) rfl (ic_q2 (Option.some.inj hf)) (by decide +kernel)
    · refine iw_aload_n (i := 0) (pc' := 14) 0 rfl (by decide +kernel) ?_
      refine iw_iload_n (i := 2) (pc' := 15) 2 rfl (by decide +kernel) ?_
      obtain ⟨v25, hc, hf⟩ := ic_bd hf
      refine iw_callV (pc' := 18) (S0 := []) (S1 := [.int v25]) (c1 := 0) (s1 := 0) (k := 1) (ct_X8_isCell l κ sw μ x2 hc) cO_1 ⟨rfl, rfl⟩ mv_X8_isCell lkm_X8_147 ⟨rfl, rfl⟩ (ic_sum8 trivial (Nat.le_of_ble_eq_true rfl)) (by unfold ic_rm; decide +kernel) ⟨rfl, rfl, rfl⟩ ⟨Nat.le_of_ble_eq_true rfl, Nat.le_of_ble_eq_true rfl⟩ ?_
      refine iw_if_ne (off := 6) (tg := 24) (pc' := 21) hf (by decide +kernel) (fun hf => ?_) (fun hf => ?_)
      · refine iw_aload_n (i := 0) (pc' := 25) 0 rfl (by decide +kernel) ?_
        refine iw_getr (pc' := 28) (q := 4) ic_fk8 cO_1 rfl lkf_X8_19 (by decide +kernel) ?_
        refine iw_aload_n (i := 0) (pc' := 29) 0 rfl (by decide +kernel) ?_
        refine iw_getr (pc' := 32) (q := (ic_ld sw)) ic_fk8 cO_1 rfl lkf_X8_61 (by decide +kernel) ?_
        refine iw_iload_n (i := 1) (pc' := 33) 1 rfl (by decide +kernel) ?_
        refine iw_iload_n (i := 2) (pc' := 34) 2 rfl (by decide +kernel) ?_
        obtain ⟨v26, hc, hf⟩ := ic_bd hf
        refine iw_callV (pc' := 37) (S0 := []) (S1 := [.int v26]) (c1 := 0) (s1 := 0) (k := 3) (ct_X1_canGo l κ sw μ 4 cO_4 (ic_ld sw) (ic_ldO sw) x1 x2 hc) cO_4 ⟨rfl, rfl⟩ mv_X1_canGo lkm_X8_201 ⟨rfl, rfl⟩ (ic_sum8 trivial (Nat.le_of_ble_eq_true rfl)) (by unfold ic_rm; decide +kernel) ⟨rfl, rfl, rfl⟩ ⟨Nat.le_of_ble_eq_true rfl, Nat.le_of_ble_eq_true rfl⟩ ?_
        refine iw_if_ne (off := 6) (tg := 43) (pc' := 40) hf (by decide +kernel) (fun hf => ?_) (fun hf => ?_)
        · refine iw_aload_n (i := 0) (pc' := 44) 0 rfl (by decide +kernel) ?_
          refine iw_getr (pc' := 47) (q := 7) ic_fk8 cO_1 rfl lkf_X8_26 (by decide +kernel) ?_
          refine iw_aload_n (i := 0) (pc' := 48) 0 rfl (by decide +kernel) ?_
          refine iw_getr (pc' := 51) (q := 4) ic_fk8 cO_1 rfl lkf_X8_19 (by decide +kernel) ?_
          obtain ⟨m27, hc, hf⟩ := ic_bd hf
          refine iw_callV (pc' := 54) (S0 := []) (S1 := []) (c1 := 0) (s1 := 0) (k := 1) (ct_X3_remember l κ sw μ 4 cO_4 hc) cO_7 ⟨rfl, rfl⟩ mv_X3_remember lkm_X8_194 ⟨rfl, rfl⟩ (ic_sum8 trivial (Nat.le_of_ble_eq_true rfl)) (by unfold ic_rm; decide +kernel) ⟨rfl, rfl, rfl⟩ ⟨Nat.le_of_ble_eq_true rfl, Nat.le_of_ble_eq_true rfl⟩ ?_
          refine iw_aload_n (i := 0) (pc' := 55) 0 rfl (by decide +kernel) ?_
          refine iw_getr (pc' := 58) (q := 4) ic_fk8 cO_1 rfl lkf_X8_19 (by decide +kernel) ?_
          refine iw_aload_n (i := 0) (pc' := 59) 0 rfl (by decide +kernel) ?_
          refine iw_getr (pc' := 62) (q := (ic_ld sw)) ic_fk8 cO_1 rfl lkf_X8_61 (by decide +kernel) ?_
          refine iw_iload_n (i := 1) (pc' := 63) 1 rfl (by decide +kernel) ?_
          refine iw_iload_n (i := 2) (pc' := 64) 2 rfl (by decide +kernel) ?_
          obtain ⟨q28, hc, hf⟩ := ic_bd hf
          refine iw_callV (pc' := 67) (S0 := []) (S1 := [.int q28.1]) (c1 := 0) (s1 := 0) (k := 3) (ct_X1_go l κ sw m27 4 cO_4 (ic_ld sw) (ic_ldO sw) x1 x2 hc) cO_4 ⟨rfl, rfl⟩ mv_X1_go lkm_X8_205 ⟨rfl, rfl⟩ (ic_sum8 trivial (Nat.le_of_ble_eq_true rfl)) (by unfold ic_rm; decide +kernel) ⟨rfl, rfl, rfl⟩ ⟨Nat.le_of_ble_eq_true rfl, Nat.le_of_ble_eq_true rfl⟩ ?_
          exact iw_ireturn (ic_q1 (Option.some.inj hf)) rfl (ic_q2 (Option.some.inj hf)) (by decide +kernel)
        · refine iw_ldc (pc' := 42) lkc_X8_187 (by decide +kernel) ?_
          exact iw_ireturn (ic_q1 (Option.some.inj hf)) rfl (ic_q2 (Option.some.inj hf)) (by decide +kernel)
      · refine iw_ldc (pc' := 23) lkc_X8_150 (by decide +kernel) ?_
        exact iw_ireturn (ic_q1 (Option.some.inj hf)) rfl (ic_q2 (Option.some.inj hf)) (by decide +kernel)
