def MX8_salt : ic_Md := (yX8_salt, cX8_salt, 4, (some .int), { frames := 5, cells := 0, slots := 0, locals := 121 })
theorem mv_X8_salt : ic_MV MX8_salt := ⟨ic_in 631 (by decide +kernel), ic_in 632 (by decide +kernel), ic_in 70 (by decide +kernel), ic_in 633 (by decide +kernel), by decide +kernel, by decide +kernel⟩
def MX8_snow : ic_Md := (yX8_snow, cX8_snow, 4, (some .int), { frames := 3, cells := 0, slots := 0, locals := 65 })
theorem mv_X8_snow : ic_MV MX8_snow := ⟨ic_in 641 (by decide +kernel), ic_in 642 (by decide +kernel), ic_in 70 (by decide +kernel), ic_in 643 (by decide +kernel), by decide +kernel, by decide +kernel⟩
def MX8_spring : ic_Md := (yX8_spring, cX8_spring, 2, (some .int), { frames := 3, cells := 0, slots := 0, locals := 65 })
theorem mv_X8_spring : ic_MV MX8_spring := ⟨ic_in 650 (by decide +kernel), ic_in 651 (by decide +kernel), ic_in 70 (by decide +kernel), ic_in 652 (by decide +kernel), by decide +kernel, by decide +kernel⟩
def MX8_draw : ic_Md := (yX8_draw, cX8_draw, 2, (some .int), { frames := 0, cells := 0, slots := 0, locals := 0 })
theorem mv_X8_draw : ic_MV MX8_draw := ⟨ic_in 667 (by decide +kernel), ic_in 19 (by decide +kernel), ic_in 70 (by decide +kernel), ic_in 668 (by decide +kernel), by decide +kernel, by decide +kernel⟩
def MX8_wander : ic_Md := (yX8_wander, cX8_wander, 3, none, { frames := 5, cells := 0, slots := 0, locals := 120 })
theorem mv_X8_wander : ic_MV MX8_wander := ⟨ic_in 663 (by decide +kernel), ic_in 18 (by decide +kernel), ic_in 70 (by decide +kernel), ic_in 664 (by decide +kernel), by decide +kernel, by decide +kernel⟩
def MX8_drift : ic_Md := (yX8_drift, cX8_drift, 4, (some .int), { frames := 6, cells := 0, slots := 0, locals := 142 })
theorem mv_X8_drift : ic_MV MX8_drift := ⟨ic_in 658 (by decide +kernel), ic_in 659 (by decide +kernel), ic_in 70 (by decide +kernel), ic_in 660 (by decide +kernel), by decide +kernel, by decide +kernel⟩
def MX8_undo : ic_Md := (yX8_undo, cX8_undo, 1, (some .int), { frames := 3, cells := 0, slots := 0, locals := 66 })
theorem mv_X8_undo : ic_MV MX8_undo := ⟨ic_in 674 (by decide +kernel), ic_in 675 (by decide +kernel), ic_in 70 (by decide +kernel), ic_in 676 (by decide +kernel), by decide +kernel, by decide +kernel⟩
def MX8_then : ic_Md := (yX8_then, cX8_then, 3, (some .int), { frames := 4, cells := 0, slots := 0, locals := 97 })
theorem mv_X8_then : ic_MV MX8_then := ⟨ic_in 682 (by decide +kernel), ic_in 683 (by decide +kernel), ic_in 70 (by decide +kernel), ic_in 684 (by decide +kernel), by decide +kernel, by decide +kernel⟩
def MX8_when : ic_Md := (yX8_when, cX8_when, 3, (some .int), { frames := 4, cells := 0, slots := 0, locals := 99 })
theorem mv_X8_when : ic_MV MX8_when := ⟨ic_in 694 (by decide +kernel), ic_in 695 (by decide +kernel), ic_in 70 (by decide +kernel), ic_in 696 (by decide +kernel), by decide +kernel, by decide +kernel⟩
def MX8_noMore : ic_Md := (yX8_noMore, cX8_noMore, 3, (some .int), { frames := 4, cells := 0, slots := 0, locals := 99 })
theorem mv_X8_noMore : ic_MV MX8_noMore := ⟨ic_in 702 (by decide +kernel), ic_in 703 (by decide +kernel), ic_in 70 (by decide +kernel), ic_in 704 (by decide +kernel), by decide +kernel, by decide +kernel⟩
def MX8_refusalOfPerson : ic_Md := (yX8_refusalOfPerson, cX8_refusalOfPerson, 3, (some .int), { frames := 1, cells := 0, slots := 0, locals := 22 })
theorem mv_X8_refusalOfPerson : ic_MV MX8_refusalOfPerson := ⟨ic_in 711 (by decide +kernel), ic_in 20 (by decide +kernel), ic_in 70 (by decide +kernel), ic_in 712 (by decide +kernel), by decide +kernel, by decide +kernel⟩
def MX8_over : ic_Md := (yX8_over, cX8_over, 4, (some .int), { frames := 5, cells := 0, slots := 0, locals := 125 })
theorem mv_X8_over : ic_MV MX8_over := ⟨ic_in 706 (by decide +kernel), ic_in 707 (by decide +kernel), ic_in 70 (by decide +kernel), ic_in 708 (by decide +kernel), by decide +kernel, by decide +kernel⟩
def MX8_fewest : ic_Md := (yX8_fewest, cX8_fewest, 2, (some .int), { frames := 4, cells := 0, slots := 0, locals := 100 })
theorem mv_X8_fewest : ic_MV MX8_fewest := ⟨ic_in 741 (by decide +kernel), ic_in 742 (by decide +kernel), ic_in 70 (by decide +kernel), ic_in 743 (by decide +kernel), by decide +kernel, by decide +kernel⟩
def MX8_leastSalt : ic_Md := (yX8_leastSalt, cX8_leastSalt, 2, (some .int), { frames := 3, cells := 0, slots := 0, locals := 74 })
theorem mv_X8_leastSalt : ic_MV MX8_leastSalt := ⟨ic_in 757 (by decide +kernel), ic_in 758 (by decide +kernel), ic_in 70 (by decide +kernel), ic_in 759 (by decide +kernel), by decide +kernel, by decide +kernel⟩
def MX8_lives : ic_Md := (yX8_lives, cX8_lives, 4, (some .int), { frames := 6, cells := 0, slots := 0, locals := 149 })
theorem mv_X8_lives : ic_MV MX8_lives := ⟨ic_in 765 (by decide +kernel), ic_in 766 (by decide +kernel), ic_in 70 (by decide +kernel), ic_in 767 (by decide +kernel), by decide +kernel, by decide +kernel⟩
def MX8_heard : ic_Md := (yX8_heard, cX8_heard, 2, (some .int), { frames := 4, cells := 0, slots := 0, locals := 100 })
theorem mv_X8_heard : ic_MV MX8_heard := ⟨ic_in 774 (by decide +kernel), ic_in 775 (by decide +kernel), ic_in 70 (by decide +kernel), ic_in 776 (by decide +kernel), by decide +kernel, by decide +kernel⟩
def MX8_game : ic_Md := (yX8_game, cX8_game, 11, (some .int), { frames := 1, cells := 0, slots := 0, locals := 22 })
theorem mv_X8_game : ic_MV MX8_game := ⟨ic_in 784 (by decide +kernel), ic_in 785 (by decide +kernel), ic_in 70 (by decide +kernel), ic_in 786 (by decide +kernel), by decide +kernel, by decide +kernel⟩
def MX8_tolls : ic_Md := (yX8_tolls, cX8_tolls, 3, (some .int), { frames := 4, cells := 0, slots := 0, locals := 90 })
theorem mv_X8_tolls : ic_MV MX8_tolls := ⟨ic_in 791 (by decide +kernel), ic_in 792 (by decide +kernel), ic_in 70 (by decide +kernel), ic_in 793 (by decide +kernel), by decide +kernel, by decide +kernel⟩
def MX8_thaw : ic_Md := (yX8_thaw, cX8_thaw, 5, (some .int), { frames := 1, cells := 0, slots := 0, locals := 22 })
theorem mv_X8_thaw : ic_MV MX8_thaw := ⟨ic_in 799 (by decide +kernel), ic_in 800 (by decide +kernel), ic_in 70 (by decide +kernel), ic_in 801 (by decide +kernel), by decide +kernel, by decide +kernel⟩
def MX8_see : ic_Md := (yX8_see, cX8_see, 3, (some .int), { frames := 1, cells := 0, slots := 0, locals := 22 })
theorem mv_X8_see : ic_MV MX8_see := ⟨ic_in 803 (by decide +kernel), ic_in 804 (by decide +kernel), ic_in 70 (by decide +kernel), ic_in 805 (by decide +kernel), by decide +kernel, by decide +kernel⟩
def MX8_who : ic_Md := (yX8_who, cX8_who, 2, (some .int), { frames := 4, cells := 0, slots := 0, locals := 92 })
theorem mv_X8_who : ic_MV MX8_who := ⟨ic_in 811 (by decide +kernel), ic_in 812 (by decide +kernel), ic_in 70 (by decide +kernel), ic_in 813 (by decide +kernel), by decide +kernel, by decide +kernel⟩
def MX8_ask : ic_Md := (yX8_ask, cX8_ask, 1, (some .int), { frames := 4, cells := 0, slots := 0, locals := 95 })
theorem mv_X8_ask : ic_MV MX8_ask := ⟨ic_in 837 (by decide +kernel), ic_in 838 (by decide +kernel), ic_in 70 (by decide +kernel), ic_in 839 (by decide +kernel), by decide +kernel, by decide +kernel⟩
def MX8_write : ic_Md := (yX8_write, cX8_write, 3, (some .int), { frames := 1, cells := 0, slots := 0, locals := 22 })
theorem mv_X8_write : ic_MV MX8_write := ⟨ic_in 850 (by decide +kernel), ic_in 851 (by decide +kernel), ic_in 70 (by decide +kernel), ic_in 852 (by decide +kernel), by decide +kernel, by decide +kernel⟩
theorem lkm_X8_212 : Cond.methodLink RX8 212 yX1_strewSalt ∈ ic_tb := ic_in 635 (by decide +kernel)
theorem lkm_X8_209 : Cond.methodLink RX8 209 yX1_isHole ∈ ic_tb := ic_in 634 (by decide +kernel)
theorem lkm_X8_219 : Cond.methodLink RX8 219 yX1_laySnow ∈ ic_tb := ic_in 645 (by decide +kernel)
theorem lkm_X8_216 : Cond.methodLink RX8 216 yX1_isSnowy ∈ ic_tb := ic_in 644 (by decide +kernel)
theorem lkm_X8_223 : Cond.methodLink RX8 223 yX1_comeSpring ∈ ic_tb := ic_in 653 (by decide +kernel)
theorem lkf_X8_72 : Cond.fieldLink RX8 72 RX8 (TX8 10).2.1 (TX8 10).2.2.1 ∈ ic_tb := ic_in 316 (by decide +kernel)
theorem lkc_X8_311 : Cond.constantLong RX8 311 (1103515245 : Int64) ∈ ic_tb := ic_in 669 (by decide +kernel)
theorem lkc_X8_313 : Cond.constantLong RX8 313 (12345 : Int64) ∈ ic_tb := ic_in 670 (by decide +kernel)
theorem lkc_X8_315 : Cond.constantLong RX8 315 (2147483647 : Int64) ∈ ic_tb := ic_in 671 (by decide +kernel)
theorem lkc_X8_317 : Cond.constant RX8 317 (65536 : Int32) ∈ ic_tb := ic_in 672 (by decide +kernel)
theorem lkm_X8_308 : Cond.methodLink RX8 308 yX8_draw ∈ ic_tb := ic_in 665 (by decide +kernel)
theorem lkm_X8_226 : Cond.methodLink RX8 226 yX8_wander ∈ ic_tb := ic_in 661 (by decide +kernel)
theorem lkm_X8_229 : Cond.methodLink RX8 229 yX3_restore ∈ ic_tb := ic_in 677 (by decide +kernel)
theorem lkf_X8_33 : Cond.fieldLink RX8 33 RX8 (TX8 3).2.1 (TX8 3).2.2.1 ∈ ic_tb := ic_in 309 (by decide +kernel)
theorem lkm_X8_233 : Cond.methodLink RX8 233 yX7_inchesBehind ∈ ic_tb := ic_in 685 (by decide +kernel)
theorem lkm_X8_237 : Cond.methodLink RX8 237 yX7_firstNight ∈ ic_tb := ic_in 697 (by decide +kernel)
theorem lkm_X8_245 : Cond.methodLink RX8 245 yX7_wayOver ∈ ic_tb := ic_in 713 (by decide +kernel)
theorem lkm_X8_241 : Cond.methodLink RX8 241 yX8_refusalOfPerson ∈ ic_tb := ic_in 709 (by decide +kernel)
theorem lkm_X8_249 : Cond.methodLink RX8 249 yX7_fewestOn ∈ ic_tb := ic_in 744 (by decide +kernel)
theorem lkm_X8_253 : Cond.methodLink RX8 253 yX7_saltFor ∈ ic_tb := ic_in 760 (by decide +kernel)
theorem lkm_X8_256 : Cond.methodLink RX8 256 yX7_breakingSteps ∈ ic_tb := ic_in 768 (by decide +kernel)
theorem lkm_X8_259 : Cond.methodLink RX8 259 yX7_nearestCrack ∈ ic_tb := ic_in 777 (by decide +kernel)
theorem lkm_X8_262 : Cond.methodLink RX8 262 yJ9_min_7cf53 ∈ ic_tb := ic_in 787 (by decide +kernel)
theorem lkm_X8_267 : Cond.methodLink RX8 267 yJ9_max_7cf53 ∈ ic_tb := ic_in 788 (by decide +kernel)
theorem lkc_X8_270 : Cond.constant RX8 270 (1000000 : Int32) ∈ ic_tb := ic_in 789 (by decide +kernel)
theorem lkm_X8_271 : Cond.methodLink RX8 271 yX1_openRows ∈ ic_tb := ic_in 794 (by decide +kernel)
theorem lkm_X8_274 : Cond.methodLink RX8 274 yX6_add ∈ ic_tb := ic_in 806 (by decide +kernel)
theorem lkm_X8_277 : Cond.methodLink RX8 277 yX6_howMany ∈ ic_tb := ic_in 814 (by decide +kernel)
theorem lkm_X8_280 : Cond.methodLink RX8 280 yX6_least ∈ ic_tb := ic_in 827 (by decide +kernel)
theorem lkm_X8_283 : Cond.methodLink RX8 283 yX6_sure ∈ ic_tb := ic_in 832 (by decide +kernel)
theorem lkm_X8_286 : Cond.methodLink RX8 286 yX6_bestQuestion ∈ ic_tb := ic_in 840 (by decide +kernel)
theorem lkm_X8_289 : Cond.methodLink RX8 289 yX0_add ∈ ic_tb := ic_in 853 (by decide +kernel)
def fX8_salt (sw : Nat) (μ : ic_M) (x1 : Int32) (x2 : Int32) (x3 : Int32) : Option (Int32 × ic_M) := Option.bind (fX8_isCell sw μ x2) (fun v21 => (if v21 = 0 then some ((-1000000001 : Int32), μ) else Option.bind (fX8_isWithin μ x1 (0 : Int32) (1 : Int32)) (fun v22 => (if v22 = 0 then some ((-1000000002 : Int32), μ) else Option.bind (fX8_isWithin μ x3 (1 : Int32) (60 : Int32)) (fun v23 => (if v23 = 0 then some ((-1000000002 : Int32), μ) else Option.bind (fX1_isHole μ 4 x2) (fun v24 => (if v24 = 0 then Option.bind (fX3_remember μ 4) (fun m25 => Option.bind (fX1_strewSalt m25 4 (ic_ld sw) x1 x2 x3) (fun q26 => some (q26.1, q26.2))) else some ((-1000000003 : Int32), μ)))))))))
def fX8_snow (sw : Nat) (μ : ic_M) (x1 : Int32) (x2 : Int32) : Option (Int32 × ic_M) := Option.bind (fX8_isCell sw μ x1) (fun v21 => (if v21 = 0 then some ((-1000000001 : Int32), μ) else Option.bind (fX3_remember μ 4) (fun m22 => Option.bind (fX1_isSnowy m22 4 x1) (fun v23 => Option.bind (if v23 = 0 then some (0 : Int32) else some (1 : Int32)) (fun q24 => Option.bind (fX1_laySnow m22 4 x1 x2) (fun m25 => some (q24, m25)))))))
def fX8_spring (sw : Nat) (μ : ic_M) : Option (Int32 × ic_M) := Option.bind (fX8_isNoRiver sw μ) (fun v21 => (if v21 = 0 then Option.bind (fX3_remember μ 4) (fun m22 => ic_lt ((m22 4 4)) (fun x23 => Option.bind (fX1_comeSpring m22 4) (fun m24 => some (x23, m24)))) else some ((-1000000003 : Int32), μ)))
def fX8_draw (sw : Nat) (μ : ic_M) (x1 : Int32) : Option (Int32 × ic_M) := ic_pu μ 1 10 (Int64.toInt32 ((((Int32.toInt64 (μ 1 10)) * (1103515245 : Int64)) + (12345 : Int64)) &&& (2147483647 : Int64))) (fun m21 => Option.bind (if (1 : Int32) ≤ x1 then (if (65536 : Int32) = 0 then none else (if x1 = 0 then none else some (((m21 1 10) / (65536 : Int32)) - ((m21 1 10) / (65536 : Int32)) / x1 * x1))) else some (0 : Int32)) (fun q22 => some (q22, m21)))
def fX8_wander (sw : Nat) (μ : ic_M) : Option (ic_M) := Option.bind (if (μ (ic_ld sw) 12) ≤ 0 then some μ else Option.bind (fX8_draw sw μ (μ (ic_ld sw) 12)) (fun q22 => Option.bind (fX8_draw sw q22.2 (q22.2 (ic_ld sw) 11)) (fun q23 => Option.bind (fX1_canGo q23.2 4 (ic_ld sw) q22.1 q23.1) (fun v24 => (if v24 = 0 then some q23.2 else Option.bind (fX1_go q23.2 4 (ic_ld sw) q22.1 q23.1) (fun q25 => some q25.2)))))) (fun q21 => Option.bind (fX8_draw sw q21 (4 : Int32)) (fun q26 => Option.bind (if q26.1 = 0 then Option.bind (fX8_draw sw q26.2 (q26.2 (ic_ld sw) 11)) (fun q28 => Option.bind (fX1_laySnow q28.2 4 q28.1 (1 : Int32)) (fun m29 => some m29)) else some q26.2) (fun q27 => some q27)))
def lpX8_drift_25 (sw : Nat) (x1_ : Int32) : Nat → Int32 → ic_M → Option (ic_M)
  | 0, _, _ => none
  | fu + 1, y3_, μ => (if x1_ ≤ y3_ then some μ else Option.bind (fX8_wander sw μ) (fun m23 => Option.bind (fX1_passNight m23 4 (ic_ld sw)) (fun m24 => ic_lt (y3_ + (1 : Int32)) (fun x25 => lpX8_drift_25 sw x1_ fu x25 m24))))
def fX8_drift (sw : Nat) (μ : ic_M) (x1 : Int32) : Option (Int32 × ic_M) := Option.bind (fX8_refusalOfNights sw μ x1) (fun v21 => (if v21 = 0 then Option.bind (fX3_remember μ 4) (fun m22 => Option.bind (lpX8_drift_25 sw x1 1000 (0 : Int32) m22) (fun q26 => some ((q26 4 5), q26))) else some (v21, μ)))
def fX8_undo (sw : Nat) (μ : ic_M) : Option (Int32 × ic_M) := Option.bind (fX3_restore μ 4) (fun q21 => Option.bind (if q21.1 = 0 then some (-1000000003 : Int32) else some (q21.2 7 2)) (fun q22 => some (q22, q21.2)))
def fX8_then (sw : Nat) (μ : ic_M) (x1 : Int32) (x2 : Int32) : Option (Int32) := Option.bind (fX8_isCell sw μ x1) (fun v21 => (if v21 = 0 then some (-1000000001 : Int32) else Option.bind (fX8_isWithin μ x2 (0 : Int32) (60 : Int32)) (fun v22 => (if v22 = 0 then some (-1000000002 : Int32) else Option.bind (fX7_inchesBehind μ (ic_ld sw) 4 x1 x2) (fun v23 => some v23)))))
def fX8_when (sw : Nat) (μ : ic_M) (x1 : Int32) (x2 : Int32) : Option (Int32) := Option.bind (fX8_isCell sw μ x1) (fun v21 => (if v21 = 0 then some (-1000000001 : Int32) else Option.bind (fX8_isWithin μ x2 (1 : Int32) (999 : Int32)) (fun v22 => Option.bind (if v22 = 0 then some (-1000000002 : Int32) else Option.bind (fX7_firstNight μ (ic_ld sw) 4 x1 x2 (1 : Int32)) (fun v24 => some v24)) (fun q23 => some q23))))
def fX8_noMore (sw : Nat) (μ : ic_M) (x1 : Int32) (x2 : Int32) : Option (Int32) := Option.bind (fX8_isCell sw μ x1) (fun v21 => (if v21 = 0 then some (-1000000001 : Int32) else Option.bind (fX8_isWithin μ x2 (1 : Int32) (999 : Int32)) (fun v22 => Option.bind (if v22 = 0 then some (-1000000002 : Int32) else Option.bind (fX7_firstNight μ (ic_ld sw) 4 x1 x2 (0 : Int32)) (fun v24 => some v24)) (fun q23 => some q23))))
def fX8_refusalOfPerson (sw : Nat) (μ : ic_M) (x1 : Int32) (x2 : Int32) : Option (Int32) := Option.bind (fX8_isPerson sw μ x1) (fun v21 => (if v21 = 0 then some (-1000000001 : Int32) else Option.bind (fX8_isWithin μ x2 (0 : Int32) (1 : Int32)) (fun v22 => (if v22 = 0 then some (-1000000002 : Int32) else Option.bind (fX1_placeOf μ 4 x1) (fun v23 => Option.bind (if v23 = (-2 : Int32) then some (-1000000003 : Int32) else some (0 : Int32)) (fun q24 => some q24))))))
def fX8_over (sw : Nat) (μ : ic_M) (x1 : Int32) (x2 : Int32) : Option (Int32 × ic_M) := Option.bind (fX8_refusalOfPerson sw μ x1 x2) (fun v21 => Option.bind (if v21 = 0 then Option.bind (if x2 = (1 : Int32) then some (1 : Int32) else some (0 : Int32)) (fun q23 => Option.bind (fX7_wayOver μ (ic_ld sw) 4 x1 q23) (fun q24 => some (q24.1, q24.2))) else some (v21, μ)) (fun q22 => some (q22.1, q22.2)))
def fX8_fewest (sw : Nat) (μ : ic_M) (x1 : Int32) : Option (Int32 × ic_M) := Option.bind (fX8_isCell sw μ x1) (fun v21 => (if v21 = 0 then some ((-1000000001 : Int32), μ) else Option.bind (fX1_isHole μ 4 x1) (fun v22 => Option.bind (if v22 = 0 then Option.bind (fX7_fewestOn μ (ic_ld sw) 4 x1) (fun q24 => some (q24.1, q24.2)) else some ((-1000000003 : Int32), μ)) (fun q23 => some (q23.1, q23.2)))))
def fX8_leastSalt (sw : Nat) (μ : ic_M) (x1 : Int32) : Option (Int32) := Option.bind (fX8_isCell sw μ x1) (fun v21 => Option.bind (if v21 = 0 then some (-1000000001 : Int32) else Option.bind (fX7_saltFor μ (ic_ld sw) 4 x1) (fun v23 => some v23)) (fun q22 => some q22))
def fX8_lives (sw : Nat) (μ : ic_M) (x1 : Int32) (x2 : Int32) : Option (Int32 × ic_M) := Option.bind (fX8_refusalOfPerson sw μ x1 x2) (fun v21 => Option.bind (if v21 = 0 then Option.bind (if x2 = (1 : Int32) then some (1 : Int32) else some (0 : Int32)) (fun q23 => Option.bind (fX7_breakingSteps μ (ic_ld sw) 4 x1 q23) (fun q24 => some (q24.1, q24.2))) else some (v21, μ)) (fun q22 => some (q22.1, q22.2)))
def fX8_heard (sw : Nat) (μ : ic_M) (x1 : Int32) : Option (Int32) := Option.bind (fX8_isCell sw μ x1) (fun v21 => Option.bind (if v21 = 0 then some (-1000000001 : Int32) else Option.bind (fX7_nearestCrack μ (ic_ld sw) 4 x1) (fun v23 => some v23)) (fun q22 => some q22))
def fX8_game (sw : Nat) (μ : ic_M) (x1 : Int32) (x2 : Int32) (x3 : Int32) (x4 : Int32) (x5 : Int32) : Option (Int32) := Option.bind (fX8_isWithin μ x1 (0 : Int32) (99 : Int32)) (fun v21 => Option.bind (if v21 = 0 then some (0 : Int32) else Option.bind (fX8_isWithin μ x2 (0 : Int32) (99 : Int32)) (fun v23 => (if v23 = 0 then some (0 : Int32) else Option.bind (fX8_isWithin μ x3 (0 : Int32) (99 : Int32)) (fun v24 => (if v24 = 0 then some (0 : Int32) else Option.bind (fX8_isWithin μ x4 (0 : Int32) (99 : Int32)) (fun v25 => (if v25 = 0 then some (0 : Int32) else some (1 : Int32)))))))) (fun q22 => (if q22 = 0 then some (-1000000002 : Int32) else Option.bind (fX8_isWithin μ x5 (0 : Int32) (1 : Int32)) (fun v26 => (if v26 = 0 then some (-1000000002 : Int32) else ic_lt ((if x2 < x1 then x2 else x1)) (fun x27 => ic_lt ((if x4 < x3 then x4 else x3)) (fun x28 => ic_lt ((if x27 < x28 then x28 else x27)) (fun x29 => ic_lt ((((x1 + x4) - x2) - x3)) (fun x30 => (if x29 = (if (if x2 < x4 then x4 else x2) < (if x1 < x3 then x3 else x1) then (if x2 < x4 then x4 else x2) else (if x1 < x3 then x3 else x1)) then Option.bind (if x5 = (1 : Int32) then some (x29 * (1000 : Int32)) else (if x27 < x28 then some (0 : Int32) else some (1000000 : Int32))) (fun q31 => some q31) else (if x30 = 0 then Option.bind (if x5 = (1 : Int32) then some (x29 * (1000 : Int32)) else (if x27 < x28 then some (0 : Int32) else some (1000000 : Int32))) (fun q33 => some q33) else Option.bind (if x5 = (1 : Int32) then (if x30 = 0 then none else some ((((x1 * x4) - (x2 * x3)) * (1000 : Int32)) / x30)) else (if x30 = 0 then none else some (((x4 - x3) * (1000000 : Int32)) / x30))) (fun q32 => some q32))))))))))))
def fX8_tolls (sw : Nat) (μ : ic_M) (x1 : Int32) (x2 : Int32) : Option (Int32) := Option.bind (fX8_isWithin μ x1 (0 : Int32) (99 : Int32)) (fun v21 => (if v21 = 0 then some (-1000000002 : Int32) else Option.bind (fX8_isWithin μ x2 (0 : Int32) (99 : Int32)) (fun v22 => (if v22 = 0 then some (-1000000002 : Int32) else Option.bind (if (μ 4 4) = (-1 : Int32) then some (0 : Int32) else Option.bind (fX1_openRows μ 4 (ic_ld sw)) (fun v24 => some ((x1 * x2) * v24))) (fun q23 => some q23)))))
def lpX8_thaw_30 (sw : Nat) (μ : ic_M) (x1_ : Int32) (x2_ : Int32) : Nat → Int32 → Int32 → Option (Int32)
  | 0, _, _ => none
  | fu + 1, y3_, y4_ => (if x1_ ≤ y4_ then some y3_ else (if (100 : Int32) = 0 then none else ic_lt (((y3_ * ((100 : Int32) - x2_)) / (100 : Int32))) (fun x23 => ic_lt (y4_ + (1 : Int32)) (fun x24 => lpX8_thaw_30 sw μ x1_ x2_ fu x23 x24))))
def fX8_thaw (sw : Nat) (μ : ic_M) (x1 : Int32) (x2 : Int32) : Option (Int32) := Option.bind (fX8_isWithin μ x1 (0 : Int32) (60 : Int32)) (fun v21 => (if v21 = 0 then some (-1000000002 : Int32) else Option.bind (fX8_isWithin μ x2 (0 : Int32) (100 : Int32)) (fun v22 => (if v22 = 0 then some (-1000000002 : Int32) else Option.bind (lpX8_thaw_30 sw μ x1 x2 1000 (1000000 : Int32) (0 : Int32)) (fun q25 => some q25)))))
def fX8_see (sw : Nat) (μ : ic_M) (x1 : Int32) (x2 : Int32) : Option (Int32 × ic_M) := Option.bind (fX8_isWithin μ x1 (1 : Int32) (60 : Int32)) (fun v21 => (if v21 = 0 then some ((-1000000002 : Int32), μ) else Option.bind (fX6_add μ x1 x2) (fun q22 => Option.bind (if q22.1 = 0 then some (-1000000004 : Int32) else some (q22.2 61 4)) (fun q23 => some (q23, q22.2)))))
def fX8_who (sw : Nat) (μ : ic_M) (x1 : Int32) : Option (Int32 × ic_M) := (if x1 = (0 : Int32) then Option.bind (fX6_howMany μ (ic_ld sw)) (fun q21 => some (q21.1, q21.2)) else (if x1 = (1 : Int32) then Option.bind (fX6_least μ (ic_ld sw)) (fun q22 => some (q22.1, q22.2)) else (if x1 = (2 : Int32) then Option.bind (fX6_sure μ (ic_ld sw)) (fun q23 => some (q23.1, q23.2)) else some ((-1000000002 : Int32), μ))))
def fX8_ask (sw : Nat) (μ : ic_M) : Option (Int32 × ic_M) := Option.bind (fX6_bestQuestion μ (ic_ld sw)) (fun q21 => some (q21.1, q21.2))
def fX8_write (sw : Nat) (μ : ic_M) (x1 : Int32) (x2 : Int32) : Option (Int32 × ic_M) := Option.bind (fX8_isCell sw μ x1) (fun v21 => (if v21 = 0 then some ((-1000000001 : Int32), μ) else Option.bind (fX8_isWithin μ x2 (0 : Int32) (60 : Int32)) (fun v22 => (if v22 = 0 then some ((-1000000002 : Int32), μ) else Option.bind (fX0_add μ x1 x2) (fun q23 => Option.bind (if q23.1 = 0 then some (-1000000004 : Int32) else some (q23.2 66 2)) (fun q24 => some (q24, q23.2)))))))
set_option maxRecDepth 100000 in
set_option maxHeartbeats 4000000 in
theorem ct_X8_salt (l : Launch) (κ : ic_K) (sw : Nat) (μ : ic_M) (x1 : Int32) (x2 : Int32) (x3 : Int32) {R : Int32 × ic_M} (hf : fX8_salt sw μ x1 x2 x3 = some R) : ic_C l κ MX8_salt [ic_rv κ.1 1, .int x1, .int x2, .int x3] 106 (ic_rs sw) μ (some (.int R.1)) 106 (ic_rs sw) R.2 := by
  refine ic_C.of (L := [(0, ic_rv κ.1 1), (1, .int x1), (2, .int x2), (3, .int x3)]) ⟨ic_cat _ _, rfl, rfl, rfl, trivial⟩ ⟨by decide +kernel, Nat.le_of_ble_eq_true rfl⟩ rfl ?_
  unfold fX8_salt at hf
  refine iw_aload_n (i := 0) (pc' := 1) 0 rfl (by decide +kernel) ?_
  refine iw_iload_n (i := 2) (pc' := 2) 2 rfl (by decide +kernel) ?_
  obtain ⟨v21, hc, hf⟩ := ic_bd hf
  refine iw_callV (pc' := 5) (S0 := []) (S1 := [.int v21]) (c1 := 0) (s1 := 0) (k := 1) (ct_X8_isCell l κ sw μ x2 hc) cO_1 ⟨rfl, rfl⟩ mv_X8_isCell lkm_X8_147 ⟨rfl, rfl⟩ (ic_sum8 trivial (Nat.le_of_ble_eq_true rfl)) (by unfold ic_rm; decide +kernel) ⟨rfl, rfl, rfl⟩ ⟨Nat.le_of_ble_eq_true rfl, Nat.le_of_ble_eq_true rfl⟩ ?_
  refine iw_if_ne (off := 6) (tg := 11) (pc' := 8) hf (by decide +kernel) (fun hf => ?_) (fun hf => ?_)
  · refine iw_iload_n (i := 1) (pc' := 12) 1 rfl (by decide +kernel) ?_
    refine iw_iconst (i := 0) (v := (0 : Int32)) (pc' := 13) (by decide +kernel) ?_
    refine iw_iconst (i := 1) (v := (1 : Int32)) (pc' := 14) (by decide +kernel) ?_
    obtain ⟨v22, hc, hf⟩ := ic_bd hf
    refine iw_callS (pc' := 17) (S0 := []) (S1 := [.int v22]) (c1 := 0) (s1 := 0) (k := 3) (ct_X8_isWithin l κ sw μ x1 (0 : Int32) (1 : Int32) hc) ms_X8_isWithin lkm_X8_78 ⟨rfl, rfl⟩ (ic_sum8 trivial (Nat.le_of_ble_eq_true rfl)) (by unfold ic_rm; decide +kernel) ⟨rfl, rfl, rfl⟩ ⟨Nat.le_of_ble_eq_true rfl, Nat.le_of_ble_eq_true rfl⟩ ?_
    refine iw_if_eq (off := 13) (tg := 30) (pc' := 20) hf (by decide +kernel) (fun hf => ?_) (fun hf => ?_)
    · refine iw_ldc (pc' := 32) lkc_X8_82 (by decide +kernel) ?_
      exact iw_ireturn (ic_q1 (Option.some.inj hf)) rfl (ic_q2 (Option.some.inj hf)) (by decide +kernel)
    · refine iw_iload_n (i := 3) (pc' := 21) 3 rfl (by decide +kernel) ?_
      refine iw_iconst (i := 1) (v := (1 : Int32)) (pc' := 22) (by decide +kernel) ?_
      refine iw_bipush (i := 60) (v := (60 : Int32)) (pc' := 24) (by decide +kernel) ?_
      obtain ⟨v23, hc, hf⟩ := ic_bd hf
      refine iw_callS (pc' := 27) (S0 := []) (S1 := [.int v23]) (c1 := 0) (s1 := 0) (k := 3) (ct_X8_isWithin l κ sw μ x3 (1 : Int32) (60 : Int32) hc) ms_X8_isWithin lkm_X8_78 ⟨rfl, rfl⟩ (ic_sum8 trivial (Nat.le_of_ble_eq_true rfl)) (by unfold ic_rm; decide +kernel) ⟨rfl, rfl, rfl⟩ ⟨Nat.le_of_ble_eq_true rfl, Nat.le_of_ble_eq_true rfl⟩ ?_
      refine iw_if_ne (off := 6) (tg := 33) (pc' := 30) hf (by decide +kernel) (fun hf => ?_) (fun hf => ?_)
      · refine iw_aload_n (i := 0) (pc' := 34) 0 rfl (by decide +kernel) ?_
        refine iw_getr (pc' := 37) (q := 4) ic_fk8 cO_1 rfl lkf_X8_19 (by decide +kernel) ?_
        refine iw_iload_n (i := 2) (pc' := 38) 2 rfl (by decide +kernel) ?_
        obtain ⟨v24, hc, hf⟩ := ic_bd hf
        refine iw_callV (pc' := 41) (S0 := []) (S1 := [.int v24]) (c1 := 0) (s1 := 0) (k := 1) (ct_X1_isHole l κ sw μ 4 cO_4 x2 hc) cO_4 ⟨rfl, rfl⟩ mv_X1_isHole lkm_X8_209 ⟨rfl, rfl⟩ (ic_sum8 trivial (Nat.le_of_ble_eq_true rfl)) (by unfold ic_rm; decide +kernel) ⟨rfl, rfl, rfl⟩ ⟨Nat.le_of_ble_eq_true rfl, Nat.le_of_ble_eq_true rfl⟩ ?_
        refine iw_if_eq (off := 6) (tg := 47) (pc' := 44) hf (by decide +kernel) (fun hf => ?_) (fun hf => ?_)
        · refine iw_aload_n (i := 0) (pc' := 48) 0 rfl (by decide +kernel) ?_
          refine iw_getr (pc' := 51) (q := 7) ic_fk8 cO_1 rfl lkf_X8_26 (by decide +kernel) ?_
          refine iw_aload_n (i := 0) (pc' := 52) 0 rfl (by decide +kernel) ?_
          refine iw_getr (pc' := 55) (q := 4) ic_fk8 cO_1 rfl lkf_X8_19 (by decide +kernel) ?_
          obtain ⟨m25, hc, hf⟩ := ic_bd hf
          refine iw_callV (pc' := 58) (S0 := []) (S1 := []) (c1 := 0) (s1 := 0) (k := 1) (ct_X3_remember l κ sw μ 4 cO_4 hc) cO_7 ⟨rfl, rfl⟩ mv_X3_remember lkm_X8_194 ⟨rfl, rfl⟩ (ic_sum8 trivial (Nat.le_of_ble_eq_true rfl)) (by unfold ic_rm; decide +kernel) ⟨rfl, rfl, rfl⟩ ⟨Nat.le_of_ble_eq_true rfl, Nat.le_of_ble_eq_true rfl⟩ ?_
          refine iw_aload_n (i := 0) (pc' := 59) 0 rfl (by decide +kernel) ?_
          refine iw_getr (pc' := 62) (q := 4) ic_fk8 cO_1 rfl lkf_X8_19 (by decide +kernel) ?_
          refine iw_aload_n (i := 0) (pc' := 63) 0 rfl (by decide +kernel) ?_
          refine iw_getr (pc' := 66) (q := (ic_ld sw)) ic_fk8 cO_1 rfl lkf_X8_61 (by decide +kernel) ?_
          refine iw_iload_n (i := 1) (pc' := 67) 1 rfl (by decide +kernel) ?_
          refine iw_iload_n (i := 2) (pc' := 68) 2 rfl (by decide +kernel) ?_
          refine iw_iload_n (i := 3) (pc' := 69) 3 rfl (by decide +kernel) ?_
          obtain ⟨q26, hc, hf⟩ := ic_bd hf
          refine iw_callV (pc' := 72) (S0 := []) (S1 := [.int q26.1]) (c1 := 0) (s1 := 0) (k := 4) (ct_X1_strewSalt l κ sw m25 4 cO_4 (ic_ld sw) (ic_ldO sw) x1 x2 x3 hc) cO_4 ⟨rfl, rfl⟩ mv_X1_strewSalt lkm_X8_212 ⟨rfl, rfl⟩ (ic_sum8 trivial (Nat.le_of_ble_eq_true rfl)) (by unfold ic_rm; decide +kernel) ⟨rfl, rfl, rfl⟩ ⟨Nat.le_of_ble_eq_true rfl, Nat.le_of_ble_eq_true rfl⟩ ?_
          exact iw_ireturn (ic_q1 (Option.some.inj hf)) rfl (ic_q2 (Option.some.inj hf)) (by decide +kernel)
        · refine iw_ldc (pc' := 46) lkc_X8_187 (by decide +kernel) ?_
          exact iw_ireturn (ic_q1 (Option.some.inj hf)) rfl (ic_q2 (Option.some.inj hf)) (by decide +kernel)
      · refine iw_ldc (pc' := 32) lkc_X8_82 (by decide +kernel) ?_
        exact iw_ireturn (ic_q1 (Option.some.inj hf)) rfl (ic_q2 (Option.some.inj hf)) (by decide +kernel)
  · refine iw_ldc (pc' := 10) lkc_X8_150 (by decide +kernel) ?_
    exact iw_ireturn (ic_q1 (Option.some.inj hf)) rfl (ic_q2 (Option.some.inj hf)) (by decide +kernel)
set_option maxRecDepth 100000 in
set_option maxHeartbeats 4000000 in
theorem ct_X8_snow (l : Launch) (κ : ic_K) (sw : Nat) (μ : ic_M) (x1 : Int32) (x2 : Int32) {R : Int32 × ic_M} (hf : fX8_snow sw μ x1 x2 = some R) : ic_C l κ MX8_snow [ic_rv κ.1 1, .int x1, .int x2] 106 (ic_rs sw) μ (some (.int R.1)) 106 (ic_rs sw) R.2 := by
  refine ic_C.of (L := [(0, ic_rv κ.1 1), (1, .int x1), (2, .int x2)]) ⟨ic_cat _ _, rfl, rfl, trivial⟩ ⟨by decide +kernel, Nat.le_of_ble_eq_true rfl⟩ rfl ?_
  unfold fX8_snow at hf
  refine iw_aload_n (i := 0) (pc' := 1) 0 rfl (by decide +kernel) ?_
  refine iw_iload_n (i := 1) (pc' := 2) 1 rfl (by decide +kernel) ?_
  obtain ⟨v21, hc, hf⟩ := ic_bd hf
  refine iw_callV (pc' := 5) (S0 := []) (S1 := [.int v21]) (c1 := 0) (s1 := 0) (k := 1) (ct_X8_isCell l κ sw μ x1 hc) cO_1 ⟨rfl, rfl⟩ mv_X8_isCell lkm_X8_147 ⟨rfl, rfl⟩ (ic_sum8 trivial (Nat.le_of_ble_eq_true rfl)) (by unfold ic_rm; decide +kernel) ⟨rfl, rfl, rfl⟩ ⟨Nat.le_of_ble_eq_true rfl, Nat.le_of_ble_eq_true rfl⟩ ?_
  refine iw_if_ne (off := 6) (tg := 11) (pc' := 8) hf (by decide +kernel) (fun hf => ?_) (fun hf => ?_)
  · refine iw_aload_n (i := 0) (pc' := 12) 0 rfl (by decide +kernel) ?_
    refine iw_getr (pc' := 15) (q := 7) ic_fk8 cO_1 rfl lkf_X8_26 (by decide +kernel) ?_
    refine iw_aload_n (i := 0) (pc' := 16) 0 rfl (by decide +kernel) ?_
    refine iw_getr (pc' := 19) (q := 4) ic_fk8 cO_1 rfl lkf_X8_19 (by decide +kernel) ?_
    obtain ⟨m22, hc, hf⟩ := ic_bd hf
    refine iw_callV (pc' := 22) (S0 := []) (S1 := []) (c1 := 0) (s1 := 0) (k := 1) (ct_X3_remember l κ sw μ 4 cO_4 hc) cO_7 ⟨rfl, rfl⟩ mv_X3_remember lkm_X8_194 ⟨rfl, rfl⟩ (ic_sum8 trivial (Nat.le_of_ble_eq_true rfl)) (by unfold ic_rm; decide +kernel) ⟨rfl, rfl, rfl⟩ ⟨Nat.le_of_ble_eq_true rfl, Nat.le_of_ble_eq_true rfl⟩ ?_
    refine iw_aload_n (i := 0) (pc' := 23) 0 rfl (by decide +kernel) ?_
    refine iw_getr (pc' := 26) (q := 4) ic_fk8 cO_1 rfl lkf_X8_19 (by decide +kernel) ?_
    refine iw_iload_n (i := 1) (pc' := 27) 1 rfl (by decide +kernel) ?_
    obtain ⟨v23, hc, hf⟩ := ic_bd hf
    refine iw_callV (pc' := 30) (S0 := []) (S1 := [.int v23]) (c1 := 0) (s1 := 0) (k := 1) (ct_X1_isSnowy l κ sw m22 4 cO_4 x1 hc) cO_4 ⟨rfl, rfl⟩ mv_X1_isSnowy lkm_X8_216 ⟨rfl, rfl⟩ (ic_sum8 trivial (Nat.le_of_ble_eq_true rfl)) (by unfold ic_rm; decide +kernel) ⟨rfl, rfl, rfl⟩ ⟨Nat.le_of_ble_eq_true rfl, Nat.le_of_ble_eq_true rfl⟩ ?_
    obtain ⟨q24, hf, hgq24⟩ := ic_bd hf
    have hjq24 : ic_W l κ MX8_snow ic_X0 (ic_Z κ MX8_snow (some (.int R.1)) 106 (ic_rs sw) R.2) 38 [(0, ic_rv κ.1 1), (1, .int x1), (2, .int x2)] [.int q24] 106 (ic_rs sw) m22 0 0 := by
      have hf := hgq24
      refine iw_istore_n0 (i := 3) (pc' := 39) (L' := [(0, ic_rv κ.1 1), (1, .int x1), (2, .int x2), (3, .int q24)]) rfl (by decide +kernel) ?_
      refine iw_aload_n (i := 0) (pc' := 40) 0 rfl (by decide +kernel) ?_
      refine iw_getr (pc' := 43) (q := 4) ic_fk8 cO_1 rfl lkf_X8_19 (by decide +kernel) ?_
      refine iw_iload_n (i := 1) (pc' := 44) 1 rfl (by decide +kernel) ?_
      refine iw_iload_n (i := 2) (pc' := 45) 2 rfl (by decide +kernel) ?_
      obtain ⟨m25, hc, hf⟩ := ic_bd hf
      refine iw_callV (pc' := 48) (S0 := []) (S1 := []) (c1 := 0) (s1 := 0) (k := 2) (ct_X1_laySnow l κ sw m22 4 cO_4 x1 x2 hc) cO_4 ⟨rfl, rfl⟩ mv_X1_laySnow lkm_X8_219 ⟨rfl, rfl⟩ (ic_sum8 trivial (Nat.le_of_ble_eq_true rfl)) (by unfold ic_rm; decide +kernel) ⟨rfl, rfl, rfl⟩ ⟨Nat.le_of_ble_eq_true rfl, Nat.le_of_ble_eq_true rfl⟩ ?_
      refine iw_iload_n (i := 3) (pc' := 49) 3 rfl (by decide +kernel) ?_
      exact iw_ireturn (ic_q1 (Option.some.inj hf)) rfl (ic_q2 (Option.some.inj hf)) (by decide +kernel)
    refine iw_if_eq (off := 7) (tg := 37) (pc' := 33) hf (by decide +kernel) (fun hf => ?_) (fun hf => ?_)
    · refine iw_iconst (i := 0) (v := (0 : Int32)) (pc' := 38) (by decide +kernel) ?_
      obtain rfl := Option.some.inj hf
      exact iw_sub [0, 1, 2] rfl hjq24
    · refine iw_iconst (i := 1) (v := (1 : Int32)) (pc' := 34) (by decide +kernel) ?_
      refine iw_goto (off := 4) (pc' := 38) (by decide +kernel) ?_
      obtain rfl := Option.some.inj hf
      exact iw_sub [0, 1, 2] rfl hjq24
  · refine iw_ldc (pc' := 10) lkc_X8_150 (by decide +kernel) ?_
    exact iw_ireturn (ic_q1 (Option.some.inj hf)) rfl (ic_q2 (Option.some.inj hf)) (by decide +kernel)
set_option maxRecDepth 100000 in
set_option maxHeartbeats 4000000 in
theorem ct_X8_spring (l : Launch) (κ : ic_K) (sw : Nat) (μ : ic_M) {R : Int32 × ic_M} (hf : fX8_spring sw μ = some R) : ic_C l κ MX8_spring [ic_rv κ.1 1] 106 (ic_rs sw) μ (some (.int R.1)) 106 (ic_rs sw) R.2 := by
  refine ic_C.of (L := [(0, ic_rv κ.1 1)]) ⟨ic_cat _ _, trivial⟩ ⟨by decide +kernel, Nat.le_of_ble_eq_true rfl⟩ rfl ?_
  unfold fX8_spring at hf
  refine iw_aload_n (i := 0) (pc' := 1) 0 rfl (by decide +kernel) ?_
  obtain ⟨v21, hc, hf⟩ := ic_bd hf
  refine iw_callV (pc' := 4) (S0 := []) (S1 := [.int v21]) (c1 := 0) (s1 := 0) (k := 0) (ct_X8_isNoRiver l κ sw μ hc) cO_1 ⟨rfl, rfl⟩ mv_X8_isNoRiver lkm_X8_183 ⟨rfl, rfl⟩ (ic_sum8 trivial (Nat.le_of_ble_eq_true rfl)) (by unfold ic_rm; decide +kernel) ⟨rfl, rfl, rfl⟩ ⟨Nat.le_of_ble_eq_true rfl, Nat.le_of_ble_eq_true rfl⟩ ?_
  refine iw_if_eq (off := 6) (tg := 10) (pc' := 7) hf (by decide +kernel) (fun hf => ?_) (fun hf => ?_)
  · refine iw_aload_n (i := 0) (pc' := 11) 0 rfl (by decide +kernel) ?_
    refine iw_getr (pc' := 14) (q := 7) ic_fk8 cO_1 rfl lkf_X8_26 (by decide +kernel) ?_
    refine iw_aload_n (i := 0) (pc' := 15) 0 rfl (by decide +kernel) ?_
    refine iw_getr (pc' := 18) (q := 4) ic_fk8 cO_1 rfl lkf_X8_19 (by decide +kernel) ?_
    obtain ⟨m22, hc, hf⟩ := ic_bd hf
    refine iw_callV (pc' := 21) (S0 := []) (S1 := []) (c1 := 0) (s1 := 0) (k := 1) (ct_X3_remember l κ sw μ 4 cO_4 hc) cO_7 ⟨rfl, rfl⟩ mv_X3_remember lkm_X8_194 ⟨rfl, rfl⟩ (ic_sum8 trivial (Nat.le_of_ble_eq_true rfl)) (by unfold ic_rm; decide +kernel) ⟨rfl, rfl, rfl⟩ ⟨Nat.le_of_ble_eq_true rfl, Nat.le_of_ble_eq_true rfl⟩ ?_
    refine iw_aload_n (i := 0) (pc' := 22) 0 rfl (by decide +kernel) ?_
    refine iw_getr (pc' := 25) (q := 4) ic_fk8 cO_1 rfl lkf_X8_19 (by decide +kernel) ?_
    refine iw_geti (pc' := 28) ic_fk1 cO_4 lkf_X8_125 (by decide +kernel) ?_
    refine iw_istore_n (i := 1) (pc' := 29) (L1 := fun x23 => [(0, ic_rv κ.1 1), (1, .int x23)]) hf (fun _ => rfl) (by decide +kernel) (fun x23 hf => ?_)
    refine iw_aload_n (i := 0) (pc' := 30) 0 rfl (by decide +kernel) ?_
    refine iw_getr (pc' := 33) (q := 4) ic_fk8 cO_1 rfl lkf_X8_19 (by decide +kernel) ?_
    obtain ⟨m24, hc, hf⟩ := ic_bd hf
    refine iw_callV (pc' := 36) (S0 := []) (S1 := []) (c1 := 0) (s1 := 0) (k := 0) (ct_X1_comeSpring l κ sw m22 4 cO_4 hc) cO_4 ⟨rfl, rfl⟩ mv_X1_comeSpring lkm_X8_223 ⟨rfl, rfl⟩ (ic_sum8 trivial (Nat.le_of_ble_eq_true rfl)) (by unfold ic_rm; decide +kernel) ⟨rfl, rfl, rfl⟩ ⟨Nat.le_of_ble_eq_true rfl, Nat.le_of_ble_eq_true rfl⟩ ?_
    refine iw_iload_n (i := 1) (pc' := 37) 1 rfl (by decide +kernel) ?_
    exact iw_ireturn (ic_q1 (Option.some.inj hf)) rfl (ic_q2 (Option.some.inj hf)) (by decide +kernel)
  · refine iw_ldc (pc' := 9) lkc_X8_187 (by decide +kernel) ?_
    exact iw_ireturn (ic_q1 (Option.some.inj hf)) rfl (ic_q2 (Option.some.inj hf)) (by decide +kernel)
set_option maxRecDepth 100000 in
set_option maxHeartbeats 4000000 in
theorem ct_X8_draw (l : Launch) (κ : ic_K) (sw : Nat) (μ : ic_M) (x1 : Int32) {R : Int32 × ic_M} (hf : fX8_draw sw μ x1 = some R) : ic_C l κ MX8_draw [ic_rv κ.1 1, .int x1] 106 (ic_rs sw) μ (some (.int R.1)) 106 (ic_rs sw) R.2 := by
  refine ic_C.of (L := [(0, ic_rv κ.1 1), (1, .int x1)]) ⟨ic_cat _ _, rfl, trivial⟩ ⟨by decide +kernel, Nat.le_of_ble_eq_true rfl⟩ rfl ?_
  unfold fX8_draw at hf
  refine iw_aload_n (i := 0) (pc' := 1) 0 rfl (by decide +kernel) ?_
  refine iw_aload_n (i := 0) (pc' := 2) 0 rfl (by decide +kernel) ?_
  refine iw_geti (pc' := 5) ic_fk8 cO_1 lkf_X8_72 (by decide +kernel) ?_
  refine iw_i2l (pc' := 6) (by decide +kernel) ?_
  refine iw_ldc2 (pc' := 9) lkc_X8_311 (by decide +kernel) ?_
  refine iw_lmul (pc' := 10) (by decide +kernel) ?_
  refine iw_ldc2 (pc' := 13) lkc_X8_313 (by decide +kernel) ?_
  refine iw_ladd (pc' := 14) (by decide +kernel) ?_
  refine iw_ldc2 (pc' := 17) lkc_X8_315 (by decide +kernel) ?_
  refine iw_land (pc' := 18) (by decide +kernel) ?_
  refine iw_l2i (pc' := 19) (by decide +kernel) ?_
  refine iw_put (pc' := 22) hf ic_fk8 cO_1 lkf_X8_72 (by decide +kernel) (fun m21 hf => ?_)
  refine iw_iload_n (i := 1) (pc' := 23) 1 rfl (by decide +kernel) ?_
  refine iw_iconst (i := 1) (v := (1 : Int32)) (pc' := 24) (by decide +kernel) ?_
  obtain ⟨q22, hf, hgq22⟩ := ic_bd hf
  have hjq22 : ic_W l κ MX8_draw ic_X0 (ic_Z κ MX8_draw (some (.int R.1)) 106 (ic_rs sw) R.2) 41 [] [.int q22] 106 (ic_rs sw) m21 0 0 := by
    have hf := hgq22
    exact iw_ireturn (ic_q1 (Option.some.inj hf)) rfl (ic_q2 (Option.some.inj hf)) (by decide +kernel)
  refine iw_icmp_ge (off := 7) (tg := 31) (pc' := 27) hf (by decide +kernel) (fun hf => ?_) (fun hf => ?_)
  · refine iw_aload_n (i := 0) (pc' := 32) 0 rfl (by decide +kernel) ?_
    refine iw_geti (pc' := 35) ic_fk8 cO_1 lkf_X8_72 (by decide +kernel) ?_
    refine iw_ldc_w (pc' := 38) lkc_X8_317 (by decide +kernel) ?_
    refine iw_idiv (pc' := 39) hf (by decide +kernel) (fun hf => ?_)
    refine iw_iload_n (i := 1) (pc' := 40) 1 rfl (by decide +kernel) ?_
    refine iw_irem (pc' := 41) hf (by decide +kernel) (fun hf => ?_)
    obtain rfl := Option.some.inj hf
    exact iw_sub [] rfl hjq22
  · refine iw_iconst (i := 0) (v := (0 : Int32)) (pc' := 28) (by decide +kernel) ?_
    refine iw_goto (off := 13) (pc' := 41) (by decide +kernel) ?_
    obtain rfl := Option.some.inj hf
    exact iw_sub [] rfl hjq22
set_option maxRecDepth 100000 in
set_option maxHeartbeats 4000000 in
theorem ct_X8_wander (l : Launch) (κ : ic_K) (sw : Nat) (μ : ic_M) {R : ic_M} (hf : fX8_wander sw μ = some R) : ic_C l κ MX8_wander [ic_rv κ.1 1] 106 (ic_rs sw) μ none 106 (ic_rs sw) R := by
  refine ic_C.of (L := [(0, ic_rv κ.1 1)]) ⟨ic_cat _ _, trivial⟩ ⟨by decide +kernel, Nat.le_of_ble_eq_true rfl⟩ rfl ?_
  unfold fX8_wander at hf
  refine iw_aload_n (i := 0) (pc' := 1) 0 rfl (by decide +kernel) ?_
  refine iw_getr (pc' := 4) (q := (ic_ld sw)) ic_fk8 cO_1 rfl lkf_X8_61 (by decide +kernel) ?_
  refine iw_geti (pc' := 7) ic_fk5 (ic_ldO sw) lkf_X8_119 (by decide +kernel) ?_
  obtain ⟨q21, hf, hgq21⟩ := ic_bd hf
  have hjq21 : ic_W l κ MX8_wander ic_X0 (ic_Z κ MX8_wander none 106 (ic_rs sw) R) 64 [(0, ic_rv κ.1 1)] [] 106 (ic_rs sw) q21 0 0 := by
    have hf := hgq21
    refine iw_aload_n (i := 0) (pc' := 65) 0 rfl (by decide +kernel) ?_
    refine iw_iconst (i := 4) (v := (4 : Int32)) (pc' := 66) (by decide +kernel) ?_
    obtain ⟨q26, hc, hf⟩ := ic_bd hf
    refine iw_callV (pc' := 69) (S0 := []) (S1 := [.int q26.1]) (c1 := 0) (s1 := 0) (k := 1) (ct_X8_draw l κ sw q21 (4 : Int32) hc) cO_1 ⟨rfl, rfl⟩ mv_X8_draw lkm_X8_308 ⟨rfl, rfl⟩ (ic_sum8 trivial (Nat.le_of_ble_eq_true rfl)) (by unfold ic_rm; decide +kernel) ⟨rfl, rfl, rfl⟩ ⟨Nat.le_of_ble_eq_true rfl, Nat.le_of_ble_eq_true rfl⟩ ?_
    obtain ⟨q27, hf, hgq27⟩ := ic_bd hf
    have hjq27 : ic_W l κ MX8_wander ic_X0 (ic_Z κ MX8_wander none 106 (ic_rs sw) R) 91 [] [] 106 (ic_rs sw) q27 0 0 := by
      have hf := hgq27
      exact iw_vreturn rfl (Option.some.inj hf) (by decide +kernel)
    refine iw_if_ne (off := 22) (tg := 91) (pc' := 72) hf (by decide +kernel) (fun hf => ?_) (fun hf => ?_)
    · obtain rfl := Option.some.inj hf
      exact iw_sub [] rfl hjq27
    · refine iw_aload_n (i := 0) (pc' := 73) 0 rfl (by decide +kernel) ?_
      refine iw_getr (pc' := 76) (q := 4) ic_fk8 cO_1 rfl lkf_X8_19 (by decide +kernel) ?_
      refine iw_aload_n (i := 0) (pc' := 77) 0 rfl (by decide +kernel) ?_
      refine iw_aload_n (i := 0) (pc' := 78) 0 rfl (by decide +kernel) ?_
      refine iw_getr (pc' := 81) (q := (ic_ld sw)) ic_fk8 cO_1 rfl lkf_X8_61 (by decide +kernel) ?_
      refine iw_geti (pc' := 84) ic_fk5 (ic_ldO sw) lkf_X8_107 (by decide +kernel) ?_
      obtain ⟨q28, hc, hf⟩ := ic_bd hf
      refine iw_callV (pc' := 87) (S0 := [ic_rv κ.1 4]) (S1 := [.int q28.1, ic_rv κ.1 4]) (c1 := 0) (s1 := 0) (k := 1) (ct_X8_draw l κ sw q26.2 (q26.2 (ic_ld sw) 11) hc) cO_1 ⟨rfl, rfl⟩ mv_X8_draw lkm_X8_308 ⟨rfl, rfl⟩ (ic_sum8 ⟨ic_cat _ _, trivial⟩ (Nat.le_of_ble_eq_true rfl)) (by unfold ic_rm; decide +kernel) ⟨rfl, rfl, rfl⟩ ⟨Nat.le_of_ble_eq_true rfl, Nat.le_of_ble_eq_true rfl⟩ ?_
      refine iw_iconst (i := 1) (v := (1 : Int32)) (pc' := 88) (by decide +kernel) ?_
      obtain ⟨m29, hc, hf⟩ := ic_bd hf
      refine iw_callV (pc' := 91) (S0 := []) (S1 := []) (c1 := 0) (s1 := 0) (k := 2) (ct_X1_laySnow l κ sw q28.2 4 cO_4 q28.1 (1 : Int32) hc) cO_4 ⟨rfl, rfl⟩ mv_X1_laySnow lkm_X8_219 ⟨rfl, rfl⟩ (ic_sum8 trivial (Nat.le_of_ble_eq_true rfl)) (by unfold ic_rm; decide +kernel) ⟨rfl, rfl, rfl⟩ ⟨Nat.le_of_ble_eq_true rfl, Nat.le_of_ble_eq_true rfl⟩ ?_
      obtain rfl := Option.some.inj hf
      exact iw_sub [] rfl hjq27
  refine iw_if_le (off := 57) (tg := 64) (pc' := 10) hf (by decide +kernel) (fun hf => ?_) (fun hf => ?_)
  · obtain rfl := Option.some.inj hf
    exact iw_sub [0] rfl hjq21
  · refine iw_aload_n (i := 0) (pc' := 11) 0 rfl (by decide +kernel) ?_
    refine iw_aload_n (i := 0) (pc' := 12) 0 rfl (by decide +kernel) ?_
    refine iw_getr (pc' := 15) (q := (ic_ld sw)) ic_fk8 cO_1 rfl lkf_X8_61 (by decide +kernel) ?_
    refine iw_geti (pc' := 18) ic_fk5 (ic_ldO sw) lkf_X8_119 (by decide +kernel) ?_
    obtain ⟨q22, hc, hf⟩ := ic_bd hf
    refine iw_callV (pc' := 21) (S0 := []) (S1 := [.int q22.1]) (c1 := 0) (s1 := 0) (k := 1) (ct_X8_draw l κ sw μ (μ (ic_ld sw) 12) hc) cO_1 ⟨rfl, rfl⟩ mv_X8_draw lkm_X8_308 ⟨rfl, rfl⟩ (ic_sum8 trivial (Nat.le_of_ble_eq_true rfl)) (by unfold ic_rm; decide +kernel) ⟨rfl, rfl, rfl⟩ ⟨Nat.le_of_ble_eq_true rfl, Nat.le_of_ble_eq_true rfl⟩ ?_
    refine iw_istore_n0 (i := 1) (pc' := 22) (L' := [(0, ic_rv κ.1 1), (1, .int q22.1)]) rfl (by decide +kernel) ?_
    refine iw_aload_n (i := 0) (pc' := 23) 0 rfl (by decide +kernel) ?_
    refine iw_aload_n (i := 0) (pc' := 24) 0 rfl (by decide +kernel) ?_
    refine iw_getr (pc' := 27) (q := (ic_ld sw)) ic_fk8 cO_1 rfl lkf_X8_61 (by decide +kernel) ?_
    refine iw_geti (pc' := 30) ic_fk5 (ic_ldO sw) lkf_X8_107 (by decide +kernel) ?_
    obtain ⟨q23, hc, hf⟩ := ic_bd hf
    refine iw_callV (pc' := 33) (S0 := []) (S1 := [.int q23.1]) (c1 := 0) (s1 := 0) (k := 1) (ct_X8_draw l κ sw q22.2 (q22.2 (ic_ld sw) 11) hc) cO_1 ⟨rfl, rfl⟩ mv_X8_draw lkm_X8_308 ⟨rfl, rfl⟩ (ic_sum8 trivial (Nat.le_of_ble_eq_true rfl)) (by unfold ic_rm; decide +kernel) ⟨rfl, rfl, rfl⟩ ⟨Nat.le_of_ble_eq_true rfl, Nat.le_of_ble_eq_true rfl⟩ ?_
    refine iw_istore_n0 (i := 2) (pc' := 34) (L' := [(0, ic_rv κ.1 1), (1, .int q22.1), (2, .int q23.1)]) rfl (by decide +kernel) ?_
    refine iw_aload_n (i := 0) (pc' := 35) 0 rfl (by decide +kernel) ?_
    refine iw_getr (pc' := 38) (q := 4) ic_fk8 cO_1 rfl lkf_X8_19 (by decide +kernel) ?_
    refine iw_aload_n (i := 0) (pc' := 39) 0 rfl (by decide +kernel) ?_
    refine iw_getr (pc' := 42) (q := (ic_ld sw)) ic_fk8 cO_1 rfl lkf_X8_61 (by decide +kernel) ?_
    refine iw_iload_n (i := 1) (pc' := 43) 1 rfl (by decide +kernel) ?_
    refine iw_iload_n (i := 2) (pc' := 44) 2 rfl (by decide +kernel) ?_
    obtain ⟨v24, hc, hf⟩ := ic_bd hf
    refine iw_callV (pc' := 47) (S0 := []) (S1 := [.int v24]) (c1 := 0) (s1 := 0) (k := 3) (ct_X1_canGo l κ sw q23.2 4 cO_4 (ic_ld sw) (ic_ldO sw) q22.1 q23.1 hc) cO_4 ⟨rfl, rfl⟩ mv_X1_canGo lkm_X8_201 ⟨rfl, rfl⟩ (ic_sum8 trivial (Nat.le_of_ble_eq_true rfl)) (by unfold ic_rm; decide +kernel) ⟨rfl, rfl, rfl⟩ ⟨Nat.le_of_ble_eq_true rfl, Nat.le_of_ble_eq_true rfl⟩ ?_
    refine iw_if_eq (off := 17) (tg := 64) (pc' := 50) hf (by decide +kernel) (fun hf => ?_) (fun hf => ?_)
    · obtain rfl := Option.some.inj hf
      exact iw_sub [0] rfl hjq21
    · refine iw_aload_n (i := 0) (pc' := 51) 0 rfl (by decide +kernel) ?_
      refine iw_getr (pc' := 54) (q := 4) ic_fk8 cO_1 rfl lkf_X8_19 (by decide +kernel) ?_
      refine iw_aload_n (i := 0) (pc' := 55) 0 rfl (by decide +kernel) ?_
      refine iw_getr (pc' := 58) (q := (ic_ld sw)) ic_fk8 cO_1 rfl lkf_X8_61 (by decide +kernel) ?_
      refine iw_iload_n (i := 1) (pc' := 59) 1 rfl (by decide +kernel) ?_
      refine iw_iload_n (i := 2) (pc' := 60) 2 rfl (by decide +kernel) ?_
      obtain ⟨q25, hc, hf⟩ := ic_bd hf
      refine iw_callV (pc' := 63) (S0 := []) (S1 := [.int q25.1]) (c1 := 0) (s1 := 0) (k := 3) (ct_X1_go l κ sw q23.2 4 cO_4 (ic_ld sw) (ic_ldO sw) q22.1 q23.1 hc) cO_4 ⟨rfl, rfl⟩ mv_X1_go lkm_X8_205 ⟨rfl, rfl⟩ (ic_sum8 trivial (Nat.le_of_ble_eq_true rfl)) (by unfold ic_rm; decide +kernel) ⟨rfl, rfl, rfl⟩ ⟨Nat.le_of_ble_eq_true rfl, Nat.le_of_ble_eq_true rfl⟩ ?_
      refine iw_pop (pc' := 64) rfl (by decide +kernel) ?_
      obtain rfl := Option.some.inj hf
      exact iw_sub [0] rfl hjq21
set_option maxRecDepth 100000 in
set_option maxHeartbeats 4000000 in
theorem lpX8_drift_25_ok (l : Launch) (κ : ic_K) (sw : Nat) (x1_ : Int32) {Z : State → List Frame → Array Value → State → Prop} {R : ic_M} (hk : ic_W l κ MX8_drift ic_X0 Z 51 [(0, ic_rv κ.1 1)] [] 106 (ic_rs sw) R 0 0) : ∀ (fu : Nat) (y3_ : Int32) (μ : ic_M), lpX8_drift_25 sw x1_ fu y3_ μ = some R → ic_W l κ MX8_drift ic_X0 Z 25 [(0, ic_rv κ.1 1), (1, .int x1_), (3, .int y3_)] [] 106 (ic_rs sw) μ 0 0 := by
  intro fu
  induction fu with
  | zero =>
    intro y3_ μ hf
    exact absurd hf (by simp [lpX8_drift_25])
  | succ fu ih =>
    intro y3_ μ hf
    rw [lpX8_drift_25] at hf
    refine iw_iload_n (i := 3) (pc' := 26) 2 rfl (by decide +kernel) ?_
    refine iw_iload_n (i := 1) (pc' := 27) 1 rfl (by decide +kernel) ?_
    refine iw_icmp_ge (off := 24) (tg := 51) (pc' := 30) hf (by decide +kernel) (fun hf => ?_) (fun hf => ?_)
    · obtain rfl := Option.some.inj hf
      exact iw_sub [0] rfl hk
    · refine iw_aload_n (i := 0) (pc' := 31) 0 rfl (by decide +kernel) ?_
      obtain ⟨m23, hc, hf⟩ := ic_bd hf
      refine iw_callV (pc' := 34) (S0 := []) (S1 := []) (c1 := 0) (s1 := 0) (k := 0) (ct_X8_wander l κ sw μ hc) cO_1 ⟨rfl, rfl⟩ mv_X8_wander lkm_X8_226 ⟨rfl, rfl⟩ (ic_sum8 trivial (Nat.le_of_ble_eq_true rfl)) (by unfold ic_rm; decide +kernel) ⟨rfl, rfl, rfl⟩ ⟨Nat.le_of_ble_eq_true rfl, Nat.le_of_ble_eq_true rfl⟩ ?_
      refine iw_aload_n (i := 0) (pc' := 35) 0 rfl (by decide +kernel) ?_
      refine iw_getr (pc' := 38) (q := 4) ic_fk8 cO_1 rfl lkf_X8_19 (by decide +kernel) ?_
      refine iw_aload_n (i := 0) (pc' := 39) 0 rfl (by decide +kernel) ?_
      refine iw_getr (pc' := 42) (q := (ic_ld sw)) ic_fk8 cO_1 rfl lkf_X8_61 (by decide +kernel) ?_
      obtain ⟨m24, hc, hf⟩ := ic_bd hf
      refine iw_callV (pc' := 45) (S0 := []) (S1 := []) (c1 := 0) (s1 := 0) (k := 1) (ct_X1_passNight l κ sw m23 4 cO_4 (ic_ld sw) (ic_ldO sw) hc) cO_4 ⟨rfl, rfl⟩ mv_X1_passNight lkm_X8_198 ⟨rfl, rfl⟩ (ic_sum8 trivial (Nat.le_of_ble_eq_true rfl)) (by unfold ic_rm; decide +kernel) ⟨rfl, rfl, rfl⟩ ⟨Nat.le_of_ble_eq_true rfl, Nat.le_of_ble_eq_true rfl⟩ ?_
      refine iw_iinc (i := 3) (d := 1) (pc' := 48) (v := (1 : Int32)) (L1 := fun x25 => [(0, ic_rv κ.1 1), (1, .int x1_), (3, .int x25)]) hf 2 rfl (fun _ => rfl) (by decide +kernel) (fun x25 hf => ?_)
      refine iw_goto (off := (-23)) (pc' := 25) (by decide +kernel) ?_
      exact iw_sub [0, 1, 2] rfl (ih _ _ hf)
set_option maxRecDepth 100000 in
set_option maxHeartbeats 4000000 in
theorem ct_X8_drift (l : Launch) (κ : ic_K) (sw : Nat) (μ : ic_M) (x1 : Int32) {R : Int32 × ic_M} (hf : fX8_drift sw μ x1 = some R) : ic_C l κ MX8_drift [ic_rv κ.1 1, .int x1] 106 (ic_rs sw) μ (some (.int R.1)) 106 (ic_rs sw) R.2 := by
  refine ic_C.of (L := [(0, ic_rv κ.1 1), (1, .int x1)]) ⟨ic_cat _ _, rfl, trivial⟩ ⟨by decide +kernel, Nat.le_of_ble_eq_true rfl⟩ rfl ?_
  unfold fX8_drift at hf
  refine iw_aload_n (i := 0) (pc' := 1) 0 rfl (by decide +kernel) ?_
  refine iw_iload_n (i := 1) (pc' := 2) 1 rfl (by decide +kernel) ?_
  obtain ⟨v21, hc, hf⟩ := ic_bd hf
  refine iw_callV (pc' := 5) (S0 := []) (S1 := [.int v21]) (c1 := 0) (s1 := 0) (k := 1) (ct_X8_refusalOfNights l κ sw μ x1 hc) cO_1 ⟨rfl, rfl⟩ mv_X8_refusalOfNights lkm_X8_191 ⟨rfl, rfl⟩ (ic_sum8 trivial (Nat.le_of_ble_eq_true rfl)) (by unfold ic_rm; decide +kernel) ⟨rfl, rfl, rfl⟩ ⟨Nat.le_of_ble_eq_true rfl, Nat.le_of_ble_eq_true rfl⟩ ?_
  refine iw_istore_n0 (i := 2) (pc' := 6) (L' := [(0, ic_rv κ.1 1), (1, .int x1), (2, .int v21)]) rfl (by decide +kernel) ?_
  refine iw_iload_n (i := 2) (pc' := 7) 2 rfl (by decide +kernel) ?_
  refine iw_if_eq (off := 5) (tg := 12) (pc' := 10) hf (by decide +kernel) (fun hf => ?_) (fun hf => ?_)
  · refine iw_aload_n (i := 0) (pc' := 13) 0 rfl (by decide +kernel) ?_
    refine iw_getr (pc' := 16) (q := 7) ic_fk8 cO_1 rfl lkf_X8_26 (by decide +kernel) ?_
    refine iw_aload_n (i := 0) (pc' := 17) 0 rfl (by decide +kernel) ?_
    refine iw_getr (pc' := 20) (q := 4) ic_fk8 cO_1 rfl lkf_X8_19 (by decide +kernel) ?_
    obtain ⟨m22, hc, hf⟩ := ic_bd hf
    refine iw_callV (pc' := 23) (S0 := []) (S1 := []) (c1 := 0) (s1 := 0) (k := 1) (ct_X3_remember l κ sw μ 4 cO_4 hc) cO_7 ⟨rfl, rfl⟩ mv_X3_remember lkm_X8_194 ⟨rfl, rfl⟩ (ic_sum8 trivial (Nat.le_of_ble_eq_true rfl)) (by unfold ic_rm; decide +kernel) ⟨rfl, rfl, rfl⟩ ⟨Nat.le_of_ble_eq_true rfl, Nat.le_of_ble_eq_true rfl⟩ ?_
    refine iw_iconst (i := 0) (v := (0 : Int32)) (pc' := 24) (by decide +kernel) ?_
    refine iw_istore_n0 (i := 3) (pc' := 25) (L' := [(0, ic_rv κ.1 1), (1, .int x1), (2, .int v21), (3, .int (0 : Int32))]) rfl (by decide +kernel) ?_
    obtain ⟨q26, hf, hgq26⟩ := ic_bd hf
    have hjq26 : ic_W l κ MX8_drift ic_X0 (ic_Z κ MX8_drift (some (.int R.1)) 106 (ic_rs sw) R.2) 51 [(0, ic_rv κ.1 1)] [] 106 (ic_rs sw) q26 0 0 := by
      have hf := hgq26
      refine iw_aload_n (i := 0) (pc' := 52) 0 rfl (by decide +kernel) ?_
      refine iw_getr (pc' := 55) (q := 4) ic_fk8 cO_1 rfl lkf_X8_19 (by decide +kernel) ?_
      refine iw_geti (pc' := 58) ic_fk1 cO_4 lkf_X8_141 (by decide +kernel) ?_
      exact iw_ireturn (ic_q1 (Option.some.inj hf)) rfl (ic_q2 (Option.some.inj hf)) (by decide +kernel)
    exact iw_sub [0, 1, 3] rfl (lpX8_drift_25_ok l κ sw x1 hjq26 1000 (0 : Int32) m22 hf)
  · refine iw_iload_n (i := 2) (pc' := 11) 2 rfl (by decide +kernel) ?_
    exact iw_ireturn (ic_q1 (Option.some.inj hf)) rfl (ic_q2 (Option.some.inj hf)) (by decide +kernel)
set_option maxRecDepth 100000 in
set_option maxHeartbeats 4000000 in
theorem ct_X8_undo (l : Launch) (κ : ic_K) (sw : Nat) (μ : ic_M) {R : Int32 × ic_M} (hf : fX8_undo sw μ = some R) : ic_C l κ MX8_undo [ic_rv κ.1 1] 106 (ic_rs sw) μ (some (.int R.1)) 106 (ic_rs sw) R.2 := by
  refine ic_C.of (L := [(0, ic_rv κ.1 1)]) ⟨ic_cat _ _, trivial⟩ ⟨by decide +kernel, Nat.le_of_ble_eq_true rfl⟩ rfl ?_
  unfold fX8_undo at hf
  refine iw_aload_n (i := 0) (pc' := 1) 0 rfl (by decide +kernel) ?_
  refine iw_getr (pc' := 4) (q := 7) ic_fk8 cO_1 rfl lkf_X8_26 (by decide +kernel) ?_
  refine iw_aload_n (i := 0) (pc' := 5) 0 rfl (by decide +kernel) ?_
  refine iw_getr (pc' := 8) (q := 4) ic_fk8 cO_1 rfl lkf_X8_19 (by decide +kernel) ?_
  obtain ⟨q21, hc, hf⟩ := ic_bd hf
  refine iw_callV (pc' := 11) (S0 := []) (S1 := [.int q21.1]) (c1 := 0) (s1 := 0) (k := 1) (ct_X3_restore l κ sw μ 4 cO_4 hc) cO_7 ⟨rfl, rfl⟩ mv_X3_restore lkm_X8_229 ⟨rfl, rfl⟩ (ic_sum8 trivial (Nat.le_of_ble_eq_true rfl)) (by unfold ic_rm; decide +kernel) ⟨rfl, rfl, rfl⟩ ⟨Nat.le_of_ble_eq_true rfl, Nat.le_of_ble_eq_true rfl⟩ ?_
  obtain ⟨q22, hf, hgq22⟩ := ic_bd hf
  have hjq22 : ic_W l κ MX8_undo ic_X0 (ic_Z κ MX8_undo (some (.int R.1)) 106 (ic_rs sw) R.2) 26 [] [.int q22] 106 (ic_rs sw) q21.2 0 0 := by
    have hf := hgq22
    exact iw_ireturn (ic_q1 (Option.some.inj hf)) rfl (ic_q2 (Option.some.inj hf)) (by decide +kernel)
  refine iw_if_eq (off := 13) (tg := 24) (pc' := 14) hf (by decide +kernel) (fun hf => ?_) (fun hf => ?_)
  · refine iw_ldc (pc' := 26) lkc_X8_187 (by decide +kernel) ?_
    obtain rfl := Option.some.inj hf
    exact iw_sub [] rfl hjq22
  · refine iw_aload_n (i := 0) (pc' := 15) 0 rfl (by decide +kernel) ?_
    refine iw_getr (pc' := 18) (q := 7) ic_fk8 cO_1 rfl lkf_X8_26 (by decide +kernel) ?_
    refine iw_geti (pc' := 21) ic_fk3 cO_7 lkf_X8_102 (by decide +kernel) ?_
    refine iw_goto (off := 5) (pc' := 26) (by decide +kernel) ?_
    obtain rfl := Option.some.inj hf
    exact iw_sub [] rfl hjq22
set_option maxRecDepth 100000 in
set_option maxHeartbeats 4000000 in
theorem ct_X8_then (l : Launch) (κ : ic_K) (sw : Nat) (μ : ic_M) (x1 : Int32) (x2 : Int32) {R : Int32} (hf : fX8_then sw μ x1 x2 = some R) : ic_C l κ MX8_then [ic_rv κ.1 1, .int x1, .int x2] 106 (ic_rs sw) μ (some (.int R)) 106 (ic_rs sw) μ := by
  refine ic_C.of (L := [(0, ic_rv κ.1 1), (1, .int x1), (2, .int x2)]) ⟨ic_cat _ _, rfl, rfl, trivial⟩ ⟨by decide +kernel, Nat.le_of_ble_eq_true rfl⟩ rfl ?_
  unfold fX8_then at hf
  refine iw_aload_n (i := 0) (pc' := 1) 0 rfl (by decide +kernel) ?_
  refine iw_iload_n (i := 1) (pc' := 2) 1 rfl (by decide +kernel) ?_
  obtain ⟨v21, hc, hf⟩ := ic_bd hf
  refine iw_callV (pc' := 5) (S0 := []) (S1 := [.int v21]) (c1 := 0) (s1 := 0) (k := 1) (ct_X8_isCell l κ sw μ x1 hc) cO_1 ⟨rfl, rfl⟩ mv_X8_isCell lkm_X8_147 ⟨rfl, rfl⟩ (ic_sum8 trivial (Nat.le_of_ble_eq_true rfl)) (by unfold ic_rm; decide +kernel) ⟨rfl, rfl, rfl⟩ ⟨Nat.le_of_ble_eq_true rfl, Nat.le_of_ble_eq_true rfl⟩ ?_
  refine iw_if_ne (off := 6) (tg := 11) (pc' := 8) hf (by decide +kernel) (fun hf => ?_) (fun hf => ?_)
  · refine iw_iload_n (i := 2) (pc' := 12) 2 rfl (by decide +kernel) ?_
    refine iw_iconst (i := 0) (v := (0 : Int32)) (pc' := 13) (by decide +kernel) ?_
    refine iw_bipush (i := 60) (v := (60 : Int32)) (pc' := 15) (by decide +kernel) ?_
    obtain ⟨v22, hc, hf⟩ := ic_bd hf
    refine iw_callS (pc' := 18) (S0 := []) (S1 := [.int v22]) (c1 := 0) (s1 := 0) (k := 3) (ct_X8_isWithin l κ sw μ x2 (0 : Int32) (60 : Int32) hc) ms_X8_isWithin lkm_X8_78 ⟨rfl, rfl⟩ (ic_sum8 trivial (Nat.le_of_ble_eq_true rfl)) (by unfold ic_rm; decide +kernel) ⟨rfl, rfl, rfl⟩ ⟨Nat.le_of_ble_eq_true rfl, Nat.le_of_ble_eq_true rfl⟩ ?_
    refine iw_if_ne (off := 6) (tg := 24) (pc' := 21) hf (by decide +kernel) (fun hf => ?_) (fun hf => ?_)
    · refine iw_aload_n (i := 0) (pc' := 25) 0 rfl (by decide +kernel) ?_
      refine iw_getr (pc' := 28) (q := 57) ic_fk8 cO_1 rfl lkf_X8_33 (by decide +kernel) ?_
      refine iw_aload_n (i := 0) (pc' := 29) 0 rfl (by decide +kernel) ?_
      refine iw_getr (pc' := 32) (q := (ic_ld sw)) ic_fk8 cO_1 rfl lkf_X8_61 (by decide +kernel) ?_
      refine iw_aload_n (i := 0) (pc' := 33) 0 rfl (by decide +kernel) ?_
      refine iw_getr (pc' := 36) (q := 4) ic_fk8 cO_1 rfl lkf_X8_19 (by decide +kernel) ?_
      refine iw_iload_n (i := 1) (pc' := 37) 1 rfl (by decide +kernel) ?_
      refine iw_iload_n (i := 2) (pc' := 38) 2 rfl (by decide +kernel) ?_
      obtain ⟨v23, hc, hf⟩ := ic_bd hf
      refine iw_callV (pc' := 41) (S0 := []) (S1 := [.int v23]) (c1 := 0) (s1 := 0) (k := 4) (ct_X7_inchesBehind l κ sw μ (ic_ld sw) (ic_ldO sw) 4 cO_4 x1 x2 hc) cO_57 ⟨rfl, rfl⟩ mv_X7_inchesBehind lkm_X8_233 ⟨rfl, rfl⟩ (ic_sum8 trivial (Nat.le_of_ble_eq_true rfl)) (by unfold ic_rm; decide +kernel) ⟨rfl, rfl, rfl⟩ ⟨Nat.le_of_ble_eq_true rfl, Nat.le_of_ble_eq_true rfl⟩ ?_
      exact iw_ireturn (Option.some.inj hf) rfl rfl (by decide +kernel)
    · refine iw_ldc (pc' := 23) lkc_X8_82 (by decide +kernel) ?_
      exact iw_ireturn (Option.some.inj hf) rfl rfl (by decide +kernel)
  · refine iw_ldc (pc' := 10) lkc_X8_150 (by decide +kernel) ?_
    exact iw_ireturn (Option.some.inj hf) rfl rfl (by decide +kernel)
set_option maxRecDepth 100000 in
set_option maxHeartbeats 4000000 in
theorem ct_X8_when (l : Launch) (κ : ic_K) (sw : Nat) (μ : ic_M) (x1 : Int32) (x2 : Int32) {R : Int32} (hf : fX8_when sw μ x1 x2 = some R) : ic_C l κ MX8_when [ic_rv κ.1 1, .int x1, .int x2] 106 (ic_rs sw) μ (some (.int R)) 106 (ic_rs sw) μ := by
  refine ic_C.of (L := [(0, ic_rv κ.1 1), (1, .int x1), (2, .int x2)]) ⟨ic_cat _ _, rfl, rfl, trivial⟩ ⟨by decide +kernel, Nat.le_of_ble_eq_true rfl⟩ rfl ?_
  unfold fX8_when at hf
  refine iw_aload_n (i := 0) (pc' := 1) 0 rfl (by decide +kernel) ?_
  refine iw_iload_n (i := 1) (pc' := 2) 1 rfl (by decide +kernel) ?_
  obtain ⟨v21, hc, hf⟩ := ic_bd hf
  refine iw_callV (pc' := 5) (S0 := []) (S1 := [.int v21]) (c1 := 0) (s1 := 0) (k := 1) (ct_X8_isCell l κ sw μ x1 hc) cO_1 ⟨rfl, rfl⟩ mv_X8_isCell lkm_X8_147 ⟨rfl, rfl⟩ (ic_sum8 trivial (Nat.le_of_ble_eq_true rfl)) (by unfold ic_rm; decide +kernel) ⟨rfl, rfl, rfl⟩ ⟨Nat.le_of_ble_eq_true rfl, Nat.le_of_ble_eq_true rfl⟩ ?_
  refine iw_if_ne (off := 6) (tg := 11) (pc' := 8) hf (by decide +kernel) (fun hf => ?_) (fun hf => ?_)
  · refine iw_iload_n (i := 2) (pc' := 12) 2 rfl (by decide +kernel) ?_
    refine iw_iconst (i := 1) (v := (1 : Int32)) (pc' := 13) (by decide +kernel) ?_
    refine iw_sipush (i := 999) (v := (999 : Int32)) (pc' := 16) (by decide +kernel) ?_
    obtain ⟨v22, hc, hf⟩ := ic_bd hf
    refine iw_callS (pc' := 19) (S0 := []) (S1 := [.int v22]) (c1 := 0) (s1 := 0) (k := 3) (ct_X8_isWithin l κ sw μ x2 (1 : Int32) (999 : Int32) hc) ms_X8_isWithin lkm_X8_78 ⟨rfl, rfl⟩ (ic_sum8 trivial (Nat.le_of_ble_eq_true rfl)) (by unfold ic_rm; decide +kernel) ⟨rfl, rfl, rfl⟩ ⟨Nat.le_of_ble_eq_true rfl, Nat.le_of_ble_eq_true rfl⟩ ?_
    obtain ⟨q23, hf, hgq23⟩ := ic_bd hf
    have hjq23 : ic_W l κ MX8_when ic_X0 (ic_Z κ MX8_when (some (.int R)) 106 (ic_rs sw) μ) 45 [] [.int q23] 106 (ic_rs sw) μ 0 0 := by
      have hf := hgq23
      exact iw_ireturn (Option.some.inj hf) rfl rfl (by decide +kernel)
    refine iw_if_eq (off := 24) (tg := 43) (pc' := 22) hf (by decide +kernel) (fun hf => ?_) (fun hf => ?_)
    · refine iw_ldc (pc' := 45) lkc_X8_82 (by decide +kernel) ?_
      obtain rfl := Option.some.inj hf
      exact iw_sub [] rfl hjq23
    · refine iw_aload_n (i := 0) (pc' := 23) 0 rfl (by decide +kernel) ?_
      refine iw_getr (pc' := 26) (q := 57) ic_fk8 cO_1 rfl lkf_X8_33 (by decide +kernel) ?_
      refine iw_aload_n (i := 0) (pc' := 27) 0 rfl (by decide +kernel) ?_
      refine iw_getr (pc' := 30) (q := (ic_ld sw)) ic_fk8 cO_1 rfl lkf_X8_61 (by decide +kernel) ?_
      refine iw_aload_n (i := 0) (pc' := 31) 0 rfl (by decide +kernel) ?_
      refine iw_getr (pc' := 34) (q := 4) ic_fk8 cO_1 rfl lkf_X8_19 (by decide +kernel) ?_
      refine iw_iload_n (i := 1) (pc' := 35) 1 rfl (by decide +kernel) ?_
      refine iw_iload_n (i := 2) (pc' := 36) 2 rfl (by decide +kernel) ?_
      refine iw_iconst (i := 1) (v := (1 : Int32)) (pc' := 37) (by decide +kernel) ?_
      obtain ⟨v24, hc, hf⟩ := ic_bd hf
      refine iw_callV (pc' := 40) (S0 := []) (S1 := [.int v24]) (c1 := 0) (s1 := 0) (k := 5) (ct_X7_firstNight l κ sw μ (ic_ld sw) (ic_ldO sw) 4 cO_4 x1 x2 (1 : Int32) hc) cO_57 ⟨rfl, rfl⟩ mv_X7_firstNight lkm_X8_237 ⟨rfl, rfl⟩ (ic_sum8 trivial (Nat.le_of_ble_eq_true rfl)) (by unfold ic_rm; decide +kernel) ⟨rfl, rfl, rfl⟩ ⟨Nat.le_of_ble_eq_true rfl, Nat.le_of_ble_eq_true rfl⟩ ?_
      refine iw_goto (off := 5) (pc' := 45) (by decide +kernel) ?_
      obtain rfl := Option.some.inj hf
      exact iw_sub [] rfl hjq23
  · refine iw_ldc (pc' := 10) lkc_X8_150 (by decide +kernel) ?_
    exact iw_ireturn (Option.some.inj hf) rfl rfl (by decide +kernel)
set_option maxRecDepth 100000 in
set_option maxHeartbeats 4000000 in
theorem ct_X8_noMore (l : Launch) (κ : ic_K) (sw : Nat) (μ : ic_M) (x1 : Int32) (x2 : Int32) {R : Int32} (hf : fX8_noMore sw μ x1 x2 = some R) : ic_C l κ MX8_noMore [ic_rv κ.1 1, .int x1, .int x2] 106 (ic_rs sw) μ (some (.int R)) 106 (ic_rs sw) μ := by
  refine ic_C.of (L := [(0, ic_rv κ.1 1), (1, .int x1), (2, .int x2)]) ⟨ic_cat _ _, rfl, rfl, trivial⟩ ⟨by decide +kernel, Nat.le_of_ble_eq_true rfl⟩ rfl ?_
  unfold fX8_noMore at hf
  refine iw_aload_n (i := 0) (pc' := 1) 0 rfl (by decide +kernel) ?_
  refine iw_iload_n (i := 1) (pc' := 2) 1 rfl (by decide +kernel) ?_
  obtain ⟨v21, hc, hf⟩ := ic_bd hf
  refine iw_callV (pc' := 5) (S0 := []) (S1 := [.int v21]) (c1 := 0) (s1 := 0) (k := 1) (ct_X8_isCell l κ sw μ x1 hc) cO_1 ⟨rfl, rfl⟩ mv_X8_isCell lkm_X8_147 ⟨rfl, rfl⟩ (ic_sum8 trivial (Nat.le_of_ble_eq_true rfl)) (by unfold ic_rm; decide +kernel) ⟨rfl, rfl, rfl⟩ ⟨Nat.le_of_ble_eq_true rfl, Nat.le_of_ble_eq_true rfl⟩ ?_
  refine iw_if_ne (off := 6) (tg := 11) (pc' := 8) hf (by decide +kernel) (fun hf => ?_) (fun hf => ?_)
  · refine iw_iload_n (i := 2) (pc' := 12) 2 rfl (by decide +kernel) ?_
    refine iw_iconst (i := 1) (v := (1 : Int32)) (pc' := 13) (by decide +kernel) ?_
    refine iw_sipush (i := 999) (v := (999 : Int32)) (pc' := 16) (by decide +kernel) ?_
    obtain ⟨v22, hc, hf⟩ := ic_bd hf
    refine iw_callS (pc' := 19) (S0 := []) (S1 := [.int v22]) (c1 := 0) (s1 := 0) (k := 3) (ct_X8_isWithin l κ sw μ x2 (1 : Int32) (999 : Int32) hc) ms_X8_isWithin lkm_X8_78 ⟨rfl, rfl⟩ (ic_sum8 trivial (Nat.le_of_ble_eq_true rfl)) (by unfold ic_rm; decide +kernel) ⟨rfl, rfl, rfl⟩ ⟨Nat.le_of_ble_eq_true rfl, Nat.le_of_ble_eq_true rfl⟩ ?_
    obtain ⟨q23, hf, hgq23⟩ := ic_bd hf
    have hjq23 : ic_W l κ MX8_noMore ic_X0 (ic_Z κ MX8_noMore (some (.int R)) 106 (ic_rs sw) μ) 45 [] [.int q23] 106 (ic_rs sw) μ 0 0 := by
      have hf := hgq23
      exact iw_ireturn (Option.some.inj hf) rfl rfl (by decide +kernel)
    refine iw_if_eq (off := 24) (tg := 43) (pc' := 22) hf (by decide +kernel) (fun hf => ?_) (fun hf => ?_)
    · refine iw_ldc (pc' := 45) lkc_X8_82 (by decide +kernel) ?_
      obtain rfl := Option.some.inj hf
      exact iw_sub [] rfl hjq23
    · refine iw_aload_n (i := 0) (pc' := 23) 0 rfl (by decide +kernel) ?_
      refine iw_getr (pc' := 26) (q := 57) ic_fk8 cO_1 rfl lkf_X8_33 (by decide +kernel) ?_
      refine iw_aload_n (i := 0) (pc' := 27) 0 rfl (by decide +kernel) ?_
      refine iw_getr (pc' := 30) (q := (ic_ld sw)) ic_fk8 cO_1 rfl lkf_X8_61 (by decide +kernel) ?_
      refine iw_aload_n (i := 0) (pc' := 31) 0 rfl (by decide +kernel) ?_
      refine iw_getr (pc' := 34) (q := 4) ic_fk8 cO_1 rfl lkf_X8_19 (by decide +kernel) ?_
      refine iw_iload_n (i := 1) (pc' := 35) 1 rfl (by decide +kernel) ?_
      refine iw_iload_n (i := 2) (pc' := 36) 2 rfl (by decide +kernel) ?_
      refine iw_iconst (i := 0) (v := (0 : Int32)) (pc' := 37) (by decide +kernel) ?_
      obtain ⟨v24, hc, hf⟩ := ic_bd hf
      refine iw_callV (pc' := 40) (S0 := []) (S1 := [.int v24]) (c1 := 0) (s1 := 0) (k := 5) (ct_X7_firstNight l κ sw μ (ic_ld sw) (ic_ldO sw) 4 cO_4 x1 x2 (0 : Int32) hc) cO_57 ⟨rfl, rfl⟩ mv_X7_firstNight lkm_X8_237 ⟨rfl, rfl⟩ (ic_sum8 trivial (Nat.le_of_ble_eq_true rfl)) (by unfold ic_rm; decide +kernel) ⟨rfl, rfl, rfl⟩ ⟨Nat.le_of_ble_eq_true rfl, Nat.le_of_ble_eq_true rfl⟩ ?_
      refine iw_goto (off := 5) (pc' := 45) (by decide +kernel) ?_
      obtain rfl := Option.some.inj hf
      exact iw_sub [] rfl hjq23
  · refine iw_ldc (pc' := 10) lkc_X8_150 (by decide +kernel) ?_
    exact iw_ireturn (Option.some.inj hf) rfl rfl (by decide +kernel)
set_option maxRecDepth 100000 in
set_option maxHeartbeats 4000000 in
theorem ct_X8_refusalOfPerson (l : Launch) (κ : ic_K) (sw : Nat) (μ : ic_M) (x1 : Int32) (x2 : Int32) {R : Int32} (hf : fX8_refusalOfPerson sw μ x1 x2 = some R) : ic_C l κ MX8_refusalOfPerson [ic_rv κ.1 1, .int x1, .int x2] 106 (ic_rs sw) μ (some (.int R)) 106 (ic_rs sw) μ := by
  refine ic_C.of (L := [(0, ic_rv κ.1 1), (1, .int x1), (2, .int x2)]) ⟨ic_cat _ _, rfl, rfl, trivial⟩ ⟨by decide +kernel, Nat.le_of_ble_eq_true rfl⟩ rfl ?_
  unfold fX8_refusalOfPerson at hf
  refine iw_aload_n (i := 0) (pc' := 1) 0 rfl (by decide +kernel) ?_
  refine iw_iload_n (i := 1) (pc' := 2) 1 rfl (by decide +kernel) ?_
  obtain ⟨v21, hc, hf⟩ := ic_bd hf
  refine iw_callV (pc' := 5) (S0 := []) (S1 := [.int v21]) (c1 := 0) (s1 := 0) (k := 1) (ct_X8_isPerson l κ sw μ x1 hc) cO_1 ⟨rfl, rfl⟩ mv_X8_isPerson lkm_X8_171 ⟨rfl, rfl⟩ (ic_sum8 trivial (Nat.le_of_ble_eq_true rfl)) (by unfold ic_rm; decide +kernel) ⟨rfl, rfl, rfl⟩ ⟨Nat.le_of_ble_eq_true rfl, Nat.le_of_ble_eq_true rfl⟩ ?_
  refine iw_if_ne (off := 6) (tg := 11) (pc' := 8) hf (by decide +kernel) (fun hf => ?_) (fun hf => ?_)
  · refine iw_iload_n (i := 2) (pc' := 12) 2 rfl (by decide +kernel) ?_
    refine iw_iconst (i := 0) (v := (0 : Int32)) (pc' := 13) (by decide +kernel) ?_
    refine iw_iconst (i := 1) (v := (1 : Int32)) (pc' := 14) (by decide +kernel) ?_
    obtain ⟨v22, hc, hf⟩ := ic_bd hf
    refine iw_callS (pc' := 17) (S0 := []) (S1 := [.int v22]) (c1 := 0) (s1 := 0) (k := 3) (ct_X8_isWithin l κ sw μ x2 (0 : Int32) (1 : Int32) hc) ms_X8_isWithin lkm_X8_78 ⟨rfl, rfl⟩ (ic_sum8 trivial (Nat.le_of_ble_eq_true rfl)) (by unfold ic_rm; decide +kernel) ⟨rfl, rfl, rfl⟩ ⟨Nat.le_of_ble_eq_true rfl, Nat.le_of_ble_eq_true rfl⟩ ?_
    refine iw_if_ne (off := 6) (tg := 23) (pc' := 20) hf (by decide +kernel) (fun hf => ?_) (fun hf => ?_)
    · refine iw_aload_n (i := 0) (pc' := 24) 0 rfl (by decide +kernel) ?_
      refine iw_getr (pc' := 27) (q := 4) ic_fk8 cO_1 rfl lkf_X8_19 (by decide +kernel) ?_
      refine iw_iload_n (i := 1) (pc' := 28) 1 rfl (by decide +kernel) ?_
      obtain ⟨v23, hc, hf⟩ := ic_bd hf
      refine iw_callV (pc' := 31) (S0 := []) (S1 := [.int v23]) (c1 := 0) (s1 := 0) (k := 1) (ct_X1_placeOf l κ sw μ 4 cO_4 x1 hc) cO_4 ⟨rfl, rfl⟩ mv_X1_placeOf lkm_X8_180 ⟨rfl, rfl⟩ (ic_sum8 trivial (Nat.le_of_ble_eq_true rfl)) (by unfold ic_rm; decide +kernel) ⟨rfl, rfl, rfl⟩ ⟨Nat.le_of_ble_eq_true rfl, Nat.le_of_ble_eq_true rfl⟩ ?_
      refine iw_bipush (i := (-2)) (v := (-2 : Int32)) (pc' := 33) (by decide +kernel) ?_
      obtain ⟨q24, hf, hgq24⟩ := ic_bd hf
      have hjq24 : ic_W l κ MX8_refusalOfPerson ic_X0 (ic_Z κ MX8_refusalOfPerson (some (.int R)) 106 (ic_rs sw) μ) 42 [] [.int q24] 106 (ic_rs sw) μ 0 0 := by
        have hf := hgq24
        exact iw_ireturn (Option.some.inj hf) rfl rfl (by decide +kernel)
      refine iw_icmp_ne (off := 8) (tg := 41) (pc' := 36) hf (by decide +kernel) (fun hf => ?_) (fun hf => ?_)
      · refine iw_iconst (i := 0) (v := (0 : Int32)) (pc' := 42) (by decide +kernel) ?_
        obtain rfl := Option.some.inj hf
        exact iw_sub [] rfl hjq24
      · refine iw_ldc (pc' := 38) lkc_X8_187 (by decide +kernel) ?_
        refine iw_goto (off := 4) (pc' := 42) (by decide +kernel) ?_
        obtain rfl := Option.some.inj hf
        exact iw_sub [] rfl hjq24
    · refine iw_ldc (pc' := 22) lkc_X8_82 (by decide +kernel) ?_
      exact iw_ireturn (Option.some.inj hf) rfl rfl (by decide +kernel)
  · refine iw_ldc (pc' := 10) lkc_X8_150 (by decide +kernel) ?_
    exact iw_ireturn (Option.some.inj hf) rfl rfl (by decide +kernel)
set_option maxRecDepth 100000 in
set_option maxHeartbeats 4000000 in
theorem ct_X8_over (l : Launch) (κ : ic_K) (sw : Nat) (μ : ic_M) (x1 : Int32) (x2 : Int32) {R : Int32 × ic_M} (hf : fX8_over sw μ x1 x2 = some R) : ic_C l κ MX8_over [ic_rv κ.1 1, .int x1, .int x2] 106 (ic_rs sw) μ (some (.int R.1)) 106 (ic_rs sw) R.2 := by
  refine ic_C.of (L := [(0, ic_rv κ.1 1), (1, .int x1), (2, .int x2)]) ⟨ic_cat _ _, rfl, rfl, trivial⟩ ⟨by decide +kernel, Nat.le_of_ble_eq_true rfl⟩ rfl ?_
  unfold fX8_over at hf
  refine iw_aload_n (i := 0) (pc' := 1) 0 rfl (by decide +kernel) ?_
  refine iw_iload_n (i := 1) (pc' := 2) 1 rfl (by decide +kernel) ?_
  refine iw_iload_n (i := 2) (pc' := 3) 2 rfl (by decide +kernel) ?_
  obtain ⟨v21, hc, hf⟩ := ic_bd hf
  refine iw_callV (pc' := 6) (S0 := []) (S1 := [.int v21]) (c1 := 0) (s1 := 0) (k := 2) (ct_X8_refusalOfPerson l κ sw μ x1 x2 hc) cO_1 ⟨rfl, rfl⟩ mv_X8_refusalOfPerson lkm_X8_241 ⟨rfl, rfl⟩ (ic_sum8 trivial (Nat.le_of_ble_eq_true rfl)) (by unfold ic_rm; decide +kernel) ⟨rfl, rfl, rfl⟩ ⟨Nat.le_of_ble_eq_true rfl, Nat.le_of_ble_eq_true rfl⟩ ?_
  refine iw_istore_n0 (i := 3) (pc' := 7) (L' := [(0, ic_rv κ.1 1), (1, .int x1), (2, .int x2), (3, .int v21)]) rfl (by decide +kernel) ?_
  refine iw_iload_n (i := 3) (pc' := 8) 3 rfl (by decide +kernel) ?_
  obtain ⟨q22, hf, hgq22⟩ := ic_bd hf
  have hjq22 : ic_W l κ MX8_over ic_X0 (ic_Z κ MX8_over (some (.int R.1)) 106 (ic_rs sw) R.2) 41 [] [.int q22.1] 106 (ic_rs sw) q22.2 0 0 := by
    have hf := hgq22
    exact iw_ireturn (ic_q1 (Option.some.inj hf)) rfl (ic_q2 (Option.some.inj hf)) (by decide +kernel)
  refine iw_if_eq (off := 7) (tg := 15) (pc' := 11) hf (by decide +kernel) (fun hf => ?_) (fun hf => ?_)
  · refine iw_aload_n (i := 0) (pc' := 16) 0 rfl (by decide +kernel) ?_
    refine iw_getr (pc' := 19) (q := 57) ic_fk8 cO_1 rfl lkf_X8_33 (by decide +kernel) ?_
    refine iw_aload_n (i := 0) (pc' := 20) 0 rfl (by decide +kernel) ?_
    refine iw_getr (pc' := 23) (q := (ic_ld sw)) ic_fk8 cO_1 rfl lkf_X8_61 (by decide +kernel) ?_
    refine iw_aload_n (i := 0) (pc' := 24) 0 rfl (by decide +kernel) ?_
    refine iw_getr (pc' := 27) (q := 4) ic_fk8 cO_1 rfl lkf_X8_19 (by decide +kernel) ?_
    refine iw_iload_n (i := 1) (pc' := 28) 1 rfl (by decide +kernel) ?_
    refine iw_iload_n (i := 2) (pc' := 29) 2 rfl (by decide +kernel) ?_
    refine iw_iconst (i := 1) (v := (1 : Int32)) (pc' := 30) (by decide +kernel) ?_
    obtain ⟨q23, hf, hgq23⟩ := ic_bd hf
    have hjq23 : ic_W l κ MX8_over ic_X0 (ic_Z κ MX8_over (some (.int R.1)) 106 (ic_rs sw) R.2) 38 [] [.int q23, .int x1, ic_rv κ.1 4, ic_rv κ.1 (ic_ld sw), ic_rv κ.1 57] 106 (ic_rs sw) μ 0 0 := by
      have hf := hgq23
      obtain ⟨q24, hc, hf⟩ := ic_bd hf
      refine iw_callV (pc' := 41) (S0 := []) (S1 := [.int q24.1]) (c1 := 0) (s1 := 0) (k := 4) (ct_X7_wayOver l κ sw μ (ic_ld sw) (ic_ldO sw) 4 cO_4 x1 q23 hc) cO_57 ⟨rfl, rfl⟩ mv_X7_wayOver lkm_X8_245 ⟨rfl, rfl⟩ (ic_sum8 trivial (Nat.le_of_ble_eq_true rfl)) (by unfold ic_rm; decide +kernel) ⟨rfl, rfl, rfl⟩ ⟨Nat.le_of_ble_eq_true rfl, Nat.le_of_ble_eq_true rfl⟩ ?_
      obtain rfl := Option.some.inj hf
      exact iw_sub [] rfl hjq22
    refine iw_icmp_ne (off := 7) (tg := 37) (pc' := 33) hf (by decide +kernel) (fun hf => ?_) (fun hf => ?_)
    · refine iw_iconst (i := 0) (v := (0 : Int32)) (pc' := 38) (by decide +kernel) ?_
      obtain rfl := Option.some.inj hf
      exact iw_sub [] rfl hjq23
    · refine iw_iconst (i := 1) (v := (1 : Int32)) (pc' := 34) (by decide +kernel) ?_
      refine iw_goto (off := 4) (pc' := 38) (by decide +kernel) ?_
      obtain rfl := Option.some.inj hf
      exact iw_sub [] rfl hjq23
  · refine iw_iload_n (i := 3) (pc' := 12) 3 rfl (by decide +kernel) ?_
    refine iw_goto (off := 29) (pc' := 41) (by decide +kernel) ?_
    obtain rfl := Option.some.inj hf
    exact iw_sub [] rfl hjq22
set_option maxRecDepth 100000 in
set_option maxHeartbeats 4000000 in
theorem ct_X8_fewest (l : Launch) (κ : ic_K) (sw : Nat) (μ : ic_M) (x1 : Int32) {R : Int32 × ic_M} (hf : fX8_fewest sw μ x1 = some R) : ic_C l κ MX8_fewest [ic_rv κ.1 1, .int x1] 106 (ic_rs sw) μ (some (.int R.1)) 106 (ic_rs sw) R.2 := by
  refine ic_C.of (L := [(0, ic_rv κ.1 1), (1, .int x1)]) ⟨ic_cat _ _, rfl, trivial⟩ ⟨by decide +kernel, Nat.le_of_ble_eq_true rfl⟩ rfl ?_
  unfold fX8_fewest at hf
  refine iw_aload_n (i := 0) (pc' := 1) 0 rfl (by decide +kernel) ?_
  refine iw_iload_n (i := 1) (pc' := 2) 1 rfl (by decide +kernel) ?_
  obtain ⟨v21, hc, hf⟩ := ic_bd hf
  refine iw_callV (pc' := 5) (S0 := []) (S1 := [.int v21]) (c1 := 0) (s1 := 0) (k := 1) (ct_X8_isCell l κ sw μ x1 hc) cO_1 ⟨rfl, rfl⟩ mv_X8_isCell lkm_X8_147 ⟨rfl, rfl⟩ (ic_sum8 trivial (Nat.le_of_ble_eq_true rfl)) (by unfold ic_rm; decide +kernel) ⟨rfl, rfl, rfl⟩ ⟨Nat.le_of_ble_eq_true rfl, Nat.le_of_ble_eq_true rfl⟩ ?_
  refine iw_if_ne (off := 6) (tg := 11) (pc' := 8) hf (by decide +kernel) (fun hf => ?_) (fun hf => ?_)
  · refine iw_aload_n (i := 0) (pc' := 12) 0 rfl (by decide +kernel) ?_
    refine iw_getr (pc' := 15) (q := 4) ic_fk8 cO_1 rfl lkf_X8_19 (by decide +kernel) ?_
    refine iw_iload_n (i := 1) (pc' := 16) 1 rfl (by decide +kernel) ?_
    obtain ⟨v22, hc, hf⟩ := ic_bd hf
    refine iw_callV (pc' := 19) (S0 := []) (S1 := [.int v22]) (c1 := 0) (s1 := 0) (k := 1) (ct_X1_isHole l κ sw μ 4 cO_4 x1 hc) cO_4 ⟨rfl, rfl⟩ mv_X1_isHole lkm_X8_209 ⟨rfl, rfl⟩ (ic_sum8 trivial (Nat.le_of_ble_eq_true rfl)) (by unfold ic_rm; decide +kernel) ⟨rfl, rfl, rfl⟩ ⟨Nat.le_of_ble_eq_true rfl, Nat.le_of_ble_eq_true rfl⟩ ?_
    obtain ⟨q23, hf, hgq23⟩ := ic_bd hf
    have hjq23 : ic_W l κ MX8_fewest ic_X0 (ic_Z κ MX8_fewest (some (.int R.1)) 106 (ic_rs sw) R.2) 43 [] [.int q23.1] 106 (ic_rs sw) q23.2 0 0 := by
      have hf := hgq23
      exact iw_ireturn (ic_q1 (Option.some.inj hf)) rfl (ic_q2 (Option.some.inj hf)) (by decide +kernel)
    refine iw_if_eq (off := 8) (tg := 27) (pc' := 22) hf (by decide +kernel) (fun hf => ?_) (fun hf => ?_)
    · refine iw_aload_n (i := 0) (pc' := 28) 0 rfl (by decide +kernel) ?_
      refine iw_getr (pc' := 31) (q := 57) ic_fk8 cO_1 rfl lkf_X8_33 (by decide +kernel) ?_
      refine iw_aload_n (i := 0) (pc' := 32) 0 rfl (by decide +kernel) ?_
      refine iw_getr (pc' := 35) (q := (ic_ld sw)) ic_fk8 cO_1 rfl lkf_X8_61 (by decide +kernel) ?_
      refine iw_aload_n (i := 0) (pc' := 36) 0 rfl (by decide +kernel) ?_
      refine iw_getr (pc' := 39) (q := 4) ic_fk8 cO_1 rfl lkf_X8_19 (by decide +kernel) ?_
      refine iw_iload_n (i := 1) (pc' := 40) 1 rfl (by decide +kernel) ?_
      obtain ⟨q24, hc, hf⟩ := ic_bd hf
      refine iw_callV (pc' := 43) (S0 := []) (S1 := [.int q24.1]) (c1 := 0) (s1 := 0) (k := 3) (ct_X7_fewestOn l κ sw μ (ic_ld sw) (ic_ldO sw) 4 cO_4 x1 hc) cO_57 ⟨rfl, rfl⟩ mv_X7_fewestOn lkm_X8_249 ⟨rfl, rfl⟩ (ic_sum8 trivial (Nat.le_of_ble_eq_true rfl)) (by unfold ic_rm; decide +kernel) ⟨rfl, rfl, rfl⟩ ⟨Nat.le_of_ble_eq_true rfl, Nat.le_of_ble_eq_true rfl⟩ ?_
      obtain rfl := Option.some.inj hf
      exact iw_sub [] rfl hjq23
    · refine iw_ldc (pc' := 24) lkc_X8_187 (by decide +kernel) ?_
      refine iw_goto (off := 19) (pc' := 43) (by decide +kernel) ?_
      obtain rfl := Option.some.inj hf
      exact iw_sub [] rfl hjq23
  · refine iw_ldc (pc' := 10) lkc_X8_150 (by decide +kernel) ?_
    exact iw_ireturn (ic_q1 (Option.some.inj hf)) rfl (ic_q2 (Option.some.inj hf)) (by decide +kernel)
set_option maxRecDepth 100000 in
set_option maxHeartbeats 4000000 in
theorem ct_X8_leastSalt (l : Launch) (κ : ic_K) (sw : Nat) (μ : ic_M) (x1 : Int32) {R : Int32} (hf : fX8_leastSalt sw μ x1 = some R) : ic_C l κ MX8_leastSalt [ic_rv κ.1 1, .int x1] 106 (ic_rs sw) μ (some (.int R)) 106 (ic_rs sw) μ := by
  refine ic_C.of (L := [(0, ic_rv κ.1 1), (1, .int x1)]) ⟨ic_cat _ _, rfl, trivial⟩ ⟨by decide +kernel, Nat.le_of_ble_eq_true rfl⟩ rfl ?_
  unfold fX8_leastSalt at hf
  refine iw_aload_n (i := 0) (pc' := 1) 0 rfl (by decide +kernel) ?_
  refine iw_iload_n (i := 1) (pc' := 2) 1 rfl (by decide +kernel) ?_
  obtain ⟨v21, hc, hf⟩ := ic_bd hf
  refine iw_callV (pc' := 5) (S0 := []) (S1 := [.int v21]) (c1 := 0) (s1 := 0) (k := 1) (ct_X8_isCell l κ sw μ x1 hc) cO_1 ⟨rfl, rfl⟩ mv_X8_isCell lkm_X8_147 ⟨rfl, rfl⟩ (ic_sum8 trivial (Nat.le_of_ble_eq_true rfl)) (by unfold ic_rm; decide +kernel) ⟨rfl, rfl, rfl⟩ ⟨Nat.le_of_ble_eq_true rfl, Nat.le_of_ble_eq_true rfl⟩ ?_
  obtain ⟨q22, hf, hgq22⟩ := ic_bd hf
  have hjq22 : ic_W l κ MX8_leastSalt ic_X0 (ic_Z κ MX8_leastSalt (some (.int R)) 106 (ic_rs sw) μ) 29 [] [.int q22] 106 (ic_rs sw) μ 0 0 := by
    have hf := hgq22
    exact iw_ireturn (Option.some.inj hf) rfl rfl (by decide +kernel)
  refine iw_if_eq (off := 22) (tg := 27) (pc' := 8) hf (by decide +kernel) (fun hf => ?_) (fun hf => ?_)
  · refine iw_ldc (pc' := 29) lkc_X8_150 (by decide +kernel) ?_
    obtain rfl := Option.some.inj hf
    exact iw_sub [] rfl hjq22
  · refine iw_aload_n (i := 0) (pc' := 9) 0 rfl (by decide +kernel) ?_
    refine iw_getr (pc' := 12) (q := 57) ic_fk8 cO_1 rfl lkf_X8_33 (by decide +kernel) ?_
    refine iw_aload_n (i := 0) (pc' := 13) 0 rfl (by decide +kernel) ?_
    refine iw_getr (pc' := 16) (q := (ic_ld sw)) ic_fk8 cO_1 rfl lkf_X8_61 (by decide +kernel) ?_
    refine iw_aload_n (i := 0) (pc' := 17) 0 rfl (by decide +kernel) ?_
    refine iw_getr (pc' := 20) (q := 4) ic_fk8 cO_1 rfl lkf_X8_19 (by decide +kernel) ?_
    refine iw_iload_n (i := 1) (pc' := 21) 1 rfl (by decide +kernel) ?_
    obtain ⟨v23, hc, hf⟩ := ic_bd hf
    refine iw_callV (pc' := 24) (S0 := []) (S1 := [.int v23]) (c1 := 0) (s1 := 0) (k := 3) (ct_X7_saltFor l κ sw μ (ic_ld sw) (ic_ldO sw) 4 cO_4 x1 hc) cO_57 ⟨rfl, rfl⟩ mv_X7_saltFor lkm_X8_253 ⟨rfl, rfl⟩ (ic_sum8 trivial (Nat.le_of_ble_eq_true rfl)) (by unfold ic_rm; decide +kernel) ⟨rfl, rfl, rfl⟩ ⟨Nat.le_of_ble_eq_true rfl, Nat.le_of_ble_eq_true rfl⟩ ?_
    refine iw_goto (off := 5) (pc' := 29) (by decide +kernel) ?_
    obtain rfl := Option.some.inj hf
    exact iw_sub [] rfl hjq22
set_option maxRecDepth 100000 in
set_option maxHeartbeats 4000000 in
theorem ct_X8_lives (l : Launch) (κ : ic_K) (sw : Nat) (μ : ic_M) (x1 : Int32) (x2 : Int32) {R : Int32 × ic_M} (hf : fX8_lives sw μ x1 x2 = some R) : ic_C l κ MX8_lives [ic_rv κ.1 1, .int x1, .int x2] 106 (ic_rs sw) μ (some (.int R.1)) 106 (ic_rs sw) R.2 := by
  refine ic_C.of (L := [(0, ic_rv κ.1 1), (1, .int x1), (2, .int x2)]) ⟨ic_cat _ _, rfl, rfl, trivial⟩ ⟨by decide +kernel, Nat.le_of_ble_eq_true rfl⟩ rfl ?_
  unfold fX8_lives at hf
  refine iw_aload_n (i := 0) (pc' := 1) 0 rfl (by decide +kernel) ?_
  refine iw_iload_n (i := 1) (pc' := 2) 1 rfl (by decide +kernel) ?_
  refine iw_iload_n (i := 2) (pc' := 3) 2 rfl (by decide +kernel) ?_
  obtain ⟨v21, hc, hf⟩ := ic_bd hf
  refine iw_callV (pc' := 6) (S0 := []) (S1 := [.int v21]) (c1 := 0) (s1 := 0) (k := 2) (ct_X8_refusalOfPerson l κ sw μ x1 x2 hc) cO_1 ⟨rfl, rfl⟩ mv_X8_refusalOfPerson lkm_X8_241 ⟨rfl, rfl⟩ (ic_sum8 trivial (Nat.le_of_ble_eq_true rfl)) (by unfold ic_rm; decide +kernel) ⟨rfl, rfl, rfl⟩ ⟨Nat.le_of_ble_eq_true rfl, Nat.le_of_ble_eq_true rfl⟩ ?_
  refine iw_istore_n0 (i := 3) (pc' := 7) (L' := [(0, ic_rv κ.1 1), (1, .int x1), (2, .int x2), (3, .int v21)]) rfl (by decide +kernel) ?_
  refine iw_iload_n (i := 3) (pc' := 8) 3 rfl (by decide +kernel) ?_
  obtain ⟨q22, hf, hgq22⟩ := ic_bd hf
  have hjq22 : ic_W l κ MX8_lives ic_X0 (ic_Z κ MX8_lives (some (.int R.1)) 106 (ic_rs sw) R.2) 41 [] [.int q22.1] 106 (ic_rs sw) q22.2 0 0 := by
    have hf := hgq22
    exact iw_ireturn (ic_q1 (Option.some.inj hf)) rfl (ic_q2 (Option.some.inj hf)) (by decide +kernel)
  refine iw_if_eq (off := 7) (tg := 15) (pc' := 11) hf (by decide +kernel) (fun hf => ?_) (fun hf => ?_)
  · refine iw_aload_n (i := 0) (pc' := 16) 0 rfl (by decide +kernel) ?_
    refine iw_getr (pc' := 19) (q := 57) ic_fk8 cO_1 rfl lkf_X8_33 (by decide +kernel) ?_
    refine iw_aload_n (i := 0) (pc' := 20) 0 rfl (by decide +kernel) ?_
    refine iw_getr (pc' := 23) (q := (ic_ld sw)) ic_fk8 cO_1 rfl lkf_X8_61 (by decide +kernel) ?_
    refine iw_aload_n (i := 0) (pc' := 24) 0 rfl (by decide +kernel) ?_
    refine iw_getr (pc' := 27) (q := 4) ic_fk8 cO_1 rfl lkf_X8_19 (by decide +kernel) ?_
    refine iw_iload_n (i := 1) (pc' := 28) 1 rfl (by decide +kernel) ?_
    refine iw_iload_n (i := 2) (pc' := 29) 2 rfl (by decide +kernel) ?_
    refine iw_iconst (i := 1) (v := (1 : Int32)) (pc' := 30) (by decide +kernel) ?_
    obtain ⟨q23, hf, hgq23⟩ := ic_bd hf
    have hjq23 : ic_W l κ MX8_lives ic_X0 (ic_Z κ MX8_lives (some (.int R.1)) 106 (ic_rs sw) R.2) 38 [] [.int q23, .int x1, ic_rv κ.1 4, ic_rv κ.1 (ic_ld sw), ic_rv κ.1 57] 106 (ic_rs sw) μ 0 0 := by
      have hf := hgq23
      obtain ⟨q24, hc, hf⟩ := ic_bd hf
      refine iw_callV (pc' := 41) (S0 := []) (S1 := [.int q24.1]) (c1 := 0) (s1 := 0) (k := 4) (ct_X7_breakingSteps l κ sw μ (ic_ld sw) (ic_ldO sw) 4 cO_4 x1 q23 hc) cO_57 ⟨rfl, rfl⟩ mv_X7_breakingSteps lkm_X8_256 ⟨rfl, rfl⟩ (ic_sum8 trivial (Nat.le_of_ble_eq_true rfl)) (by unfold ic_rm; decide +kernel) ⟨rfl, rfl, rfl⟩ ⟨Nat.le_of_ble_eq_true rfl, Nat.le_of_ble_eq_true rfl⟩ ?_
      obtain rfl := Option.some.inj hf
      exact iw_sub [] rfl hjq22
    refine iw_icmp_ne (off := 7) (tg := 37) (pc' := 33) hf (by decide +kernel) (fun hf => ?_) (fun hf => ?_)
    · refine iw_iconst (i := 0) (v := (0 : Int32)) (pc' := 38) (by decide +kernel) ?_
      obtain rfl := Option.some.inj hf
      exact iw_sub [] rfl hjq23
    · refine iw_iconst (i := 1) (v := (1 : Int32)) (pc' := 34) (by decide +kernel) ?_
      refine iw_goto (off := 4) (pc' := 38) (by decide +kernel) ?_
      obtain rfl := Option.some.inj hf
      exact iw_sub [] rfl hjq23
  · refine iw_iload_n (i := 3) (pc' := 12) 3 rfl (by decide +kernel) ?_
    refine iw_goto (off := 29) (pc' := 41) (by decide +kernel) ?_
    obtain rfl := Option.some.inj hf
    exact iw_sub [] rfl hjq22
set_option maxRecDepth 100000 in
set_option maxHeartbeats 4000000 in
theorem ct_X8_heard (l : Launch) (κ : ic_K) (sw : Nat) (μ : ic_M) (x1 : Int32) {R : Int32} (hf : fX8_heard sw μ x1 = some R) : ic_C l κ MX8_heard [ic_rv κ.1 1, .int x1] 106 (ic_rs sw) μ (some (.int R)) 106 (ic_rs sw) μ := by
  refine ic_C.of (L := [(0, ic_rv κ.1 1), (1, .int x1)]) ⟨ic_cat _ _, rfl, trivial⟩ ⟨by decide +kernel, Nat.le_of_ble_eq_true rfl⟩ rfl ?_
  unfold fX8_heard at hf
  refine iw_aload_n (i := 0) (pc' := 1) 0 rfl (by decide +kernel) ?_
  refine iw_iload_n (i := 1) (pc' := 2) 1 rfl (by decide +kernel) ?_
  obtain ⟨v21, hc, hf⟩ := ic_bd hf
  refine iw_callV (pc' := 5) (S0 := []) (S1 := [.int v21]) (c1 := 0) (s1 := 0) (k := 1) (ct_X8_isCell l κ sw μ x1 hc) cO_1 ⟨rfl, rfl⟩ mv_X8_isCell lkm_X8_147 ⟨rfl, rfl⟩ (ic_sum8 trivial (Nat.le_of_ble_eq_true rfl)) (by unfold ic_rm; decide +kernel) ⟨rfl, rfl, rfl⟩ ⟨Nat.le_of_ble_eq_true rfl, Nat.le_of_ble_eq_true rfl⟩ ?_
  obtain ⟨q22, hf, hgq22⟩ := ic_bd hf
  have hjq22 : ic_W l κ MX8_heard ic_X0 (ic_Z κ MX8_heard (some (.int R)) 106 (ic_rs sw) μ) 29 [] [.int q22] 106 (ic_rs sw) μ 0 0 := by
    have hf := hgq22
    exact iw_ireturn (Option.some.inj hf) rfl rfl (by decide +kernel)
  refine iw_if_eq (off := 22) (tg := 27) (pc' := 8) hf (by decide +kernel) (fun hf => ?_) (fun hf => ?_)
  · refine iw_ldc (pc' := 29) lkc_X8_150 (by decide +kernel) ?_
    obtain rfl := Option.some.inj hf
    exact iw_sub [] rfl hjq22
  · refine iw_aload_n (i := 0) (pc' := 9) 0 rfl (by decide +kernel) ?_
    refine iw_getr (pc' := 12) (q := 57) ic_fk8 cO_1 rfl lkf_X8_33 (by decide +kernel) ?_
    refine iw_aload_n (i := 0) (pc' := 13) 0 rfl (by decide +kernel) ?_
    refine iw_getr (pc' := 16) (q := (ic_ld sw)) ic_fk8 cO_1 rfl lkf_X8_61 (by decide +kernel) ?_
    refine iw_aload_n (i := 0) (pc' := 17) 0 rfl (by decide +kernel) ?_
    refine iw_getr (pc' := 20) (q := 4) ic_fk8 cO_1 rfl lkf_X8_19 (by decide +kernel) ?_
    refine iw_iload_n (i := 1) (pc' := 21) 1 rfl (by decide +kernel) ?_
    obtain ⟨v23, hc, hf⟩ := ic_bd hf
    refine iw_callV (pc' := 24) (S0 := []) (S1 := [.int v23]) (c1 := 0) (s1 := 0) (k := 3) (ct_X7_nearestCrack l κ sw μ (ic_ld sw) (ic_ldO sw) 4 cO_4 x1 hc) cO_57 ⟨rfl, rfl⟩ mv_X7_nearestCrack lkm_X8_259 ⟨rfl, rfl⟩ (ic_sum8 trivial (Nat.le_of_ble_eq_true rfl)) (by unfold ic_rm; decide +kernel) ⟨rfl, rfl, rfl⟩ ⟨Nat.le_of_ble_eq_true rfl, Nat.le_of_ble_eq_true rfl⟩ ?_
    refine iw_goto (off := 5) (pc' := 29) (by decide +kernel) ?_
    obtain rfl := Option.some.inj hf
    exact iw_sub [] rfl hjq22
set_option maxRecDepth 100000 in
set_option maxHeartbeats 4000000 in
theorem ct_X8_game (l : Launch) (κ : ic_K) (sw : Nat) (μ : ic_M) (x1 : Int32) (x2 : Int32) (x3 : Int32) (x4 : Int32) (x5 : Int32) {R : Int32} (hf : fX8_game sw μ x1 x2 x3 x4 x5 = some R) : ic_C l κ MX8_game [ic_rv κ.1 1, .int x1, .int x2, .int x3, .int x4, .int x5] 106 (ic_rs sw) μ (some (.int R)) 106 (ic_rs sw) μ := by
  refine ic_C.of (L := [(0, ic_rv κ.1 1), (1, .int x1), (2, .int x2), (3, .int x3), (4, .int x4), (5, .int x5)]) ⟨ic_cat _ _, rfl, rfl, rfl, rfl, rfl, trivial⟩ ⟨by decide +kernel, Nat.le_of_ble_eq_true rfl⟩ rfl ?_
  unfold fX8_game at hf
  refine iw_iload_n (i := 1) (pc' := 1) 1 rfl (by decide +kernel) ?_
  refine iw_iconst (i := 0) (v := (0 : Int32)) (pc' := 2) (by decide +kernel) ?_
  refine iw_bipush (i := 99) (v := (99 : Int32)) (pc' := 4) (by decide +kernel) ?_
  obtain ⟨v21, hc, hf⟩ := ic_bd hf
  refine iw_callS (pc' := 7) (S0 := []) (S1 := [.int v21]) (c1 := 0) (s1 := 0) (k := 3) (ct_X8_isWithin l κ sw μ x1 (0 : Int32) (99 : Int32) hc) ms_X8_isWithin lkm_X8_78 ⟨rfl, rfl⟩ (ic_sum8 trivial (Nat.le_of_ble_eq_true rfl)) (by unfold ic_rm; decide +kernel) ⟨rfl, rfl, rfl⟩ ⟨Nat.le_of_ble_eq_true rfl, Nat.le_of_ble_eq_true rfl⟩ ?_
  obtain ⟨q22, hf, hgq22⟩ := ic_bd hf
  have hjq22 : ic_W l κ MX8_game ic_X0 (ic_Z κ MX8_game (some (.int R)) 106 (ic_rs sw) μ) 46 [(1, .int x1), (2, .int x2), (3, .int x3), (4, .int x4), (5, .int x5)] [.int q22] 106 (ic_rs sw) μ 0 0 := by
    have hf := hgq22
    refine iw_istore0 (i := 6) (pc' := 48) (L' := [(1, .int x1), (2, .int x2), (3, .int x3), (4, .int x4), (5, .int x5), (6, .int q22)]) rfl (by decide +kernel) ?_
    refine iw_iload (i := 6) (pc' := 50) 5 rfl (by decide +kernel) ?_
    refine iw_if_eq (off := 13) (tg := 63) (pc' := 53) hf (by decide +kernel) (fun hf => ?_) (fun hf => ?_)
    · refine iw_ldc (pc' := 65) lkc_X8_82 (by decide +kernel) ?_
      exact iw_ireturn (Option.some.inj hf) rfl rfl (by decide +kernel)
    · refine iw_iload (i := 5) (pc' := 55) 4 rfl (by decide +kernel) ?_
      refine iw_iconst (i := 0) (v := (0 : Int32)) (pc' := 56) (by decide +kernel) ?_
      refine iw_iconst (i := 1) (v := (1 : Int32)) (pc' := 57) (by decide +kernel) ?_
      obtain ⟨v26, hc, hf⟩ := ic_bd hf
      refine iw_callS (pc' := 60) (S0 := []) (S1 := [.int v26]) (c1 := 0) (s1 := 0) (k := 3) (ct_X8_isWithin l κ sw μ x5 (0 : Int32) (1 : Int32) hc) ms_X8_isWithin lkm_X8_78 ⟨rfl, rfl⟩ (ic_sum8 trivial (Nat.le_of_ble_eq_true rfl)) (by unfold ic_rm; decide +kernel) ⟨rfl, rfl, rfl⟩ ⟨Nat.le_of_ble_eq_true rfl, Nat.le_of_ble_eq_true rfl⟩ ?_
      refine iw_if_ne (off := 6) (tg := 66) (pc' := 63) hf (by decide +kernel) (fun hf => ?_) (fun hf => ?_)
      · refine iw_iload_n (i := 1) (pc' := 67) 0 rfl (by decide +kernel) ?_
        refine iw_iload_n (i := 2) (pc' := 68) 1 rfl (by decide +kernel) ?_
        refine iw_mmin (pc' := 71) lkm_X8_262 (ic_sum8 trivial (Nat.le_of_ble_eq_true rfl)) (by decide +kernel) ?_
        refine iw_istore (i := 7) (pc' := 73) (L1 := fun x27 => [(1, .int x1), (2, .int x2), (3, .int x3), (4, .int x4), (5, .int x5), (6, .int q22), (7, .int x27)]) hf (fun _ => rfl) (by decide +kernel) (fun x27 hf => ?_)
        refine iw_iload_n (i := 3) (pc' := 74) 2 rfl (by decide +kernel) ?_
        refine iw_iload (i := 4) (pc' := 76) 3 rfl (by decide +kernel) ?_
        refine iw_mmin (pc' := 79) lkm_X8_262 (ic_sum8 trivial (Nat.le_of_ble_eq_true rfl)) (by decide +kernel) ?_
        refine iw_istore (i := 8) (pc' := 81) (L1 := fun x28 => [(1, .int x1), (2, .int x2), (3, .int x3), (4, .int x4), (5, .int x5), (6, .int q22), (7, .int x27), (8, .int x28)]) hf (fun _ => rfl) (by decide +kernel) (fun x28 hf => ?_)
        refine iw_iload (i := 7) (pc' := 83) 6 rfl (by decide +kernel) ?_
        refine iw_iload (i := 8) (pc' := 85) 7 rfl (by decide +kernel) ?_
        refine iw_mmax (pc' := 88) lkm_X8_267 (ic_sum8 trivial (Nat.le_of_ble_eq_true rfl)) (by decide +kernel) ?_
        refine iw_istore (i := 9) (pc' := 90) (L1 := fun x29 => [(1, .int x1), (2, .int x2), (3, .int x3), (4, .int x4), (5, .int x5), (6, .int q22), (7, .int x27), (8, .int x28), (9, .int x29)]) hf (fun _ => rfl) (by decide +kernel) (fun x29 hf => ?_)
        refine iw_iload_n (i := 1) (pc' := 91) 0 rfl (by decide +kernel) ?_
        refine iw_iload (i := 4) (pc' := 93) 3 rfl (by decide +kernel) ?_
        refine iw_iadd (pc' := 94) (by decide +kernel) ?_
        refine iw_iload_n (i := 2) (pc' := 95) 1 rfl (by decide +kernel) ?_
        refine iw_isub (pc' := 96) (by decide +kernel) ?_
        refine iw_iload_n (i := 3) (pc' := 97) 2 rfl (by decide +kernel) ?_
        refine iw_isub (pc' := 98) (by decide +kernel) ?_
        refine iw_istore (i := 10) (pc' := 100) (L1 := fun x30 => [(1, .int x1), (2, .int x2), (3, .int x3), (4, .int x4), (5, .int x5), (6, .int q22), (7, .int x27), (8, .int x28), (9, .int x29), (10, .int x30)]) hf (fun _ => rfl) (by decide +kernel) (fun x30 hf => ?_)
        refine iw_iload (i := 9) (pc' := 102) 8 rfl (by decide +kernel) ?_
        refine iw_iload_n (i := 1) (pc' := 103) 0 rfl (by decide +kernel) ?_
        refine iw_iload_n (i := 3) (pc' := 104) 2 rfl (by decide +kernel) ?_
        refine iw_mmax (pc' := 107) lkm_X8_267 (ic_sum8 ⟨rfl, trivial⟩ (Nat.le_of_ble_eq_true rfl)) (by decide +kernel) ?_
        refine iw_iload_n (i := 2) (pc' := 108) 1 rfl (by decide +kernel) ?_
        refine iw_iload (i := 4) (pc' := 110) 3 rfl (by decide +kernel) ?_
        refine iw_mmax (pc' := 113) lkm_X8_267 (ic_sum8 ⟨rfl, rfl, trivial⟩ (Nat.le_of_ble_eq_true rfl)) (by decide +kernel) ?_
        refine iw_mmin (pc' := 116) lkm_X8_262 (ic_sum8 ⟨rfl, trivial⟩ (Nat.le_of_ble_eq_true rfl)) (by decide +kernel) ?_
        refine iw_icmp_eq (off := 8) (tg := 124) (pc' := 119) hf (by decide +kernel) (fun hf => ?_) (fun hf => ?_)
        · refine iw_iload (i := 5) (pc' := 126) 4 rfl (by decide +kernel) ?_
          refine iw_iconst (i := 1) (v := (1 : Int32)) (pc' := 127) (by decide +kernel) ?_
          obtain ⟨q31, hf, hgq31⟩ := ic_bd hf
          have hjq31 : ic_W l κ MX8_game ic_X0 (ic_Z κ MX8_game (some (.int R)) 106 (ic_rs sw) μ) 153 [] [.int q31] 106 (ic_rs sw) μ 0 0 := by
            have hf := hgq31
            exact iw_ireturn (Option.some.inj hf) rfl rfl (by decide +kernel)
          refine iw_icmp_ne (off := 12) (tg := 139) (pc' := 130) hf (by decide +kernel) (fun hf => ?_) (fun hf => ?_)
          · refine iw_iload (i := 7) (pc' := 141) 6 rfl (by decide +kernel) ?_
            refine iw_iload (i := 8) (pc' := 143) 7 rfl (by decide +kernel) ?_
            refine iw_icmp_lt (off := 9) (tg := 152) (pc' := 146) hf (by decide +kernel) (fun hf => ?_) (fun hf => ?_)
            · refine iw_iconst (i := 0) (v := (0 : Int32)) (pc' := 153) (by decide +kernel) ?_
              obtain rfl := Option.some.inj hf
              exact iw_sub [] rfl hjq31
            · refine iw_ldc_w (pc' := 149) lkc_X8_270 (by decide +kernel) ?_
              refine iw_goto (off := 4) (pc' := 153) (by decide +kernel) ?_
              obtain rfl := Option.some.inj hf
              exact iw_sub [] rfl hjq31
          · refine iw_iload (i := 9) (pc' := 132) 8 rfl (by decide +kernel) ?_
            refine iw_sipush (i := 1000) (v := (1000 : Int32)) (pc' := 135) (by decide +kernel) ?_
            refine iw_imul (pc' := 136) (by decide +kernel) ?_
            refine iw_goto (off := 17) (pc' := 153) (by decide +kernel) ?_
            obtain rfl := Option.some.inj hf
            exact iw_sub [] rfl hjq31
        · refine iw_iload (i := 10) (pc' := 121) 9 rfl (by decide +kernel) ?_
          refine iw_if_ne (off := 33) (tg := 154) (pc' := 124) hf (by decide +kernel) (fun hf => ?_) (fun hf => ?_)
          · refine iw_iload (i := 5) (pc' := 156) 4 rfl (by decide +kernel) ?_
            refine iw_iconst (i := 1) (v := (1 : Int32)) (pc' := 157) (by decide +kernel) ?_
            obtain ⟨q32, hf, hgq32⟩ := ic_bd hf
            have hjq32 : ic_W l κ MX8_game ic_X0 (ic_Z κ MX8_game (some (.int R)) 106 (ic_rs sw) μ) 189 [] [.int q32] 106 (ic_rs sw) μ 0 0 := by
              have hf := hgq32
              exact iw_ireturn (Option.some.inj hf) rfl rfl (by decide +kernel)
            refine iw_icmp_ne (off := 21) (tg := 178) (pc' := 160) hf (by decide +kernel) (fun hf => ?_) (fun hf => ?_)
            · refine iw_iload (i := 4) (pc' := 180) 3 rfl (by decide +kernel) ?_
              refine iw_iload_n (i := 3) (pc' := 181) 2 rfl (by decide +kernel) ?_
              refine iw_isub (pc' := 182) (by decide +kernel) ?_
              refine iw_ldc_w (pc' := 185) lkc_X8_270 (by decide +kernel) ?_
              refine iw_imul (pc' := 186) (by decide +kernel) ?_
              refine iw_iload (i := 10) (pc' := 188) 9 rfl (by decide +kernel) ?_
              refine iw_idiv (pc' := 189) hf (by decide +kernel) (fun hf => ?_)
              obtain rfl := Option.some.inj hf
              exact iw_sub [] rfl hjq32
            · refine iw_iload_n (i := 1) (pc' := 161) 0 rfl (by decide +kernel) ?_
              refine iw_iload (i := 4) (pc' := 163) 3 rfl (by decide +kernel) ?_
              refine iw_imul (pc' := 164) (by decide +kernel) ?_
              refine iw_iload_n (i := 2) (pc' := 165) 1 rfl (by decide +kernel) ?_
              refine iw_iload_n (i := 3) (pc' := 166) 2 rfl (by decide +kernel) ?_
              refine iw_imul (pc' := 167) (by decide +kernel) ?_
              refine iw_isub (pc' := 168) (by decide +kernel) ?_
              refine iw_sipush (i := 1000) (v := (1000 : Int32)) (pc' := 171) (by decide +kernel) ?_
              refine iw_imul (pc' := 172) (by decide +kernel) ?_
              refine iw_iload (i := 10) (pc' := 174) 9 rfl (by decide +kernel) ?_
              refine iw_idiv (pc' := 175) hf (by decide +kernel) (fun hf => ?_)
              refine iw_goto (off := 14) (pc' := 189) (by decide +kernel) ?_
              obtain rfl := Option.some.inj hf
              exact iw_sub [] rfl hjq32
          · refine iw_iload (i := 5) (pc' := 126) 4 rfl (by decide +kernel) ?_
            refine iw_iconst (i := 1) (v := (1 : Int32)) (pc' := 127) (by decide +kernel) ?_
            obtain ⟨q33, hf, hgq33⟩ := ic_bd hf
            have hjq33 : ic_W l κ MX8_game ic_X0 (ic_Z κ MX8_game (some (.int R)) 106 (ic_rs sw) μ) 153 [] [.int q33] 106 (ic_rs sw) μ 0 0 := by
              have hf := hgq33
              exact iw_ireturn (Option.some.inj hf) rfl rfl (by decide +kernel)
            refine iw_icmp_ne (off := 12) (tg := 139) (pc' := 130) hf (by decide +kernel) (fun hf => ?_) (fun hf => ?_)
            · refine iw_iload (i := 7) (pc' := 141) 6 rfl (by decide +kernel) ?_
              refine iw_iload (i := 8) (pc' := 143) 7 rfl (by decide +kernel) ?_
              refine iw_icmp_lt (off := 9) (tg := 152) (pc' := 146) hf (by decide +kernel) (fun hf => ?_) (fun hf => ?_)
              · refine iw_iconst (i := 0) (v := (0 : Int32)) (pc' := 153) (by decide +kernel) ?_
                obtain rfl := Option.some.inj hf
                exact iw_sub [] rfl hjq33
              · refine iw_ldc_w (pc' := 149) lkc_X8_270 (by decide +kernel) ?_
                refine iw_goto (off := 4) (pc' := 153) (by decide +kernel) ?_
                obtain rfl := Option.some.inj hf
                exact iw_sub [] rfl hjq33
            · refine iw_iload (i := 9) (pc' := 132) 8 rfl (by decide +kernel) ?_
              refine iw_sipush (i := 1000) (v := (1000 : Int32)) (pc' := 135) (by decide +kernel) ?_
              refine iw_imul (pc' := 136) (by decide +kernel) ?_
              refine iw_goto (off := 17) (pc' := 153) (by decide +kernel) ?_
              obtain rfl := Option.some.inj hf
              exact iw_sub [] rfl hjq33
      · refine iw_ldc (pc' := 65) lkc_X8_82 (by decide +kernel) ?_
        exact iw_ireturn (Option.some.inj hf) rfl rfl (by decide +kernel)
  refine iw_if_eq (off := 38) (tg := 45) (pc' := 10) hf (by decide +kernel) (fun hf => ?_) (fun hf => ?_)
  · refine iw_iconst (i := 0) (v := (0 : Int32)) (pc' := 46) (by decide +kernel) ?_
    obtain rfl := Option.some.inj hf
    exact iw_sub [1, 2, 3, 4, 5] rfl hjq22
  · refine iw_iload_n (i := 2) (pc' := 11) 2 rfl (by decide +kernel) ?_
    refine iw_iconst (i := 0) (v := (0 : Int32)) (pc' := 12) (by decide +kernel) ?_
    refine iw_bipush (i := 99) (v := (99 : Int32)) (pc' := 14) (by decide +kernel) ?_
    obtain ⟨v23, hc, hf⟩ := ic_bd hf
    refine iw_callS (pc' := 17) (S0 := []) (S1 := [.int v23]) (c1 := 0) (s1 := 0) (k := 3) (ct_X8_isWithin l κ sw μ x2 (0 : Int32) (99 : Int32) hc) ms_X8_isWithin lkm_X8_78 ⟨rfl, rfl⟩ (ic_sum8 trivial (Nat.le_of_ble_eq_true rfl)) (by unfold ic_rm; decide +kernel) ⟨rfl, rfl, rfl⟩ ⟨Nat.le_of_ble_eq_true rfl, Nat.le_of_ble_eq_true rfl⟩ ?_
    refine iw_if_eq (off := 28) (tg := 45) (pc' := 20) hf (by decide +kernel) (fun hf => ?_) (fun hf => ?_)
    · refine iw_iconst (i := 0) (v := (0 : Int32)) (pc' := 46) (by decide +kernel) ?_
      obtain rfl := Option.some.inj hf
      exact iw_sub [1, 2, 3, 4, 5] rfl hjq22
    · refine iw_iload_n (i := 3) (pc' := 21) 3 rfl (by decide +kernel) ?_
      refine iw_iconst (i := 0) (v := (0 : Int32)) (pc' := 22) (by decide +kernel) ?_
      refine iw_bipush (i := 99) (v := (99 : Int32)) (pc' := 24) (by decide +kernel) ?_
      obtain ⟨v24, hc, hf⟩ := ic_bd hf
      refine iw_callS (pc' := 27) (S0 := []) (S1 := [.int v24]) (c1 := 0) (s1 := 0) (k := 3) (ct_X8_isWithin l κ sw μ x3 (0 : Int32) (99 : Int32) hc) ms_X8_isWithin lkm_X8_78 ⟨rfl, rfl⟩ (ic_sum8 trivial (Nat.le_of_ble_eq_true rfl)) (by unfold ic_rm; decide +kernel) ⟨rfl, rfl, rfl⟩ ⟨Nat.le_of_ble_eq_true rfl, Nat.le_of_ble_eq_true rfl⟩ ?_
      refine iw_if_eq (off := 18) (tg := 45) (pc' := 30) hf (by decide +kernel) (fun hf => ?_) (fun hf => ?_)
      · refine iw_iconst (i := 0) (v := (0 : Int32)) (pc' := 46) (by decide +kernel) ?_
        obtain rfl := Option.some.inj hf
        exact iw_sub [1, 2, 3, 4, 5] rfl hjq22
      · refine iw_iload (i := 4) (pc' := 32) 4 rfl (by decide +kernel) ?_
        refine iw_iconst (i := 0) (v := (0 : Int32)) (pc' := 33) (by decide +kernel) ?_
        refine iw_bipush (i := 99) (v := (99 : Int32)) (pc' := 35) (by decide +kernel) ?_
        obtain ⟨v25, hc, hf⟩ := ic_bd hf
        refine iw_callS (pc' := 38) (S0 := []) (S1 := [.int v25]) (c1 := 0) (s1 := 0) (k := 3) (ct_X8_isWithin l κ sw μ x4 (0 : Int32) (99 : Int32) hc) ms_X8_isWithin lkm_X8_78 ⟨rfl, rfl⟩ (ic_sum8 trivial (Nat.le_of_ble_eq_true rfl)) (by unfold ic_rm; decide +kernel) ⟨rfl, rfl, rfl⟩ ⟨Nat.le_of_ble_eq_true rfl, Nat.le_of_ble_eq_true rfl⟩ ?_
        refine iw_if_eq (off := 7) (tg := 45) (pc' := 41) hf (by decide +kernel) (fun hf => ?_) (fun hf => ?_)
        · refine iw_iconst (i := 0) (v := (0 : Int32)) (pc' := 46) (by decide +kernel) ?_
          obtain rfl := Option.some.inj hf
          exact iw_sub [1, 2, 3, 4, 5] rfl hjq22
        · refine iw_iconst (i := 1) (v := (1 : Int32)) (pc' := 42) (by decide +kernel) ?_
          refine iw_goto (off := 4) (pc' := 46) (by decide +kernel) ?_
          obtain rfl := Option.some.inj hf
          exact iw_sub [1, 2, 3, 4, 5] rfl hjq22
set_option maxRecDepth 100000 in
set_option maxHeartbeats 4000000 in
theorem ct_X8_tolls (l : Launch) (κ : ic_K) (sw : Nat) (μ : ic_M) (x1 : Int32) (x2 : Int32) {R : Int32} (hf : fX8_tolls sw μ x1 x2 = some R) : ic_C l κ MX8_tolls [ic_rv κ.1 1, .int x1, .int x2] 106 (ic_rs sw) μ (some (.int R)) 106 (ic_rs sw) μ := by
  refine ic_C.of (L := [(0, ic_rv κ.1 1), (1, .int x1), (2, .int x2)]) ⟨ic_cat _ _, rfl, rfl, trivial⟩ ⟨by decide +kernel, Nat.le_of_ble_eq_true rfl⟩ rfl ?_
  unfold fX8_tolls at hf
  refine iw_iload_n (i := 1) (pc' := 1) 1 rfl (by decide +kernel) ?_
  refine iw_iconst (i := 0) (v := (0 : Int32)) (pc' := 2) (by decide +kernel) ?_
  refine iw_bipush (i := 99) (v := (99 : Int32)) (pc' := 4) (by decide +kernel) ?_
  obtain ⟨v21, hc, hf⟩ := ic_bd hf
  refine iw_callS (pc' := 7) (S0 := []) (S1 := [.int v21]) (c1 := 0) (s1 := 0) (k := 3) (ct_X8_isWithin l κ sw μ x1 (0 : Int32) (99 : Int32) hc) ms_X8_isWithin lkm_X8_78 ⟨rfl, rfl⟩ (ic_sum8 trivial (Nat.le_of_ble_eq_true rfl)) (by unfold ic_rm; decide +kernel) ⟨rfl, rfl, rfl⟩ ⟨Nat.le_of_ble_eq_true rfl, Nat.le_of_ble_eq_true rfl⟩ ?_
  refine iw_if_eq (off := 13) (tg := 20) (pc' := 10) hf (by decide +kernel) (fun hf => ?_) (fun hf => ?_)
  · refine iw_ldc (pc' := 22) lkc_X8_82 (by decide +kernel) ?_
    exact iw_ireturn (Option.some.inj hf) rfl rfl (by decide +kernel)
  · refine iw_iload_n (i := 2) (pc' := 11) 2 rfl (by decide +kernel) ?_
    refine iw_iconst (i := 0) (v := (0 : Int32)) (pc' := 12) (by decide +kernel) ?_
    refine iw_bipush (i := 99) (v := (99 : Int32)) (pc' := 14) (by decide +kernel) ?_
    obtain ⟨v22, hc, hf⟩ := ic_bd hf
    refine iw_callS (pc' := 17) (S0 := []) (S1 := [.int v22]) (c1 := 0) (s1 := 0) (k := 3) (ct_X8_isWithin l κ sw μ x2 (0 : Int32) (99 : Int32) hc) ms_X8_isWithin lkm_X8_78 ⟨rfl, rfl⟩ (ic_sum8 trivial (Nat.le_of_ble_eq_true rfl)) (by unfold ic_rm; decide +kernel) ⟨rfl, rfl, rfl⟩ ⟨Nat.le_of_ble_eq_true rfl, Nat.le_of_ble_eq_true rfl⟩ ?_
    refine iw_if_ne (off := 6) (tg := 23) (pc' := 20) hf (by decide +kernel) (fun hf => ?_) (fun hf => ?_)
    · refine iw_aload_n (i := 0) (pc' := 24) 0 rfl (by decide +kernel) ?_
      refine iw_getr (pc' := 27) (q := 4) ic_fk8 cO_1 rfl lkf_X8_19 (by decide +kernel) ?_
      refine iw_geti (pc' := 30) ic_fk1 cO_4 lkf_X8_125 (by decide +kernel) ?_
      refine iw_iconst (i := (-1)) (v := (-1 : Int32)) (pc' := 31) (by decide +kernel) ?_
      obtain ⟨q23, hf, hgq23⟩ := ic_bd hf
      have hjq23 : ic_W l κ MX8_tolls ic_X0 (ic_Z κ MX8_tolls (some (.int R)) 106 (ic_rs sw) μ) 53 [] [.int q23] 106 (ic_rs sw) μ 0 0 := by
        have hf := hgq23
        exact iw_ireturn (Option.some.inj hf) rfl rfl (by decide +kernel)
      refine iw_icmp_ne (off := 7) (tg := 38) (pc' := 34) hf (by decide +kernel) (fun hf => ?_) (fun hf => ?_)
      · refine iw_iload_n (i := 1) (pc' := 39) 1 rfl (by decide +kernel) ?_
        refine iw_iload_n (i := 2) (pc' := 40) 2 rfl (by decide +kernel) ?_
        refine iw_imul (pc' := 41) (by decide +kernel) ?_
        refine iw_aload_n (i := 0) (pc' := 42) 0 rfl (by decide +kernel) ?_
        refine iw_getr (pc' := 45) (q := 4) ic_fk8 cO_1 rfl lkf_X8_19 (by decide +kernel) ?_
        refine iw_aload_n (i := 0) (pc' := 46) 0 rfl (by decide +kernel) ?_
        refine iw_getr (pc' := 49) (q := (ic_ld sw)) ic_fk8 cO_1 rfl lkf_X8_61 (by decide +kernel) ?_
        obtain ⟨v24, hc, hf⟩ := ic_bd hf
        refine iw_callV (pc' := 52) (S0 := [.int (x1 * x2)]) (S1 := [.int v24, .int (x1 * x2)]) (c1 := 0) (s1 := 0) (k := 1) (ct_X1_openRows l κ sw μ 4 cO_4 (ic_ld sw) (ic_ldO sw) hc) cO_4 ⟨rfl, rfl⟩ mv_X1_openRows lkm_X8_271 ⟨rfl, rfl⟩ (ic_sum8 ⟨rfl, trivial⟩ (Nat.le_of_ble_eq_true rfl)) (by unfold ic_rm; decide +kernel) ⟨rfl, rfl, rfl⟩ ⟨Nat.le_of_ble_eq_true rfl, Nat.le_of_ble_eq_true rfl⟩ ?_
        refine iw_imul (pc' := 53) (by decide +kernel) ?_
        obtain rfl := Option.some.inj hf
        exact iw_sub [] rfl hjq23
      · refine iw_iconst (i := 0) (v := (0 : Int32)) (pc' := 35) (by decide +kernel) ?_
        refine iw_goto (off := 18) (pc' := 53) (by decide +kernel) ?_
        obtain rfl := Option.some.inj hf
        exact iw_sub [] rfl hjq23
    · refine iw_ldc (pc' := 22) lkc_X8_82 (by decide +kernel) ?_
      exact iw_ireturn (Option.some.inj hf) rfl rfl (by decide +kernel)
set_option maxRecDepth 100000 in
set_option maxHeartbeats 4000000 in
theorem lpX8_thaw_30_ok (l : Launch) (κ : ic_K) (sw : Nat) (μ : ic_M) (x1_ : Int32) (x2_ : Int32) {Z : State → List Frame → Array Value → State → Prop} {R : Int32} (hk : ic_W l κ MX8_thaw ic_X0 Z 52 [(3, .int R)] [] 106 (ic_rs sw) μ 0 0) : ∀ (fu : Nat) (y3_ : Int32) (y4_ : Int32), lpX8_thaw_30 sw μ x1_ x2_ fu y3_ y4_ = some R → ic_W l κ MX8_thaw ic_X0 Z 30 [(1, .int x1_), (2, .int x2_), (3, .int y3_), (4, .int y4_)] [] 106 (ic_rs sw) μ 0 0 := by
  intro fu
  induction fu with
  | zero =>
    intro y3_ y4_ hf
    exact absurd hf (by simp [lpX8_thaw_30])
  | succ fu ih =>
    intro y3_ y4_ hf
    rw [lpX8_thaw_30] at hf
    refine iw_iload (i := 4) (pc' := 32) 3 rfl (by decide +kernel) ?_
    refine iw_iload_n (i := 1) (pc' := 33) 0 rfl (by decide +kernel) ?_
    refine iw_icmp_ge (off := 19) (tg := 52) (pc' := 36) hf (by decide +kernel) (fun hf => ?_) (fun hf => ?_)
    · obtain rfl := Option.some.inj hf
      exact iw_sub [2] rfl hk
    · refine iw_iload_n (i := 3) (pc' := 37) 2 rfl (by decide +kernel) ?_
      refine iw_bipush (i := 100) (v := (100 : Int32)) (pc' := 39) (by decide +kernel) ?_
      refine iw_iload_n (i := 2) (pc' := 40) 1 rfl (by decide +kernel) ?_
      refine iw_isub (pc' := 41) (by decide +kernel) ?_
      refine iw_imul (pc' := 42) (by decide +kernel) ?_
      refine iw_bipush (i := 100) (v := (100 : Int32)) (pc' := 44) (by decide +kernel) ?_
      refine iw_idiv (pc' := 45) hf (by decide +kernel) (fun hf => ?_)
      refine iw_istore_n (i := 3) (pc' := 46) (L1 := fun x23 => [(1, .int x1_), (2, .int x2_), (3, .int x23), (4, .int y4_)]) hf (fun _ => rfl) (by decide +kernel) (fun x23 hf => ?_)
      refine iw_iinc (i := 4) (d := 1) (pc' := 49) (v := (1 : Int32)) (L1 := fun x24 => [(1, .int x1_), (2, .int x2_), (3, .int x23), (4, .int x24)]) hf 3 rfl (fun _ => rfl) (by decide +kernel) (fun x24 hf => ?_)
      refine iw_goto (off := (-19)) (pc' := 30) (by decide +kernel) ?_
      exact iw_sub [0, 1, 2, 3] rfl (ih _ _ hf)
set_option maxRecDepth 100000 in
set_option maxHeartbeats 4000000 in
theorem ct_X8_thaw (l : Launch) (κ : ic_K) (sw : Nat) (μ : ic_M) (x1 : Int32) (x2 : Int32) {R : Int32} (hf : fX8_thaw sw μ x1 x2 = some R) : ic_C l κ MX8_thaw [ic_rv κ.1 1, .int x1, .int x2] 106 (ic_rs sw) μ (some (.int R)) 106 (ic_rs sw) μ := by
  refine ic_C.of (L := [(0, ic_rv κ.1 1), (1, .int x1), (2, .int x2)]) ⟨ic_cat _ _, rfl, rfl, trivial⟩ ⟨by decide +kernel, Nat.le_of_ble_eq_true rfl⟩ rfl ?_
  unfold fX8_thaw at hf
  refine iw_iload_n (i := 1) (pc' := 1) 1 rfl (by decide +kernel) ?_
  refine iw_iconst (i := 0) (v := (0 : Int32)) (pc' := 2) (by decide +kernel) ?_
  refine iw_bipush (i := 60) (v := (60 : Int32)) (pc' := 4) (by decide +kernel) ?_
  obtain ⟨v21, hc, hf⟩ := ic_bd hf
  refine iw_callS (pc' := 7) (S0 := []) (S1 := [.int v21]) (c1 := 0) (s1 := 0) (k := 3) (ct_X8_isWithin l κ sw μ x1 (0 : Int32) (60 : Int32) hc) ms_X8_isWithin lkm_X8_78 ⟨rfl, rfl⟩ (ic_sum8 trivial (Nat.le_of_ble_eq_true rfl)) (by unfold ic_rm; decide +kernel) ⟨rfl, rfl, rfl⟩ ⟨Nat.le_of_ble_eq_true rfl, Nat.le_of_ble_eq_true rfl⟩ ?_
  refine iw_if_eq (off := 13) (tg := 20) (pc' := 10) hf (by decide +kernel) (fun hf => ?_) (fun hf => ?_)
  · refine iw_ldc (pc' := 22) lkc_X8_82 (by decide +kernel) ?_
    exact iw_ireturn (Option.some.inj hf) rfl rfl (by decide +kernel)
  · refine iw_iload_n (i := 2) (pc' := 11) 2 rfl (by decide +kernel) ?_
    refine iw_iconst (i := 0) (v := (0 : Int32)) (pc' := 12) (by decide +kernel) ?_
    refine iw_bipush (i := 100) (v := (100 : Int32)) (pc' := 14) (by decide +kernel) ?_
    obtain ⟨v22, hc, hf⟩ := ic_bd hf
    refine iw_callS (pc' := 17) (S0 := []) (S1 := [.int v22]) (c1 := 0) (s1 := 0) (k := 3) (ct_X8_isWithin l κ sw μ x2 (0 : Int32) (100 : Int32) hc) ms_X8_isWithin lkm_X8_78 ⟨rfl, rfl⟩ (ic_sum8 trivial (Nat.le_of_ble_eq_true rfl)) (by unfold ic_rm; decide +kernel) ⟨rfl, rfl, rfl⟩ ⟨Nat.le_of_ble_eq_true rfl, Nat.le_of_ble_eq_true rfl⟩ ?_
    refine iw_if_ne (off := 6) (tg := 23) (pc' := 20) hf (by decide +kernel) (fun hf => ?_) (fun hf => ?_)
    · refine iw_ldc_w (pc' := 26) lkc_X8_270 (by decide +kernel) ?_
      refine iw_istore_n0 (i := 3) (pc' := 27) (L' := [(0, ic_rv κ.1 1), (1, .int x1), (2, .int x2), (3, .int (1000000 : Int32))]) rfl (by decide +kernel) ?_
      refine iw_iconst (i := 0) (v := (0 : Int32)) (pc' := 28) (by decide +kernel) ?_
      refine iw_istore0 (i := 4) (pc' := 30) (L' := [(0, ic_rv κ.1 1), (1, .int x1), (2, .int x2), (3, .int (1000000 : Int32)), (4, .int (0 : Int32))]) rfl (by decide +kernel) ?_
      obtain ⟨q25, hf, hgq25⟩ := ic_bd hf
      have hjq25 : ic_W l κ MX8_thaw ic_X0 (ic_Z κ MX8_thaw (some (.int R)) 106 (ic_rs sw) μ) 52 [(3, .int q25)] [] 106 (ic_rs sw) μ 0 0 := by
        have hf := hgq25
        refine iw_iload_n (i := 3) (pc' := 53) 0 rfl (by decide +kernel) ?_
        exact iw_ireturn (Option.some.inj hf) rfl rfl (by decide +kernel)
      exact iw_sub [1, 2, 3, 4] rfl (lpX8_thaw_30_ok l κ sw μ x1 x2 hjq25 1000 (1000000 : Int32) (0 : Int32) hf)
    · refine iw_ldc (pc' := 22) lkc_X8_82 (by decide +kernel) ?_
      exact iw_ireturn (Option.some.inj hf) rfl rfl (by decide +kernel)
set_option maxRecDepth 100000 in
set_option maxHeartbeats 4000000 in
theorem ct_X8_see (l : Launch) (κ : ic_K) (sw : Nat) (μ : ic_M) (x1 : Int32) (x2 : Int32) {R : Int32 × ic_M} (hf : fX8_see sw μ x1 x2 = some R) : ic_C l κ MX8_see [ic_rv κ.1 1, .int x1, .int x2] 106 (ic_rs sw) μ (some (.int R.1)) 106 (ic_rs sw) R.2 := by
  refine ic_C.of (L := [(0, ic_rv κ.1 1), (1, .int x1), (2, .int x2)]) ⟨ic_cat _ _, rfl, rfl, trivial⟩ ⟨by decide +kernel, Nat.le_of_ble_eq_true rfl⟩ rfl ?_
  unfold fX8_see at hf
  refine iw_iload_n (i := 1) (pc' := 1) 1 rfl (by decide +kernel) ?_
  refine iw_iconst (i := 1) (v := (1 : Int32)) (pc' := 2) (by decide +kernel) ?_
  refine iw_bipush (i := 60) (v := (60 : Int32)) (pc' := 4) (by decide +kernel) ?_
  obtain ⟨v21, hc, hf⟩ := ic_bd hf
  refine iw_callS (pc' := 7) (S0 := []) (S1 := [.int v21]) (c1 := 0) (s1 := 0) (k := 3) (ct_X8_isWithin l κ sw μ x1 (1 : Int32) (60 : Int32) hc) ms_X8_isWithin lkm_X8_78 ⟨rfl, rfl⟩ (ic_sum8 trivial (Nat.le_of_ble_eq_true rfl)) (by unfold ic_rm; decide +kernel) ⟨rfl, rfl, rfl⟩ ⟨Nat.le_of_ble_eq_true rfl, Nat.le_of_ble_eq_true rfl⟩ ?_
  refine iw_if_ne (off := 6) (tg := 13) (pc' := 10) hf (by decide +kernel) (fun hf => ?_) (fun hf => ?_)
  · refine iw_aload_n (i := 0) (pc' := 14) 0 rfl (by decide +kernel) ?_
    refine iw_getr (pc' := 17) (q := 61) ic_fk8 cO_1 rfl lkf_X8_40 (by decide +kernel) ?_
    refine iw_iload_n (i := 1) (pc' := 18) 1 rfl (by decide +kernel) ?_
    refine iw_iload_n (i := 2) (pc' := 19) 2 rfl (by decide +kernel) ?_
    obtain ⟨q22, hc, hf⟩ := ic_bd hf
    refine iw_callV (pc' := 22) (S0 := []) (S1 := [.int q22.1]) (c1 := 0) (s1 := 0) (k := 2) (ct_X6_add l κ sw μ x1 x2 hc) cO_61 ⟨rfl, rfl⟩ mv_X6_add lkm_X8_274 ⟨rfl, rfl⟩ (ic_sum8 trivial (Nat.le_of_ble_eq_true rfl)) (by unfold ic_rm; decide +kernel) ⟨rfl, rfl, rfl⟩ ⟨Nat.le_of_ble_eq_true rfl, Nat.le_of_ble_eq_true rfl⟩ ?_
    obtain ⟨q23, hf, hgq23⟩ := ic_bd hf
    have hjq23 : ic_W l κ MX8_see ic_X0 (ic_Z κ MX8_see (some (.int R.1)) 106 (ic_rs sw) R.2) 37 [] [.int q23] 106 (ic_rs sw) q22.2 0 0 := by
      have hf := hgq23
      exact iw_ireturn (ic_q1 (Option.some.inj hf)) rfl (ic_q2 (Option.some.inj hf)) (by decide +kernel)
    refine iw_if_eq (off := 13) (tg := 35) (pc' := 25) hf (by decide +kernel) (fun hf => ?_) (fun hf => ?_)
    · refine iw_ldc (pc' := 37) lkc_X8_90 (by decide +kernel) ?_
      obtain rfl := Option.some.inj hf
      exact iw_sub [] rfl hjq23
    · refine iw_aload_n (i := 0) (pc' := 26) 0 rfl (by decide +kernel) ?_
      refine iw_getr (pc' := 29) (q := 61) ic_fk8 cO_1 rfl lkf_X8_40 (by decide +kernel) ?_
      refine iw_geti (pc' := 32) ic_fk6 cO_61 lkf_X8_105 (by decide +kernel) ?_
      refine iw_goto (off := 5) (pc' := 37) (by decide +kernel) ?_
      obtain rfl := Option.some.inj hf
      exact iw_sub [] rfl hjq23
  · refine iw_ldc (pc' := 12) lkc_X8_82 (by decide +kernel) ?_
    exact iw_ireturn (ic_q1 (Option.some.inj hf)) rfl (ic_q2 (Option.some.inj hf)) (by decide +kernel)
set_option maxRecDepth 100000 in
set_option maxHeartbeats 4000000 in
theorem ct_X8_who (l : Launch) (κ : ic_K) (sw : Nat) (μ : ic_M) (x1 : Int32) {R : Int32 × ic_M} (hf : fX8_who sw μ x1 = some R) : ic_C l κ MX8_who [ic_rv κ.1 1, .int x1] 106 (ic_rs sw) μ (some (.int R.1)) 106 (ic_rs sw) R.2 := by
  refine ic_C.of (L := [(0, ic_rv κ.1 1), (1, .int x1)]) ⟨ic_cat _ _, rfl, trivial⟩ ⟨by decide +kernel, Nat.le_of_ble_eq_true rfl⟩ rfl ?_
  unfold fX8_who at hf
  refine iw_iload_n (i := 1) (pc' := 1) 1 rfl (by decide +kernel) ?_
  refine iw_case hf (fun hx hf => ?_) (fun hn0 hf => ?_)
  · refine iw_tableIn (v := (0 : Int32)) (dflt := 63) (lo := 0) (hi := 2) (off := 27) (offs := #[27, 39, 51]) (len := 27) (tg := 28) hx (by decide +kernel) ?_
    refine iw_aload_n (i := 0) (pc' := 29) 0 rfl (by decide +kernel) ?_
    refine iw_getr (pc' := 32) (q := 61) ic_fk8 cO_1 rfl lkf_X8_40 (by decide +kernel) ?_
    refine iw_aload_n (i := 0) (pc' := 33) 0 rfl (by decide +kernel) ?_
    refine iw_getr (pc' := 36) (q := (ic_ld sw)) ic_fk8 cO_1 rfl lkf_X8_61 (by decide +kernel) ?_
    obtain ⟨q21, hc, hf⟩ := ic_bd hf
    refine iw_callV (pc' := 39) (S0 := []) (S1 := [.int q21.1]) (c1 := 0) (s1 := 0) (k := 1) (ct_X6_howMany l κ sw μ (ic_ld sw) (ic_ldO sw) hc) cO_61 ⟨rfl, rfl⟩ mv_X6_howMany lkm_X8_277 ⟨rfl, rfl⟩ (ic_sum8 trivial (Nat.le_of_ble_eq_true rfl)) (by unfold ic_rm; decide +kernel) ⟨rfl, rfl, rfl⟩ ⟨Nat.le_of_ble_eq_true rfl, Nat.le_of_ble_eq_true rfl⟩ ?_
    exact iw_ireturn (ic_q1 (Option.some.inj hf)) rfl (ic_q2 (Option.some.inj hf)) (by decide +kernel)
  · refine iw_case hf (fun hx hf => ?_) (fun hn1 hf => ?_)
    · refine iw_tableIn (v := (1 : Int32)) (dflt := 63) (lo := 0) (hi := 2) (off := 39) (offs := #[27, 39, 51]) (len := 27) (tg := 40) hx (by decide +kernel) ?_
      refine iw_aload_n (i := 0) (pc' := 41) 0 rfl (by decide +kernel) ?_
      refine iw_getr (pc' := 44) (q := 61) ic_fk8 cO_1 rfl lkf_X8_40 (by decide +kernel) ?_
      refine iw_aload_n (i := 0) (pc' := 45) 0 rfl (by decide +kernel) ?_
      refine iw_getr (pc' := 48) (q := (ic_ld sw)) ic_fk8 cO_1 rfl lkf_X8_61 (by decide +kernel) ?_
      obtain ⟨q22, hc, hf⟩ := ic_bd hf
      refine iw_callV (pc' := 51) (S0 := []) (S1 := [.int q22.1]) (c1 := 0) (s1 := 0) (k := 1) (ct_X6_least l κ sw μ (ic_ld sw) (ic_ldO sw) hc) cO_61 ⟨rfl, rfl⟩ mv_X6_least lkm_X8_280 ⟨rfl, rfl⟩ (ic_sum8 trivial (Nat.le_of_ble_eq_true rfl)) (by unfold ic_rm; decide +kernel) ⟨rfl, rfl, rfl⟩ ⟨Nat.le_of_ble_eq_true rfl, Nat.le_of_ble_eq_true rfl⟩ ?_
      exact iw_ireturn (ic_q1 (Option.some.inj hf)) rfl (ic_q2 (Option.some.inj hf)) (by decide +kernel)
    · refine iw_case hf (fun hx hf => ?_) (fun hn2 hf => ?_)
      · refine iw_tableIn (v := (2 : Int32)) (dflt := 63) (lo := 0) (hi := 2) (off := 51) (offs := #[27, 39, 51]) (len := 27) (tg := 52) hx (by decide +kernel) ?_
        refine iw_aload_n (i := 0) (pc' := 53) 0 rfl (by decide +kernel) ?_
        refine iw_getr (pc' := 56) (q := 61) ic_fk8 cO_1 rfl lkf_X8_40 (by decide +kernel) ?_
        refine iw_aload_n (i := 0) (pc' := 57) 0 rfl (by decide +kernel) ?_
        refine iw_getr (pc' := 60) (q := (ic_ld sw)) ic_fk8 cO_1 rfl lkf_X8_61 (by decide +kernel) ?_
        obtain ⟨q23, hc, hf⟩ := ic_bd hf
        refine iw_callV (pc' := 63) (S0 := []) (S1 := [.int q23.1]) (c1 := 0) (s1 := 0) (k := 1) (ct_X6_sure l κ sw μ (ic_ld sw) (ic_ldO sw) hc) cO_61 ⟨rfl, rfl⟩ mv_X6_sure lkm_X8_283 ⟨rfl, rfl⟩ (ic_sum8 trivial (Nat.le_of_ble_eq_true rfl)) (by unfold ic_rm; decide +kernel) ⟨rfl, rfl, rfl⟩ ⟨Nat.le_of_ble_eq_true rfl, Nat.le_of_ble_eq_true rfl⟩ ?_
        exact iw_ireturn (ic_q1 (Option.some.inj hf)) rfl (ic_q2 (Option.some.inj hf)) (by decide +kernel)
      · refine iw_tableOut (dflt := 63) (lo := 0) (hi := 2) (offs := #[27, 39, 51]) (len := 27) (tg := 64) (ic_out0_2 hn0 hn1 hn2) (by decide +kernel) ?_
        refine iw_ldc (pc' := 66) lkc_X8_82 (by decide +kernel) ?_
        exact iw_ireturn (ic_q1 (Option.some.inj hf)) rfl (ic_q2 (Option.some.inj hf)) (by decide +kernel)
set_option maxRecDepth 100000 in
set_option maxHeartbeats 4000000 in
theorem ct_X8_ask (l : Launch) (κ : ic_K) (sw : Nat) (μ : ic_M) {R : Int32 × ic_M} (hf : fX8_ask sw μ = some R) : ic_C l κ MX8_ask [ic_rv κ.1 1] 106 (ic_rs sw) μ (some (.int R.1)) 106 (ic_rs sw) R.2 := by
  refine ic_C.of (L := [(0, ic_rv κ.1 1)]) ⟨ic_cat _ _, trivial⟩ ⟨by decide +kernel, Nat.le_of_ble_eq_true rfl⟩ rfl ?_
  unfold fX8_ask at hf
  refine iw_aload_n (i := 0) (pc' := 1) 0 rfl (by decide +kernel) ?_
  refine iw_getr (pc' := 4) (q := 61) ic_fk8 cO_1 rfl lkf_X8_40 (by decide +kernel) ?_
  refine iw_aload_n (i := 0) (pc' := 5) 0 rfl (by decide +kernel) ?_
  refine iw_getr (pc' := 8) (q := (ic_ld sw)) ic_fk8 cO_1 rfl lkf_X8_61 (by decide +kernel) ?_
  obtain ⟨q21, hc, hf⟩ := ic_bd hf
  refine iw_callV (pc' := 11) (S0 := []) (S1 := [.int q21.1]) (c1 := 0) (s1 := 0) (k := 1) (ct_X6_bestQuestion l κ sw μ (ic_ld sw) (ic_ldO sw) hc) cO_61 ⟨rfl, rfl⟩ mv_X6_bestQuestion lkm_X8_286 ⟨rfl, rfl⟩ (ic_sum8 trivial (Nat.le_of_ble_eq_true rfl)) (by unfold ic_rm; decide +kernel) ⟨rfl, rfl, rfl⟩ ⟨Nat.le_of_ble_eq_true rfl, Nat.le_of_ble_eq_true rfl⟩ ?_
  exact iw_ireturn (ic_q1 (Option.some.inj hf)) rfl (ic_q2 (Option.some.inj hf)) (by decide +kernel)
set_option maxRecDepth 100000 in
set_option maxHeartbeats 4000000 in
theorem ct_X8_write (l : Launch) (κ : ic_K) (sw : Nat) (μ : ic_M) (x1 : Int32) (x2 : Int32) {R : Int32 × ic_M} (hf : fX8_write sw μ x1 x2 = some R) : ic_C l κ MX8_write [ic_rv κ.1 1, .int x1, .int x2] 106 (ic_rs sw) μ (some (.int R.1)) 106 (ic_rs sw) R.2 := by
  refine ic_C.of (L := [(0, ic_rv κ.1 1), (1, .int x1), (2, .int x2)]) ⟨ic_cat _ _, rfl, rfl, trivial⟩ ⟨by decide +kernel, Nat.le_of_ble_eq_true rfl⟩ rfl ?_
  unfold fX8_write at hf
  refine iw_aload_n (i := 0) (pc' := 1) 0 rfl (by decide +kernel) ?_
  refine iw_iload_n (i := 1) (pc' := 2) 1 rfl (by decide +kernel) ?_
  obtain ⟨v21, hc, hf⟩ := ic_bd hf
  refine iw_callV (pc' := 5) (S0 := []) (S1 := [.int v21]) (c1 := 0) (s1 := 0) (k := 1) (ct_X8_isCell l κ sw μ x1 hc) cO_1 ⟨rfl, rfl⟩ mv_X8_isCell lkm_X8_147 ⟨rfl, rfl⟩ (ic_sum8 trivial (Nat.le_of_ble_eq_true rfl)) (by unfold ic_rm; decide +kernel) ⟨rfl, rfl, rfl⟩ ⟨Nat.le_of_ble_eq_true rfl, Nat.le_of_ble_eq_true rfl⟩ ?_
  refine iw_if_ne (off := 6) (tg := 11) (pc' := 8) hf (by decide +kernel) (fun hf => ?_) (fun hf => ?_)
  · refine iw_iload_n (i := 2) (pc' := 12) 2 rfl (by decide +kernel) ?_
    refine iw_iconst (i := 0) (v := (0 : Int32)) (pc' := 13) (by decide +kernel) ?_
    refine iw_bipush (i := 60) (v := (60 : Int32)) (pc' := 15) (by decide +kernel) ?_
    obtain ⟨v22, hc, hf⟩ := ic_bd hf
    refine iw_callS (pc' := 18) (S0 := []) (S1 := [.int v22]) (c1 := 0) (s1 := 0) (k := 3) (ct_X8_isWithin l κ sw μ x2 (0 : Int32) (60 : Int32) hc) ms_X8_isWithin lkm_X8_78 ⟨rfl, rfl⟩ (ic_sum8 trivial (Nat.le_of_ble_eq_true rfl)) (by unfold ic_rm; decide +kernel) ⟨rfl, rfl, rfl⟩ ⟨Nat.le_of_ble_eq_true rfl, Nat.le_of_ble_eq_true rfl⟩ ?_
    refine iw_if_ne (off := 6) (tg := 24) (pc' := 21) hf (by decide +kernel) (fun hf => ?_) (fun hf => ?_)
    · refine iw_aload_n (i := 0) (pc' := 25) 0 rfl (by decide +kernel) ?_
      refine iw_getr (pc' := 28) (q := 66) ic_fk8 cO_1 rfl lkf_X8_47 (by decide +kernel) ?_
      refine iw_iload_n (i := 1) (pc' := 29) 1 rfl (by decide +kernel) ?_
      refine iw_iload_n (i := 2) (pc' := 30) 2 rfl (by decide +kernel) ?_
      obtain ⟨q23, hc, hf⟩ := ic_bd hf
      refine iw_callV (pc' := 33) (S0 := []) (S1 := [.int q23.1]) (c1 := 0) (s1 := 0) (k := 2) (ct_X0_add l κ sw μ x1 x2 hc) cO_66 ⟨rfl, rfl⟩ mv_X0_add lkm_X8_289 ⟨rfl, rfl⟩ (ic_sum8 trivial (Nat.le_of_ble_eq_true rfl)) (by unfold ic_rm; decide +kernel) ⟨rfl, rfl, rfl⟩ ⟨Nat.le_of_ble_eq_true rfl, Nat.le_of_ble_eq_true rfl⟩ ?_
      obtain ⟨q24, hf, hgq24⟩ := ic_bd hf
      have hjq24 : ic_W l κ MX8_write ic_X0 (ic_Z κ MX8_write (some (.int R.1)) 106 (ic_rs sw) R.2) 48 [] [.int q24] 106 (ic_rs sw) q23.2 0 0 := by
        have hf := hgq24
        exact iw_ireturn (ic_q1 (Option.some.inj hf)) rfl (ic_q2 (Option.some.inj hf)) (by decide +kernel)
      refine iw_if_eq (off := 13) (tg := 46) (pc' := 36) hf (by decide +kernel) (fun hf => ?_) (fun hf => ?_)
      · refine iw_ldc (pc' := 48) lkc_X8_90 (by decide +kernel) ?_
        obtain rfl := Option.some.inj hf
        exact iw_sub [] rfl hjq24
      · refine iw_aload_n (i := 0) (pc' := 37) 0 rfl (by decide +kernel) ?_
        refine iw_getr (pc' := 40) (q := 66) ic_fk8 cO_1 rfl lkf_X8_47 (by decide +kernel) ?_
        refine iw_geti (pc' := 43) ic_fk0 cO_66 lkf_X8_106 (by decide +kernel) ?_
        refine iw_goto (off := 5) (pc' := 48) (by decide +kernel) ?_
        obtain rfl := Option.some.inj hf
        exact iw_sub [] rfl hjq24
    · refine iw_ldc (pc' := 23) lkc_X8_82 (by decide +kernel) ?_
      exact iw_ireturn (ic_q1 (Option.some.inj hf)) rfl (ic_q2 (Option.some.inj hf)) (by decide +kernel)
  · refine iw_ldc (pc' := 10) lkc_X8_150 (by decide +kernel) ?_
    exact iw_ireturn (ic_q1 (Option.some.inj hf)) rfl (ic_q2 (Option.some.inj hf)) (by decide +kernel)
