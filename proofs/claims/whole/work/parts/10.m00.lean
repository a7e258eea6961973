def MX0_add : ic_Md := (yX0_add, cX0_add, 3, (some .boolean), { frames := 0, cells := 0, slots := 0, locals := 0 })
theorem mv_X0_add : ic_MV MX0_add := ⟨ic_in 854 (by decide +kernel), ic_in 855 (by decide +kernel), ic_in 76 (by decide +kernel), ic_in 856 (by decide +kernel), by decide +kernel, by decide +kernel⟩
def MX1_inchesOf : ic_Md := (yX1_inchesOf, cX1_inchesOf, 2, (some .int), { frames := 0, cells := 0, slots := 0, locals := 0 })
theorem mv_X1_inchesOf : ic_MV MX1_inchesOf := ⟨ic_in 446 (by decide +kernel), ic_in 447 (by decide +kernel), ic_in 72 (by decide +kernel), ic_in 448 (by decide +kernel), by decide +kernel, by decide +kernel⟩
def MX0_firstWrong : ic_Md := (yX0_firstWrong, cX0_firstWrong, 3, (some .int), { frames := 1, cells := 0, slots := 0, locals := 21 })
theorem mv_X0_firstWrong : ic_MV MX0_firstWrong := ⟨ic_in 866 (by decide +kernel), ic_in 867 (by decide +kernel), ic_in 76 (by decide +kernel), ic_in 868 (by decide +kernel), by decide +kernel, by decide +kernel⟩
def MX5_listed : ic_Md := (yX5_listed, cX5_listed, 4, (some .int), { frames := 0, cells := 0, slots := 0, locals := 0 })
theorem ms_X5_listed : ic_MS MX5_listed := ⟨ic_in 424 (by decide +kernel), ic_in 78 (by decide +kernel), ic_in 425 (by decide +kernel), by decide +kernel, by decide +kernel⟩
def MX5_thickAt : ic_Md := (yX5_thickAt, cX5_thickAt, 2, (some .int), { frames := 1, cells := 0, slots := 0, locals := 23 })
theorem mv_X5_thickAt : ic_MV MX5_thickAt := ⟨ic_in 420 (by decide +kernel), ic_in 421 (by decide +kernel), ic_in 78 (by decide +kernel), ic_in 422 (by decide +kernel), by decide +kernel, by decide +kernel⟩
def MJ7_fill_53178 : ic_Md := (yJ7_fill_53178, cJ7_fill_53178, 4, none, { frames := 0, cells := 0, slots := 0, locals := 0 })
theorem ms_J7_fill_53178 : ic_MS MJ7_fill_53178 := ⟨ic_in 427 (by decide +kernel), ic_in 80 (by decide +kernel), ic_in 428 (by decide +kernel), by decide +kernel, by decide +kernel⟩
def MX1_begin : ic_Md := (yX1_begin, cX1_begin, 3, none, { frames := 2, cells := 0, slots := 0, locals := 44 })
theorem mv_X1_begin : ic_MV MX1_begin := ⟨ic_in 416 (by decide +kernel), ic_in 417 (by decide +kernel), ic_in 72 (by decide +kernel), ic_in 418 (by decide +kernel), by decide +kernel, by decide +kernel⟩
def MX1_placeOf : ic_Md := (yX1_placeOf, cX1_placeOf, 2, (some .int), { frames := 0, cells := 0, slots := 0, locals := 0 })
theorem mv_X1_placeOf : ic_MV MX1_placeOf := ⟨ic_in 466 (by decide +kernel), ic_in 467 (by decide +kernel), ic_in 72 (by decide +kernel), ic_in 468 (by decide +kernel), by decide +kernel, by decide +kernel⟩
def MX1_copyFrom : ic_Md := (yX1_copyFrom, cX1_copyFrom, 3, none, { frames := 1, cells := 0, slots := 0, locals := 21 })
theorem mv_X1_copyFrom : ic_MV MX1_copyFrom := ⟨ic_in 554 (by decide +kernel), ic_in 555 (by decide +kernel), ic_in 72 (by decide +kernel), ic_in 556 (by decide +kernel), by decide +kernel, by decide +kernel⟩
def MX1_setInches : ic_Md := (yX1_setInches, cX1_setInches, 3, none, { frames := 0, cells := 0, slots := 0, locals := 0 })
theorem mv_X1_setInches : ic_MV MX1_setInches := ⟨ic_in 580 (by decide +kernel), ic_in 14 (by decide +kernel), ic_in 72 (by decide +kernel), ic_in 581 (by decide +kernel), by decide +kernel, by decide +kernel⟩
def MX1_putPerson : ic_Md := (yX1_putPerson, cX1_putPerson, 3, none, { frames := 0, cells := 0, slots := 0, locals := 0 })
theorem mv_X1_putPerson : ic_MV MX1_putPerson := ⟨ic_in 595 (by decide +kernel), ic_in 596 (by decide +kernel), ic_in 72 (by decide +kernel), ic_in 597 (by decide +kernel), by decide +kernel, by decide +kernel⟩
def MX1_isHole : ic_Md := (yX1_isHole, cX1_isHole, 2, (some .boolean), { frames := 1, cells := 0, slots := 0, locals := 21 })
theorem mv_X1_isHole : ic_MV MX1_isHole := ⟨ic_in 442 (by decide +kernel), ic_in 443 (by decide +kernel), ic_in 72 (by decide +kernel), ic_in 444 (by decide +kernel), by decide +kernel, by decide +kernel⟩
def MX8_isIn : ic_Md := (yX8_isIn, cX8_isIn, 2, (some .boolean), { frames := 0, cells := 0, slots := 0, locals := 0 })
theorem ms_X8_isIn : ic_MS MX8_isIn := ⟨ic_in 474 (by decide +kernel), ic_in 70 (by decide +kernel), ic_in 475 (by decide +kernel), by decide +kernel, by decide +kernel⟩
def MX1_isSnowy : ic_Md := (yX1_isSnowy, cX1_isSnowy, 2, (some .boolean), { frames := 1, cells := 0, slots := 0, locals := 21 })
theorem mv_X1_isSnowy : ic_MV MX1_isSnowy := ⟨ic_in 566 (by decide +kernel), ic_in 567 (by decide +kernel), ic_in 72 (by decide +kernel), ic_in 568 (by decide +kernel), by decide +kernel, by decide +kernel⟩
def MX1_laySnow : ic_Md := (yX1_laySnow, cX1_laySnow, 3, none, { frames := 0, cells := 0, slots := 0, locals := 0 })
theorem mv_X1_laySnow : ic_MV MX1_laySnow := ⟨ic_in 646 (by decide +kernel), ic_in 647 (by decide +kernel), ic_in 72 (by decide +kernel), ic_in 648 (by decide +kernel), by decide +kernel, by decide +kernel⟩
def MX1_bears : ic_Md := (yX1_bears, cX1_bears, 3, (some .int), { frames := 1, cells := 0, slots := 0, locals := 21 })
theorem mv_X1_bears : ic_MV MX1_bears := ⟨ic_in 454 (by decide +kernel), ic_in 455 (by decide +kernel), ic_in 72 (by decide +kernel), ic_in 456 (by decide +kernel), by decide +kernel, by decide +kernel⟩
def MX5_nextTo : ic_Md := (yX5_nextTo, cX5_nextTo, 3, (some .int), { frames := 0, cells := 0, slots := 0, locals := 0 })
theorem mv_X5_nextTo : ic_MV MX5_nextTo := ⟨ic_in 462 (by decide +kernel), ic_in 463 (by decide +kernel), ic_in 78 (by decide +kernel), ic_in 464 (by decide +kernel), by decide +kernel, by decide +kernel⟩
def MX5_weightOf : ic_Md := (yX5_weightOf, cX5_weightOf, 2, (some .int), { frames := 0, cells := 0, slots := 0, locals := 0 })
theorem mv_X5_weightOf : ic_MV MX5_weightOf := ⟨ic_in 470 (by decide +kernel), ic_in 471 (by decide +kernel), ic_in 78 (by decide +kernel), ic_in 472 (by decide +kernel), by decide +kernel, by decide +kernel⟩
def MX1_load : ic_Md := (yX1_load, cX1_load, 7, (some .int), { frames := 1, cells := 0, slots := 0, locals := 22 })
theorem mv_X1_load : ic_MV MX1_load := ⟨ic_in 458 (by decide +kernel), ic_in 459 (by decide +kernel), ic_in 72 (by decide +kernel), ic_in 460 (by decide +kernel), by decide +kernel, by decide +kernel⟩
def MX1_spare : ic_Md := (yX1_spare, cX1_spare, 3, (some .int), { frames := 2, cells := 0, slots := 0, locals := 48 })
theorem mv_X1_spare : ic_MV MX1_spare := ⟨ic_in 489 (by decide +kernel), ic_in 490 (by decide +kernel), ic_in 72 (by decide +kernel), ic_in 491 (by decide +kernel), by decide +kernel, by decide +kernel⟩
def MX1_personsOn : ic_Md := (yX1_personsOn, cX1_personsOn, 5, (some .int), { frames := 1, cells := 0, slots := 0, locals := 21 })
theorem mv_X1_personsOn : ic_MV MX1_personsOn := ⟨ic_in 481 (by decide +kernel), ic_in 482 (by decide +kernel), ic_in 72 (by decide +kernel), ic_in 483 (by decide +kernel), by decide +kernel, by decide +kernel⟩
def MX1_drowned : ic_Md := (yX1_drowned, cX1_drowned, 2, (some .int), { frames := 2, cells := 0, slots := 0, locals := 45 })
theorem mv_X1_drowned : ic_MV MX1_drowned := ⟨ic_in 477 (by decide +kernel), ic_in 478 (by decide +kernel), ic_in 72 (by decide +kernel), ic_in 479 (by decide +kernel), by decide +kernel, by decide +kernel⟩
def MX1_holes : ic_Md := (yX1_holes, cX1_holes, 4, (some .int), { frames := 2, cells := 0, slots := 0, locals := 42 })
theorem mv_X1_holes : ic_MV MX1_holes := ⟨ic_in 438 (by decide +kernel), ic_in 439 (by decide +kernel), ic_in 72 (by decide +kernel), ic_in 440 (by decide +kernel), by decide +kernel, by decide +kernel⟩
def MX1_openRows : ic_Md := (yX1_openRows, cX1_openRows, 6, (some .int), { frames := 3, cells := 0, slots := 0, locals := 65 })
theorem mv_X1_openRows : ic_MV MX1_openRows := ⟨ic_in 795 (by decide +kernel), ic_in 796 (by decide +kernel), ic_in 72 (by decide +kernel), ic_in 797 (by decide +kernel), by decide +kernel, by decide +kernel⟩
def MX1_cracking : ic_Md := (yX1_cracking, cX1_cracking, 6, (some .int), { frames := 2, cells := 0, slots := 0, locals := 48 })
theorem mv_X1_cracking : ic_MV MX1_cracking := ⟨ic_in 450 (by decide +kernel), ic_in 451 (by decide +kernel), ic_in 72 (by decide +kernel), ic_in 452 (by decide +kernel), by decide +kernel, by decide +kernel⟩
def MX1_weakest : ic_Md := (yX1_weakest, cX1_weakest, 4, (some .int), { frames := 3, cells := 0, slots := 0, locals := 70 })
theorem mv_X1_weakest : ic_MV MX1_weakest := ⟨ic_in 485 (by decide +kernel), ic_in 486 (by decide +kernel), ic_in 72 (by decide +kernel), ic_in 487 (by decide +kernel), by decide +kernel, by decide +kernel⟩
def MX1_overloaded : ic_Md := (yX1_overloaded, cX1_overloaded, 4, (some .int), { frames := 2, cells := 0, slots := 0, locals := 48 })
theorem mv_X1_overloaded : ic_MV MX1_overloaded := ⟨ic_in 587 (by decide +kernel), ic_in 588 (by decide +kernel), ic_in 72 (by decide +kernel), ic_in 589 (by decide +kernel), by decide +kernel, by decide +kernel⟩
theorem lkf_X0_18 : Cond.fieldLink RX0 18 RX0 (TX0 2).2.1 (TX0 2).2.2.1 ∈ ic_tb := ic_in 211 (by decide +kernel)
theorem lkf_X0_9 : Cond.fieldLink RX0 9 RX0 (TX0 0).2.1 (TX0 0).2.2.1 ∈ ic_tb := ic_in 209 (by decide +kernel)
theorem lkf_X0_15 : Cond.fieldLink RX0 15 RX0 (TX0 1).2.1 (TX0 1).2.2.1 ∈ ic_tb := ic_in 210 (by decide +kernel)
theorem lkf_X1_9 : Cond.fieldLink RX1 9 RX1 (TX1 0).2.1 (TX1 0).2.2.1 ∈ ic_tb := ic_in 123 (by decide +kernel)
theorem lkm_X0_22 : Cond.methodLink RX0 22 yX1_inchesOf ∈ ic_tb := ic_in 869 (by decide +kernel)
theorem lkf_X5_9 : Cond.fieldLink RX5 9 RX5 (TX5 0).2.1 (TX5 0).2.2.1 ∈ ic_tb := ic_in 243 (by decide +kernel)
theorem lkf_X5_43 : Cond.fieldLink RX5 43 RX5 (TX5 5).2.1 (TX5 5).2.2.1 ∈ ic_tb := ic_in 251 (by decide +kernel)
theorem lkm_X5_52 : Cond.methodLink RX5 52 yX5_listed ∈ ic_tb := ic_in 423 (by decide +kernel)
theorem lkf_X1_22 : Cond.fieldLink RX1 22 RX5 (TX5 11).2.1 (TX5 11).2.2.1 ∈ ic_tb := ic_in 270 (by decide +kernel)
theorem lkm_X1_27 : Cond.methodLink RX1 27 yX5_thickAt ∈ ic_tb := ic_in 419 (by decide +kernel)
theorem lkf_X1_15 : Cond.fieldLink RX1 15 RX1 (TX1 1).2.1 (TX1 1).2.2.1 ∈ ic_tb := ic_in 124 (by decide +kernel)
theorem lkf_X1_37 : Cond.fieldLink RX1 37 RX1 (TX1 2).2.1 (TX1 2).2.2.1 ∈ ic_tb := ic_in 125 (by decide +kernel)
theorem lkf_X1_40 : Cond.fieldLink RX1 40 RX1 (TX1 3).2.1 (TX1 3).2.2.1 ∈ ic_tb := ic_in 128 (by decide +kernel)
theorem lkf_X1_18 : Cond.fieldLink RX1 18 RX1 (TX1 4).2.1 (TX1 4).2.2.1 ∈ ic_tb := ic_in 130 (by decide +kernel)
theorem lkf_X1_43 : Cond.fieldLink RX1 43 RX1 (TX1 5).2.1 (TX1 5).2.2.1 ∈ ic_tb := ic_in 132 (by decide +kernel)
theorem lkm_X1_31 : Cond.methodLink RX1 31 yJ7_fill_53178 ∈ ic_tb := ic_in 426 (by decide +kernel)
theorem lkm_X1_46 : Cond.methodLink RX1 46 yX1_inchesOf ∈ ic_tb := ic_in 445 (by decide +kernel)
theorem lkm_X1_49 : Cond.methodLink RX1 49 yX1_placeOf ∈ ic_tb := ic_in 465 (by decide +kernel)
theorem lkm_X1_52 : Cond.methodLinkNest RX1 52 yX8_isIn "IceLaw" ∈ ic_tb := ic_in 473 (by decide +kernel)
theorem lkf_X1_56 : Cond.fieldLink RX1 56 RX5 (TX5 10).2.1 (TX5 10).2.2.1 ∈ ic_tb := ic_in 268 (by decide +kernel)
theorem lkf_X5_27 : Cond.fieldLink RX5 27 RX5 (TX5 8).2.1 (TX5 8).2.2.1 ∈ ic_tb := ic_in 257 (by decide +kernel)
theorem lkf_X5_37 : Cond.fieldLink RX5 37 RX5 (TX5 11).2.1 (TX5 11).2.2.1 ∈ ic_tb := ic_in 269 (by decide +kernel)
theorem lkf_X5_24 : Cond.fieldLink RX5 24 RX5 (TX5 4).2.1 (TX5 4).2.2.1 ∈ ic_tb := ic_in 250 (by decide +kernel)
theorem lkf_X1_62 : Cond.fieldLink RX1 62 RX5 (TX5 12).2.1 (TX5 12).2.2.1 ∈ ic_tb := ic_in 278 (by decide +kernel)
theorem lkm_X1_65 : Cond.methodLink RX1 65 yX5_weightOf ∈ ic_tb := ic_in 469 (by decide +kernel)
theorem lkm_X1_59 : Cond.methodLink RX1 59 yX5_nextTo ∈ ic_tb := ic_in 461 (by decide +kernel)
theorem lkm_X1_72 : Cond.methodLink RX1 72 yX1_load ∈ ic_tb := ic_in 457 (by decide +kernel)
theorem lkm_X1_68 : Cond.methodLink RX1 68 yX1_bears ∈ ic_tb := ic_in 453 (by decide +kernel)
theorem lkm_X1_75 : Cond.methodLink RX1 75 yX1_personsOn ∈ ic_tb := ic_in 480 (by decide +kernel)
theorem lkm_X1_78 : Cond.methodLink RX1 78 yX1_isHole ∈ ic_tb := ic_in 441 (by decide +kernel)
theorem lkf_X1_86 : Cond.fieldLink RX1 86 RX5 (TX5 8).2.1 (TX5 8).2.2.1 ∈ ic_tb := ic_in 260 (by decide +kernel)
theorem lkf_X1_89 : Cond.fieldLink RX1 89 RX5 (TX5 9).2.1 (TX5 9).2.2.1 ∈ ic_tb := ic_in 263 (by decide +kernel)
theorem lkm_X1_82 : Cond.methodLink RX1 82 yX1_holes ∈ ic_tb := ic_in 604 (by decide +kernel)
theorem lkm_X1_92 : Cond.methodLink RX1 92 yX1_spare ∈ ic_tb := ic_in 488 (by decide +kernel)
def fX0_add (μ : ic_M) (x1 : Int32) (x2 : Int32) : Option (Int32 × ic_M) := (if (μ 66 2) < 0 then ic_rz (0 : Int32) (some ((0 : Int32), μ)) else (if (15 : Int32) ≤ (μ 66 2) then ic_rz (0 : Int32) (some ((0 : Int32), μ)) else (if (μ 66 2) < (15 : Int32) then ic_as μ 67 15 (μ 66 2) x1 (fun m21 => ic_as m21 68 15 (m21 66 2) x2 (fun m22 => ic_pu m22 66 2 ((m22 66 2) + (1 : Int32)) (fun m23 => ic_rz (1 : Int32) (some ((1 : Int32), m23))))) else ic_rz (0 : Int32) (some ((0 : Int32), μ)))))
def fX1_inchesOf (μ : ic_M) (r0 : Nat) (x1 : Int32) : Option (Int32) := Option.bind (if x1 < 0 then some (0 : Int32) else (if (18 : Int32) ≤ x1 then some (0 : Int32) else ic_ag μ (r0 + 1) 18 x1 (fun v22 => some v22))) (fun q21 => some q21)
def lpX0_firstWrong_2 (μ : ic_M) (r1_ : Nat) : Nat → Int32 → Option ((Unit) ⊕ (Int32))
  | 0, _ => none
  | fu + 1, y2_ => (if (μ 66 2) ≤ y2_ then some (.inl ()) else (if (15 : Int32) ≤ y2_ then some (.inl ()) else (if (15 : Int32) ≤ y2_ then some (.inl ()) else ic_ag μ 67 15 y2_ (fun v21 => Option.bind (fX1_inchesOf μ r1_ v21) (fun v22 => ic_ag μ 68 15 y2_ (fun v23 => (if v22 = v23 then ic_lt (y2_ + (1 : Int32)) (fun x24 => lpX0_firstWrong_2 μ r1_ fu x24) else some (.inr y2_))))))))
def fX0_firstWrong (μ : ic_M) (r1 : Nat) : Option (Int32) := Option.bind (lpX0_firstWrong_2 μ r1 1000 (0 : Int32)) (fun q25 => Sum.elim (fun t26 => some (-1 : Int32)) some q25)
def fX5_listed (μ : ic_M) (r0 : Nat) (x1 : Int32) (x2 : Int32) (x3 : Int32) : Option (Int32) := (if x2 < 0 then some x3 else (if x1 < (1 : Int32) then some x3 else ic_ln r0 ((if x1 ≤ (Int32.ofNat (ic_il 106 r0)) then (if x1 = 0 then none else ic_ag μ r0 (ic_il 106 r0) (x2 - x2 / x1 * x1) (fun v21 => some v21)) else some x3))))
def fX5_thickAt (μ : ic_M) (r0 : Nat) (x1 : Int32) : Option (Int32) := Option.bind (fX5_listed μ (r0 + 1) (μ r0 5) x1 (10 : Int32)) (fun v21 => some v21)
def lpJ7_fill_53178_5 (r0_ : Nat) (x1_ : Int32) (x3_ : Int32) : Nat → Int32 → ic_M → Option (ic_M)
  | 0, _, _ => none
  | fu + 1, y2_, μ => (if x3_ ≤ y2_ then some μ else ic_as μ r0_ (ic_il 106 r0_) y2_ x1_ (fun m22 => ic_lt (y2_ + (1 : Int32)) (fun x23 => lpJ7_fill_53178_5 r0_ x1_ x3_ fu x23 m22)))
def fJ7_fill_53178 (μ : ic_M) (r0 : Nat) (x1 : Int32) : Option (ic_M) := ic_ln r0 (ic_lt ((Int32.ofNat (ic_il 106 r0))) (fun x21 => Option.bind (lpJ7_fill_53178_5 r0 x1 x21 1000 (0 : Int32) μ) (fun q24 => some q24)))
def lpX1_begin_2 (r0_ : Nat) (r1_ : Nat) : Nat → Int32 → ic_M → Option (ic_M)
  | 0, _, _ => none
  | fu + 1, y2_, μ => (if (18 : Int32) ≤ y2_ then some μ else Option.bind (if (μ r1_ 11) ≤ y2_ then some (0 : Int32) else Option.bind (fX5_thickAt μ r1_ y2_) (fun v22 => some v22)) (fun q21 => ic_as μ (r0_ + 1) 18 y2_ q21 (fun m23 => ic_lt (y2_ + (1 : Int32)) (fun x24 => lpX1_begin_2 r0_ r1_ fu x24 m23))))
def fX1_begin (μ : ic_M) (r0 : Nat) (r1 : Nat) : Option (ic_M) := Option.bind (lpX1_begin_2 r0 r1 1000 (0 : Int32) μ) (fun q25 => Option.bind (fJ7_fill_53178 q25 (r0 + 2) (-1 : Int32)) (fun m26 => ic_pu m26 r0 2 (0 : Int32) (fun m27 => ic_pu m27 r0 3 (0 : Int32) (fun m28 => ic_pu m28 r0 4 (-1 : Int32) (fun m29 => ic_pu m29 r0 5 (0 : Int32) (fun m30 => some m30))))))
def fX1_placeOf (μ : ic_M) (r0 : Nat) (x1 : Int32) : Option (Int32) := Option.bind (if x1 < 0 then some (-2 : Int32) else (if (6 : Int32) ≤ x1 then some (-2 : Int32) else ic_ag μ (r0 + 2) 6 x1 (fun v22 => some v22))) (fun q21 => some q21)
def lpX1_copyFrom_2 (r0_ : Nat) (r1_ : Nat) : Nat → Int32 → ic_M → Option (ic_M)
  | 0, _, _ => none
  | fu + 1, y2_, μ => (if (18 : Int32) ≤ y2_ then some μ else Option.bind (fX1_inchesOf μ r1_ y2_) (fun v21 => ic_as μ (r0_ + 1) 18 y2_ v21 (fun m22 => ic_lt (y2_ + (1 : Int32)) (fun x23 => lpX1_copyFrom_2 r0_ r1_ fu x23 m22))))
def lpX1_copyFrom_30 (r0_ : Nat) (r1_ : Nat) : Nat → Int32 → ic_M → Option (ic_M)
  | 0, _, _ => none
  | fu + 1, y2_, μ => (if (6 : Int32) ≤ y2_ then some μ else Option.bind (fX1_placeOf μ r1_ y2_) (fun v25 => ic_as μ (r0_ + 2) 6 y2_ v25 (fun m26 => ic_lt (y2_ + (1 : Int32)) (fun x27 => lpX1_copyFrom_30 r0_ r1_ fu x27 m26))))
def fX1_copyFrom (μ : ic_M) (r0 : Nat) (r1 : Nat) : Option (ic_M) := Option.bind (lpX1_copyFrom_2 r0 r1 1000 (0 : Int32) μ) (fun q24 => Option.bind (lpX1_copyFrom_30 r0 r1 1000 (0 : Int32) q24) (fun q28 => ic_pu q28 r0 2 (q28 r1 2) (fun m29 => ic_pu m29 r0 3 (m29 r1 3) (fun m30 => ic_pu m30 r0 4 (m30 r1 4) (fun m31 => ic_pu m31 r0 5 (m31 r1 5) (fun m32 => some m32))))))
def fX1_setInches (μ : ic_M) (r0 : Nat) (x1 : Int32) (x2 : Int32) : Option (ic_M) := Option.bind (if x1 < 0 then some μ else (if (18 : Int32) ≤ x1 then some μ else ic_as μ (r0 + 1) 18 x1 x2 (fun m22 => some m22))) (fun q21 => some q21)
def fX1_putPerson (μ : ic_M) (r0 : Nat) (x1 : Int32) (x2 : Int32) : Option (ic_M) := Option.bind (if x1 < 0 then some μ else (if (6 : Int32) ≤ x1 then some μ else ic_as μ (r0 + 2) 6 x1 x2 (fun m22 => some m22))) (fun q21 => some q21)
def fX1_isHole (μ : ic_M) (r0 : Nat) (x1 : Int32) : Option (Int32) := Option.bind (fX1_inchesOf μ r0 x1) (fun v21 => Option.bind (if v21 = 0 then some (1 : Int32) else some (0 : Int32)) (fun q22 => ic_rz q22 (some q22)))
def fX8_isIn (μ : ic_M) (x0 : Int32) (x1 : Int32) : Option (Int32) := Option.bind (if x1 < 0 then some (0 : Int32) else (if (31 : Int32) ≤ x1 then some (0 : Int32) else (if ((x0 >>> (x1 &&& 31)) &&& (1 : Int32)) = (1 : Int32) then some (1 : Int32) else some (0 : Int32)))) (fun q21 => ic_rz q21 (some q21))
def fX1_isSnowy (μ : ic_M) (r0 : Nat) (x1 : Int32) : Option (Int32) := Option.bind (fX8_isIn μ (μ r0 2) x1) (fun v21 => ic_rz v21 (some v21))
def fX1_laySnow (μ : ic_M) (r0 : Nat) (x1 : Int32) (x2 : Int32) : Option (ic_M) := Option.bind (if x2 = 0 then some ((μ r0 2) &&& (((1 : Int32) <<< (x1 &&& 31)) ^^^ (-1 : Int32))) else some ((μ r0 2) ||| ((1 : Int32) <<< (x1 &&& 31)))) (fun q21 => ic_pu μ r0 2 q21 (fun m22 => some m22))
def fX1_bears (μ : ic_M) (r0 : Nat) (r1 : Nat) (x2 : Int32) : Option (Int32) := Option.bind (fX1_inchesOf μ r0 x2) (fun v21 => some ((μ r1 10) * v21))
def fX5_nextTo (μ : ic_M) (r0 : Nat) (x1 : Int32) : Option (Int32) := (if (μ r0 8) < (1 : Int32) then some (0 : Int32) else (if x1 < 0 then some (0 : Int32) else (if x1 < (μ r0 11) then Option.bind (if x1 < (μ r0 8) then some (0 : Int32) else ic_lt (((0 : Int32) ||| ((1 : Int32) <<< ((x1 - (μ r0 8)) &&& 31)))) (fun x22 => some x22)) (fun q21 => Option.bind (if (μ r0 11) ≤ (x1 + (μ r0 8)) then some q21 else ic_lt ((q21 ||| ((1 : Int32) <<< ((x1 + (μ r0 8)) &&& 31)))) (fun x24 => some x24)) (fun q23 => (if (μ r0 8) = 0 then none else Option.bind (if (x1 - x1 / (μ r0 8) * (μ r0 8)) ≤ 0 then some q23 else ic_lt ((q23 ||| ((1 : Int32) <<< ((x1 - (1 : Int32)) &&& 31)))) (fun x26 => some x26)) (fun q25 => (if (μ r0 8) = 0 then none else Option.bind (if ((μ r0 8) - (1 : Int32)) ≤ (x1 - x1 / (μ r0 8) * (μ r0 8)) then some q25 else ic_lt ((q25 ||| ((1 : Int32) <<< ((x1 + (1 : Int32)) &&& 31)))) (fun x28 => some x28)) (fun q27 => some q27)))))) else some (0 : Int32))))
def fX5_weightOf (μ : ic_M) (r0 : Nat) (x1 : Int32) : Option (Int32) := Option.bind (if x1 < 0 then some (0 : Int32) else (if (6 : Int32) ≤ x1 then some (0 : Int32) else ic_ag μ (r0 + 5) 6 x1 (fun v22 => some v22))) (fun q21 => some q21)
def lpX1_load_15 (μ : ic_M) (r0_ : Nat) (r1_ : Nat) (x2_ : Int32) (x3_ : Int32) : Nat → Int32 → Int32 → Int32 → Option (Int32 × Int32)
  | 0, _, _, _ => none
  | fu + 1, y4_, y5_, y6_ => (if (μ r1_ 12) ≤ y6_ then some (y4_, y5_) else Option.bind (fX1_placeOf μ r0_ y6_) (fun v22 => Option.bind (if v22 = x2_ then Option.bind (fX5_weightOf μ r1_ y6_) (fun v28 => ic_lt ((y4_ + v28)) (fun x29 => some (x29, y5_))) else Option.bind (fX1_placeOf μ r0_ y6_) (fun v24 => Option.bind (fX8_isIn μ x3_ v24) (fun v25 => (if v25 = 0 then some (y4_, y5_) else Option.bind (fX5_weightOf μ r1_ y6_) (fun v26 => ic_lt ((y5_ + v26)) (fun x27 => some (y4_, x27))))))) (fun q23 => ic_lt (y6_ + (1 : Int32)) (fun x30 => lpX1_load_15 μ r0_ r1_ x2_ x3_ fu q23.1 q23.2 x30))))
def fX1_load (μ : ic_M) (r0 : Nat) (r1 : Nat) (x2 : Int32) : Option (Int32) := Option.bind (fX5_nextTo μ r1 x2) (fun v21 => Option.bind (lpX1_load_15 μ r0 r1 x2 v21 1000 (0 : Int32) (0 : Int32) (0 : Int32)) (fun q31 => (if (2 : Int32) = 0 then none else some (q31.1 + (q31.2 / (2 : Int32))))))
def fX1_spare (μ : ic_M) (r0 : Nat) (r1 : Nat) (x2 : Int32) : Option (Int32) := Option.bind (fX1_bears μ r0 r1 x2) (fun v21 => Option.bind (fX1_load μ r0 r1 x2) (fun v22 => some (v21 - v22)))
def lpX1_personsOn_5 (μ : ic_M) (r0_ : Nat) (r1_ : Nat) (x2_ : Int32) : Nat → Int32 → Int32 → Option (Int32)
  | 0, _, _ => none
  | fu + 1, y3_, y4_ => (if (μ r1_ 12) ≤ y4_ then some y3_ else Option.bind (fX1_placeOf μ r0_ y4_) (fun v21 => Option.bind (if v21 = x2_ then ic_lt ((y3_ ||| ((1 : Int32) <<< (y4_ &&& 31)))) (fun x23 => some x23) else some y3_) (fun q22 => ic_lt (y4_ + (1 : Int32)) (fun x24 => lpX1_personsOn_5 μ r0_ r1_ x2_ fu q22 x24))))
def fX1_personsOn (μ : ic_M) (r0 : Nat) (r1 : Nat) (x2 : Int32) : Option (Int32) := Option.bind (lpX1_personsOn_5 μ r0 r1 x2 1000 (0 : Int32) (0 : Int32)) (fun q25 => some q25)
def fX1_drowned (μ : ic_M) (r0 : Nat) (r1 : Nat) : Option (Int32) := Option.bind (fX1_personsOn μ r0 r1 (-2 : Int32)) (fun v21 => some v21)
def lpX1_holes_4 (μ : ic_M) (r0_ : Nat) (r1_ : Nat) : Nat → Int32 → Int32 → Option (Int32)
  | 0, _, _ => none
  | fu + 1, y2_, y3_ => (if (μ r1_ 11) ≤ y3_ then some y2_ else Option.bind (fX1_isHole μ r0_ y3_) (fun v21 => Option.bind (if v21 = 0 then some y2_ else ic_lt ((y2_ ||| ((1 : Int32) <<< (y3_ &&& 31)))) (fun x23 => some x23)) (fun q22 => ic_lt (y3_ + (1 : Int32)) (fun x24 => lpX1_holes_4 μ r0_ r1_ fu q22 x24))))
def fX1_holes (μ : ic_M) (r0 : Nat) (r1 : Nat) : Option (Int32) := Option.bind (lpX1_holes_4 μ r0 r1 1000 (0 : Int32) (0 : Int32)) (fun q25 => some q25)
def lpX1_openRows_21 (μ : ic_M) (r1_ : Nat) (x2_ : Int32) (x3_ : Int32) : Nat → Int32 → Int32 → Option (Int32)
  | 0, _, _ => none
  | fu + 1, y4_, y5_ => (if (μ r1_ 9) ≤ y5_ then some y4_ else Option.bind (if ((x2_ >>> ((y5_ * (μ r1_ 8)) &&& 31)) &&& x3_) = x3_ then ic_lt (y4_ + (1 : Int32)) (fun x24 => some x24) else some y4_) (fun q23 => ic_lt (y5_ + (1 : Int32)) (fun x25 => lpX1_openRows_21 μ r1_ x2_ x3_ fu q23 x25)))
def fX1_openRows (μ : ic_M) (r0 : Nat) (r1 : Nat) : Option (Int32) := Option.bind (fX1_holes μ r0 r1) (fun v21 => ic_lt ((((1 : Int32) <<< ((μ r1 8) &&& 31)) - (1 : Int32))) (fun x22 => Option.bind (lpX1_openRows_21 μ r1 v21 x22 1000 (0 : Int32) (0 : Int32)) (fun q26 => some q26)))
def lpX1_cracking_4 (μ : ic_M) (r0_ : Nat) (r1_ : Nat) : Nat → Int32 → Int32 → Option (Int32)
  | 0, _, _ => none
  | fu + 1, y2_, y3_ => (if (μ r1_ 11) ≤ y3_ then some y2_ else Option.bind (fX1_bears μ r0_ r1_ y3_) (fun v21 => Option.bind (fX1_load μ r0_ r1_ y3_) (fun v22 => (if (4 : Int32) = 0 then none else Option.bind (if v22 ≤ ((v21 * (3 : Int32)) / (4 : Int32)) then some y2_ else (if v21 < v22 then some y2_ else ic_lt ((y2_ ||| ((1 : Int32) <<< (y3_ &&& 31)))) (fun x24 => some x24))) (fun q23 => ic_lt (y3_ + (1 : Int32)) (fun x25 => lpX1_cracking_4 μ r0_ r1_ fu q23 x25))))))
def fX1_cracking (μ : ic_M) (r0 : Nat) (r1 : Nat) : Option (Int32) := Option.bind (lpX1_cracking_4 μ r0 r1 1000 (0 : Int32) (0 : Int32)) (fun q26 => some q26)
def lpX1_weakest_4 (μ : ic_M) (r0_ : Nat) (r1_ : Nat) : Nat → Int32 → Int32 → Option (Int32)
  | 0, _, _ => none
  | fu + 1, y2_, y3_ => (if (μ r1_ 11) ≤ y3_ then some y2_ else Option.bind (fX1_isHole μ r0_ y3_) (fun v21 => Option.bind (if v21 = 0 then (if y2_ = (-1 : Int32) then some y3_ else Option.bind (fX1_spare μ r0_ r1_ y3_) (fun v23 => Option.bind (fX1_spare μ r0_ r1_ y2_) (fun v24 => (if v24 ≤ v23 then some y2_ else some y3_)))) else some y2_) (fun q22 => ic_lt (y3_ + (1 : Int32)) (fun x25 => lpX1_weakest_4 μ r0_ r1_ fu q22 x25))))
def fX1_weakest (μ : ic_M) (r0 : Nat) (r1 : Nat) : Option (Int32) := Option.bind (lpX1_weakest_4 μ r0 r1 1000 (-1 : Int32) (0 : Int32)) (fun q26 => some q26)
def lpX1_overloaded_4 (μ : ic_M) (r0_ : Nat) (r1_ : Nat) : Nat → Int32 → Int32 → Option (Int32)
  | 0, _, _ => none
  | fu + 1, y2_, y3_ => (if (μ r1_ 11) ≤ y3_ then some y2_ else Option.bind (fX1_isHole μ r0_ y3_) (fun v21 => Option.bind (if v21 = 0 then Option.bind (fX1_load μ r0_ r1_ y3_) (fun v23 => Option.bind (fX1_bears μ r0_ r1_ y3_) (fun v24 => (if v23 ≤ v24 then some y2_ else ic_lt ((y2_ ||| ((1 : Int32) <<< (y3_ &&& 31)))) (fun x25 => some x25)))) else some y2_) (fun q22 => ic_lt (y3_ + (1 : Int32)) (fun x26 => lpX1_overloaded_4 μ r0_ r1_ fu q22 x26))))
def fX1_overloaded (μ : ic_M) (r0 : Nat) (r1 : Nat) : Option (Int32) := Option.bind (lpX1_overloaded_4 μ r0 r1 1000 (0 : Int32) (0 : Int32)) (fun q27 => some q27)
set_option maxRecDepth 100000 in
set_option maxHeartbeats 4000000 in
theorem ct_X0_add (l : Launch) (κ : ic_K) (sw : Nat) (μ : ic_M) (x1 : Int32) (x2 : Int32) {R : Int32 × ic_M} (hf : fX0_add μ x1 x2 = some R) : ic_C l κ MX0_add [ic_rv κ.1 66, .int x1, .int x2] 106 (ic_rs sw) μ (some (.int R.1)) 106 (ic_rs sw) R.2 := by
  refine ic_C.of (L := [(0, ic_rv κ.1 66), (1, .int x1), (2, .int x2)]) ⟨ic_cat _ _, rfl, rfl, trivial⟩ ⟨by decide +kernel, Nat.le_of_ble_eq_true rfl⟩ rfl ?_
  unfold fX0_add at hf
  refine iw_aload_n (i := 0) (pc' := 1) 0 rfl (by decide +kernel) ?_
  refine iw_geti (pc' := 4) ic_fk0 cO_66 lkf_X0_18 (by decide +kernel) ?_
  refine iw_if_lt (off := 27) (tg := 31) (pc' := 7) hf (by decide +kernel) (fun hf => ?_) (fun hf => ?_)
  · refine iw_iconst (i := 0) (v := (0 : Int32)) (pc' := 32) (by decide +kernel) ?_
    obtain ⟨hb, hf⟩ := ic_rz_of hf
    exact iw_zreturn hb (ic_q1 (Option.some.inj hf)) rfl (ic_q2 (Option.some.inj hf)) (by decide +kernel)
  · refine iw_aload_n (i := 0) (pc' := 8) 0 rfl (by decide +kernel) ?_
    refine iw_geti (pc' := 11) ic_fk0 cO_66 lkf_X0_18 (by decide +kernel) ?_
    refine iw_aload_n (i := 0) (pc' := 12) 0 rfl (by decide +kernel) ?_
    refine iw_getr (pc' := 15) (q := 67) ic_fk0 cO_66 rfl lkf_X0_9 (by decide +kernel) ?_
    refine iw_alen (pc' := 16) (v := (15 : Int32)) cI_67 rfl (by decide +kernel) ?_
    refine iw_icmp_ge (off := 15) (tg := 31) (pc' := 19) hf (by decide +kernel) (fun hf => ?_) (fun hf => ?_)
    · refine iw_iconst (i := 0) (v := (0 : Int32)) (pc' := 32) (by decide +kernel) ?_
      obtain ⟨hb, hf⟩ := ic_rz_of hf
      exact iw_zreturn hb (ic_q1 (Option.some.inj hf)) rfl (ic_q2 (Option.some.inj hf)) (by decide +kernel)
    · refine iw_aload_n (i := 0) (pc' := 20) 0 rfl (by decide +kernel) ?_
      refine iw_geti (pc' := 23) ic_fk0 cO_66 lkf_X0_18 (by decide +kernel) ?_
      refine iw_aload_n (i := 0) (pc' := 24) 0 rfl (by decide +kernel) ?_
      refine iw_getr (pc' := 27) (q := 68) ic_fk0 cO_66 rfl lkf_X0_15 (by decide +kernel) ?_
      refine iw_alen (pc' := 28) (v := (15 : Int32)) cI_68 rfl (by decide +kernel) ?_
      refine iw_icmp_lt (off := 5) (tg := 33) (pc' := 31) hf (by decide +kernel) (fun hf => ?_) (fun hf => ?_)
      · refine iw_aload_n (i := 0) (pc' := 34) 0 rfl (by decide +kernel) ?_
        refine iw_getr (pc' := 37) (q := 67) ic_fk0 cO_66 rfl lkf_X0_9 (by decide +kernel) ?_
        refine iw_aload_n (i := 0) (pc' := 38) 0 rfl (by decide +kernel) ?_
        refine iw_geti (pc' := 41) ic_fk0 cO_66 lkf_X0_18 (by decide +kernel) ?_
        refine iw_iload_n (i := 1) (pc' := 42) 1 rfl (by decide +kernel) ?_
        refine iw_iast (pc' := 43) hf (fun _ => cI_67) (by decide +kernel) (fun m21 hf => ?_)
        refine iw_aload_n (i := 0) (pc' := 44) 0 rfl (by decide +kernel) ?_
        refine iw_getr (pc' := 47) (q := 68) ic_fk0 cO_66 rfl lkf_X0_15 (by decide +kernel) ?_
        refine iw_aload_n (i := 0) (pc' := 48) 0 rfl (by decide +kernel) ?_
        refine iw_geti (pc' := 51) ic_fk0 cO_66 lkf_X0_18 (by decide +kernel) ?_
        refine iw_iload_n (i := 2) (pc' := 52) 2 rfl (by decide +kernel) ?_
        refine iw_iast (pc' := 53) hf (fun _ => cI_68) (by decide +kernel) (fun m22 hf => ?_)
        refine iw_aload_n (i := 0) (pc' := 54) 0 rfl (by decide +kernel) ?_
        refine iw_dup (pc' := 55) (ic_cat _ _) (by decide +kernel) ?_
        refine iw_geti (pc' := 58) ic_fk0 cO_66 lkf_X0_18 (by decide +kernel) ?_
        refine iw_iconst (i := 1) (v := (1 : Int32)) (pc' := 59) (by decide +kernel) ?_
        refine iw_iadd (pc' := 60) (by decide +kernel) ?_
        refine iw_put (pc' := 63) hf ic_fk0 cO_66 lkf_X0_18 (by decide +kernel) (fun m23 hf => ?_)
        refine iw_iconst (i := 1) (v := (1 : Int32)) (pc' := 64) (by decide +kernel) ?_
        obtain ⟨hb, hf⟩ := ic_rz_of hf
        exact iw_zreturn hb (ic_q1 (Option.some.inj hf)) rfl (ic_q2 (Option.some.inj hf)) (by decide +kernel)
      · refine iw_iconst (i := 0) (v := (0 : Int32)) (pc' := 32) (by decide +kernel) ?_
        obtain ⟨hb, hf⟩ := ic_rz_of hf
        exact iw_zreturn hb (ic_q1 (Option.some.inj hf)) rfl (ic_q2 (Option.some.inj hf)) (by decide +kernel)
set_option maxRecDepth 100000 in
set_option maxHeartbeats 4000000 in
theorem ct_X1_inchesOf (l : Launch) (κ : ic_K) (sw : Nat) (μ : ic_M) (r0 : Nat) (h0 : ic_isO 106 r0 1) (x1 : Int32) {R : Int32} (hf : fX1_inchesOf μ r0 x1 = some R) : ic_C l κ MX1_inchesOf [ic_rv κ.1 r0, .int x1] 106 (ic_rs sw) μ (some (.int R)) 106 (ic_rs sw) μ := by
  refine ic_C.of (L := [(0, ic_rv κ.1 r0), (1, .int x1)]) ⟨ic_cat _ _, rfl, trivial⟩ ⟨by decide +kernel, Nat.le_of_ble_eq_true rfl⟩ rfl ?_
  unfold fX1_inchesOf at hf
  refine iw_iload_n (i := 1) (pc' := 1) 1 rfl (by decide +kernel) ?_
  obtain ⟨q21, hf, hgq21⟩ := ic_bd hf
  have hjq21 : ic_W l κ MX1_inchesOf ic_X0 (ic_Z κ MX1_inchesOf (some (.int R)) 106 (ic_rs sw) μ) 23 [] [.int q21] 106 (ic_rs sw) μ 0 0 := by
    have hf := hgq21
    exact iw_ireturn (Option.some.inj hf) rfl rfl (by decide +kernel)
  refine iw_if_lt (off := 21) (tg := 22) (pc' := 4) hf (by decide +kernel) (fun hf => ?_) (fun hf => ?_)
  · refine iw_iconst (i := 0) (v := (0 : Int32)) (pc' := 23) (by decide +kernel) ?_
    obtain rfl := Option.some.inj hf
    exact iw_sub [] rfl hjq21
  · refine iw_iload_n (i := 1) (pc' := 5) 1 rfl (by decide +kernel) ?_
    refine iw_aload_n (i := 0) (pc' := 6) 0 rfl (by decide +kernel) ?_
    refine iw_getr (pc' := 9) (q := (r0 + 1)) ic_fk1 h0 (ic_rs_o h0 (by decide)) lkf_X1_9 (by decide +kernel) ?_
    refine iw_alen (pc' := 10) (v := (18 : Int32)) (ic_ice1 h0) rfl (by decide +kernel) ?_
    refine iw_icmp_ge (off := 12) (tg := 22) (pc' := 13) hf (by decide +kernel) (fun hf => ?_) (fun hf => ?_)
    · refine iw_iconst (i := 0) (v := (0 : Int32)) (pc' := 23) (by decide +kernel) ?_
      obtain rfl := Option.some.inj hf
      exact iw_sub [] rfl hjq21
    · refine iw_aload_n (i := 0) (pc' := 14) 0 rfl (by decide +kernel) ?_
      refine iw_getr (pc' := 17) (q := (r0 + 1)) ic_fk1 h0 (ic_rs_o h0 (by decide)) lkf_X1_9 (by decide +kernel) ?_
      refine iw_iload_n (i := 1) (pc' := 18) 1 rfl (by decide +kernel) ?_
      refine iw_iald (pc' := 19) hf (fun _ => (ic_ice1 h0)) (by decide +kernel) (fun v22 hf => ?_)
      refine iw_goto (off := 4) (pc' := 23) (by decide +kernel) ?_
      obtain rfl := Option.some.inj hf
      exact iw_sub [] rfl hjq21
set_option maxRecDepth 100000 in
set_option maxHeartbeats 4000000 in
theorem lpX0_firstWrong_2_ok (l : Launch) (κ : ic_K) (sw : Nat) (μ : ic_M) (r1_ : Nat) (h1_ : ic_isO 106 r1_ 1) {Rf : Int32} {R : (Unit) ⊕ (Int32)} (hk : ∀ t, R = .inl t → ic_W l κ MX0_firstWrong ic_X0 (ic_Z κ MX0_firstWrong (some (.int Rf)) 106 (ic_rs sw) μ) 55 [] [] 106 (ic_rs sw) μ 0 0) (hr : ∀ v, R = .inr v → v = Rf) : ∀ (fu : Nat) (y2_ : Int32), lpX0_firstWrong_2 μ r1_ fu y2_ = some R → ic_W l κ MX0_firstWrong ic_X0 (ic_Z κ MX0_firstWrong (some (.int Rf)) 106 (ic_rs sw) μ) 2 [(0, ic_rv κ.1 66), (1, ic_rv κ.1 r1_), (2, .int y2_)] [] 106 (ic_rs sw) μ 0 0 := by
  intro fu
  induction fu with
  | zero =>
    intro y2_ hf
    exact absurd hf (by simp [lpX0_firstWrong_2])
  | succ fu ih =>
    intro y2_ hf
    rw [lpX0_firstWrong_2] at hf
    refine iw_iload_n (i := 2) (pc' := 3) 2 rfl (by decide +kernel) ?_
    refine iw_aload_n (i := 0) (pc' := 4) 0 rfl (by decide +kernel) ?_
    refine iw_geti (pc' := 7) ic_fk0 cO_66 lkf_X0_18 (by decide +kernel) ?_
    refine iw_icmp_ge (off := 48) (tg := 55) (pc' := 10) hf (by decide +kernel) (fun hf => ?_) (fun hf => ?_)
    · exact iw_sub [] rfl (hk _ (Option.some.inj hf).symm)
    · refine iw_iload_n (i := 2) (pc' := 11) 2 rfl (by decide +kernel) ?_
      refine iw_aload_n (i := 0) (pc' := 12) 0 rfl (by decide +kernel) ?_
      refine iw_getr (pc' := 15) (q := 67) ic_fk0 cO_66 rfl lkf_X0_9 (by decide +kernel) ?_
      refine iw_alen (pc' := 16) (v := (15 : Int32)) cI_67 rfl (by decide +kernel) ?_
      refine iw_icmp_ge (off := 39) (tg := 55) (pc' := 19) hf (by decide +kernel) (fun hf => ?_) (fun hf => ?_)
      · exact iw_sub [] rfl (hk _ (Option.some.inj hf).symm)
      · refine iw_iload_n (i := 2) (pc' := 20) 2 rfl (by decide +kernel) ?_
        refine iw_aload_n (i := 0) (pc' := 21) 0 rfl (by decide +kernel) ?_
        refine iw_getr (pc' := 24) (q := 68) ic_fk0 cO_66 rfl lkf_X0_15 (by decide +kernel) ?_
        refine iw_alen (pc' := 25) (v := (15 : Int32)) cI_68 rfl (by decide +kernel) ?_
        refine iw_icmp_ge (off := 30) (tg := 55) (pc' := 28) hf (by decide +kernel) (fun hf => ?_) (fun hf => ?_)
        · exact iw_sub [] rfl (hk _ (Option.some.inj hf).symm)
        · refine iw_aload_n (i := 1) (pc' := 29) 1 rfl (by decide +kernel) ?_
          refine iw_aload_n (i := 0) (pc' := 30) 0 rfl (by decide +kernel) ?_
          refine iw_getr (pc' := 33) (q := 67) ic_fk0 cO_66 rfl lkf_X0_9 (by decide +kernel) ?_
          refine iw_iload_n (i := 2) (pc' := 34) 2 rfl (by decide +kernel) ?_
          refine iw_iald (pc' := 35) hf (fun _ => cI_67) (by decide +kernel) (fun v21 hf => ?_)
          obtain ⟨v22, hc, hf⟩ := ic_bd hf
          refine iw_callV (pc' := 38) (S0 := []) (S1 := [.int v22]) (c1 := 0) (s1 := 0) (k := 1) (ct_X1_inchesOf l κ sw μ r1_ h1_ v21 hc) h1_ ⟨rfl, rfl⟩ mv_X1_inchesOf lkm_X0_22 ⟨rfl, rfl⟩ (ic_sum8 trivial (Nat.le_of_ble_eq_true rfl)) (by unfold ic_rm; decide +kernel) ⟨rfl, rfl, rfl⟩ ⟨Nat.le_of_ble_eq_true rfl, Nat.le_of_ble_eq_true rfl⟩ ?_
          refine iw_aload_n (i := 0) (pc' := 39) 0 rfl (by decide +kernel) ?_
          refine iw_getr (pc' := 42) (q := 68) ic_fk0 cO_66 rfl lkf_X0_15 (by decide +kernel) ?_
          refine iw_iload_n (i := 2) (pc' := 43) 2 rfl (by decide +kernel) ?_
          refine iw_iald (pc' := 44) hf (fun _ => cI_68) (by decide +kernel) (fun v23 hf => ?_)
          refine iw_icmp_eq (off := 5) (tg := 49) (pc' := 47) hf (by decide +kernel) (fun hf => ?_) (fun hf => ?_)
          · refine iw_iinc (i := 2) (d := 1) (pc' := 52) (v := (1 : Int32)) (L1 := fun x24 => [(0, ic_rv κ.1 66), (1, ic_rv κ.1 r1_), (2, .int x24)]) hf 2 rfl (fun _ => rfl) (by decide +kernel) (fun x24 hf => ?_)
            refine iw_goto (off := (-50)) (pc' := 2) (by decide +kernel) ?_
            exact iw_sub [0, 1, 2] rfl (ih _ hf)
          · refine iw_iload_n (i := 2) (pc' := 48) 2 rfl (by decide +kernel) ?_
            exact iw_ireturn (hr _ (Option.some.inj hf).symm) rfl rfl (by decide +kernel)
set_option maxRecDepth 100000 in
set_option maxHeartbeats 4000000 in
theorem ct_X0_firstWrong (l : Launch) (κ : ic_K) (sw : Nat) (μ : ic_M) (r1 : Nat) (h1 : ic_isO 106 r1 1) {R : Int32} (hf : fX0_firstWrong μ r1 = some R) : ic_C l κ MX0_firstWrong [ic_rv κ.1 66, ic_rv κ.1 r1] 106 (ic_rs sw) μ (some (.int R)) 106 (ic_rs sw) μ := by
  refine ic_C.of (L := [(0, ic_rv κ.1 66), (1, ic_rv κ.1 r1)]) ⟨ic_cat _ _, ic_cat _ _, trivial⟩ ⟨by decide +kernel, Nat.le_of_ble_eq_true rfl⟩ rfl ?_
  unfold fX0_firstWrong at hf
  refine iw_iconst (i := 0) (v := (0 : Int32)) (pc' := 1) (by decide +kernel) ?_
  refine iw_istore_n0 (i := 2) (pc' := 2) (L' := [(0, ic_rv κ.1 66), (1, ic_rv κ.1 r1), (2, .int (0 : Int32))]) rfl (by decide +kernel) ?_
  obtain ⟨q25, hf, hgq25⟩ := ic_bd hf
  refine iw_sub [0, 1, 2] rfl (lpX0_firstWrong_2_ok l κ sw μ r1 h1 (R := q25) (fun t26 e => ?_) (fun v e => ?_) 1000 (0 : Int32) hf)
  · subst e
    simp only [Sum.elim_inl] at hgq25
    have hf := hgq25
    refine iw_iconst (i := (-1)) (v := (-1 : Int32)) (pc' := 56) (by decide +kernel) ?_
    exact iw_ireturn (Option.some.inj hf) rfl rfl (by decide +kernel)
  · subst e
    simp only [Sum.elim_inr] at hgq25
    exact Option.some.inj hgq25
set_option maxRecDepth 100000 in
set_option maxHeartbeats 4000000 in
theorem ct_X5_listed (l : Launch) (κ : ic_K) (sw : Nat) (μ : ic_M) (r0 : Nat) (x1 : Int32) (x2 : Int32) (x3 : Int32) {R : Int32} (hf : fX5_listed μ r0 x1 x2 x3 = some R) : ic_C l κ MX5_listed [ic_rv κ.1 r0, .int x1, .int x2, .int x3] 106 (ic_rs sw) μ (some (.int R)) 106 (ic_rs sw) μ := by
  refine ic_C.of (L := [(0, ic_rv κ.1 r0), (1, .int x1), (2, .int x2), (3, .int x3)]) ⟨ic_cat _ _, rfl, rfl, rfl, trivial⟩ ⟨by decide +kernel, Nat.le_of_ble_eq_true rfl⟩ rfl ?_
  unfold fX5_listed at hf
  refine iw_iload_n (i := 2) (pc' := 1) 2 rfl (by decide +kernel) ?_
  refine iw_if_lt (off := 14) (tg := 15) (pc' := 4) hf (by decide +kernel) (fun hf => ?_) (fun hf => ?_)
  · refine iw_iload_n (i := 3) (pc' := 16) 3 rfl (by decide +kernel) ?_
    exact iw_ireturn (Option.some.inj hf) rfl rfl (by decide +kernel)
  · refine iw_iload_n (i := 1) (pc' := 5) 1 rfl (by decide +kernel) ?_
    refine iw_iconst (i := 1) (v := (1 : Int32)) (pc' := 6) (by decide +kernel) ?_
    refine iw_icmp_lt (off := 9) (tg := 15) (pc' := 9) hf (by decide +kernel) (fun hf => ?_) (fun hf => ?_)
    · refine iw_iload_n (i := 3) (pc' := 16) 3 rfl (by decide +kernel) ?_
      exact iw_ireturn (Option.some.inj hf) rfl rfl (by decide +kernel)
    · refine iw_iload_n (i := 1) (pc' := 10) 1 rfl (by decide +kernel) ?_
      refine iw_aload_n (i := 0) (pc' := 11) 0 rfl (by decide +kernel) ?_
      obtain ⟨h22, hf⟩ := ic_ln_of hf
      refine iw_alen (pc' := 12) (v := (Int32.ofNat (ic_il 106 r0))) h22 rfl (by decide +kernel) ?_
      refine iw_icmp_le (off := 5) (tg := 17) (pc' := 15) hf (by decide +kernel) (fun hf => ?_) (fun hf => ?_)
      · refine iw_aload_n (i := 0) (pc' := 18) 0 rfl (by decide +kernel) ?_
        refine iw_iload_n (i := 2) (pc' := 19) 2 rfl (by decide +kernel) ?_
        refine iw_iload_n (i := 1) (pc' := 20) 1 rfl (by decide +kernel) ?_
        refine iw_irem (pc' := 21) hf (by decide +kernel) (fun hf => ?_)
        refine iw_iald (pc' := 22) hf (fun h => ic_il_is h) (by decide +kernel) (fun v21 hf => ?_)
        exact iw_ireturn (Option.some.inj hf) rfl rfl (by decide +kernel)
      · refine iw_iload_n (i := 3) (pc' := 16) 3 rfl (by decide +kernel) ?_
        exact iw_ireturn (Option.some.inj hf) rfl rfl (by decide +kernel)
set_option maxRecDepth 100000 in
set_option maxHeartbeats 4000000 in
theorem ct_X5_thickAt (l : Launch) (κ : ic_K) (sw : Nat) (μ : ic_M) (r0 : Nat) (h0 : ic_isO 106 r0 5) (x1 : Int32) {R : Int32} (hf : fX5_thickAt μ r0 x1 = some R) : ic_C l κ MX5_thickAt [ic_rv κ.1 r0, .int x1] 106 (ic_rs sw) μ (some (.int R)) 106 (ic_rs sw) μ := by
  refine ic_C.of (L := [(0, ic_rv κ.1 r0), (1, .int x1)]) ⟨ic_cat _ _, rfl, trivial⟩ ⟨by decide +kernel, Nat.le_of_ble_eq_true rfl⟩ rfl ?_
  unfold fX5_thickAt at hf
  refine iw_aload_n (i := 0) (pc' := 1) 0 rfl (by decide +kernel) ?_
  refine iw_getr (pc' := 4) (q := (r0 + 1)) ic_fk5 h0 (ic_rs_o h0 (by decide)) lkf_X5_9 (by decide +kernel) ?_
  refine iw_aload_n (i := 0) (pc' := 5) 0 rfl (by decide +kernel) ?_
  refine iw_geti (pc' := 8) ic_fk5 h0 lkf_X5_43 (by decide +kernel) ?_
  refine iw_iload_n (i := 1) (pc' := 9) 1 rfl (by decide +kernel) ?_
  refine iw_bipush (i := 10) (v := (10 : Int32)) (pc' := 11) (by decide +kernel) ?_
  obtain ⟨v21, hc, hf⟩ := ic_bd hf
  refine iw_callS (pc' := 14) (S0 := []) (S1 := [.int v21]) (c1 := 0) (s1 := 0) (k := 4) (ct_X5_listed l κ sw μ (r0 + 1) (μ r0 5) x1 (10 : Int32) hc) ms_X5_listed lkm_X5_52 ⟨rfl, rfl⟩ (ic_sum8 trivial (Nat.le_of_ble_eq_true rfl)) (by unfold ic_rm; decide +kernel) ⟨rfl, rfl, rfl⟩ ⟨Nat.le_of_ble_eq_true rfl, Nat.le_of_ble_eq_true rfl⟩ ?_
  exact iw_ireturn (Option.some.inj hf) rfl rfl (by decide +kernel)
set_option maxRecDepth 100000 in
set_option maxHeartbeats 4000000 in
theorem lpJ7_fill_53178_5_ok (l : Launch) (κ : ic_K) (sw : Nat) (r0_ : Nat) (x1_ : Int32) (x3_ : Int32) {Z : State → List Frame → Array Value → State → Prop} {R : ic_M} (hk : ic_W l κ MJ7_fill_53178 ic_X0 Z 20 [] [] 106 (ic_rs sw) R 0 0) : ∀ (fu : Nat) (y2_ : Int32) (μ : ic_M), lpJ7_fill_53178_5 r0_ x1_ x3_ fu y2_ μ = some R → ic_W l κ MJ7_fill_53178 ic_X0 Z 5 [(0, ic_rv κ.1 r0_), (1, .int x1_), (2, .int y2_), (3, .int x3_)] [] 106 (ic_rs sw) μ 0 0 := by
  intro fu
  induction fu with
  | zero =>
    intro y2_ μ hf
    exact absurd hf (by simp [lpJ7_fill_53178_5])
  | succ fu ih =>
    intro y2_ μ hf
    rw [lpJ7_fill_53178_5] at hf
    refine iw_iload_n (i := 2) (pc' := 6) 2 rfl (by decide +kernel) ?_
    refine iw_iload_n (i := 3) (pc' := 7) 3 rfl (by decide +kernel) ?_
    refine iw_icmp_ge (off := 13) (tg := 20) (pc' := 10) hf (by decide +kernel) (fun hf => ?_) (fun hf => ?_)
    · obtain rfl := Option.some.inj hf
      exact iw_sub [] rfl hk
    · refine iw_aload_n (i := 0) (pc' := 11) 0 rfl (by decide +kernel) ?_
      refine iw_iload_n (i := 2) (pc' := 12) 2 rfl (by decide +kernel) ?_
      refine iw_iload_n (i := 1) (pc' := 13) 1 rfl (by decide +kernel) ?_
      refine iw_iast (pc' := 14) hf (fun h => ic_il_is h) (by decide +kernel) (fun m22 hf => ?_)
      refine iw_iinc (i := 2) (d := 1) (pc' := 17) (v := (1 : Int32)) (L1 := fun x23 => [(0, ic_rv κ.1 r0_), (1, .int x1_), (2, .int x23), (3, .int x3_)]) hf 2 rfl (fun _ => rfl) (by decide +kernel) (fun x23 hf => ?_)
      refine iw_goto (off := (-12)) (pc' := 5) (by decide +kernel) ?_
      exact iw_sub [0, 1, 2, 3] rfl (ih _ _ hf)
set_option maxRecDepth 100000 in
set_option maxHeartbeats 4000000 in
theorem ct_J7_fill_53178 (l : Launch) (κ : ic_K) (sw : Nat) (μ : ic_M) (r0 : Nat) (x1 : Int32) {R : ic_M} (hf : fJ7_fill_53178 μ r0 x1 = some R) : ic_C l κ MJ7_fill_53178 [ic_rv κ.1 r0, .int x1] 106 (ic_rs sw) μ none 106 (ic_rs sw) R := by
  refine ic_C.of (L := [(0, ic_rv κ.1 r0), (1, .int x1)]) ⟨ic_cat _ _, rfl, trivial⟩ ⟨by decide +kernel, Nat.le_of_ble_eq_true rfl⟩ rfl ?_
  unfold fJ7_fill_53178 at hf
  refine iw_iconst (i := 0) (v := (0 : Int32)) (pc' := 1) (by decide +kernel) ?_
  refine iw_istore_n0 (i := 2) (pc' := 2) (L' := [(0, ic_rv κ.1 r0), (1, .int x1), (2, .int (0 : Int32))]) rfl (by decide +kernel) ?_
  refine iw_aload_n (i := 0) (pc' := 3) 0 rfl (by decide +kernel) ?_
  obtain ⟨h25, hf⟩ := ic_ln_of hf
  refine iw_alen (pc' := 4) (v := (Int32.ofNat (ic_il 106 r0))) h25 rfl (by decide +kernel) ?_
  refine iw_istore_n (i := 3) (pc' := 5) (L1 := fun x21 => [(0, ic_rv κ.1 r0), (1, .int x1), (2, .int (0 : Int32)), (3, .int x21)]) hf (fun _ => rfl) (by decide +kernel) (fun x21 hf => ?_)
  obtain ⟨q24, hf, hgq24⟩ := ic_bd hf
  have hjq24 : ic_W l κ MJ7_fill_53178 ic_X0 (ic_Z κ MJ7_fill_53178 none 106 (ic_rs sw) R) 20 [] [] 106 (ic_rs sw) q24 0 0 := by
    have hf := hgq24
    exact iw_vreturn rfl (Option.some.inj hf) (by decide +kernel)
  exact iw_sub [0, 1, 2, 3] rfl (lpJ7_fill_53178_5_ok l κ sw r0 x1 x21 hjq24 1000 (0 : Int32) μ hf)
set_option maxRecDepth 100000 in
set_option maxHeartbeats 4000000 in
theorem lpX1_begin_2_ok (l : Launch) (κ : ic_K) (sw : Nat) (r0_ : Nat) (r1_ : Nat) (h0_ : ic_isO 106 r0_ 1) (h1_ : ic_isO 106 r1_ 5) {Z : State → List Frame → Array Value → State → Prop} {R : ic_M} (hk : ic_W l κ MX1_begin ic_X0 Z 40 [(0, ic_rv κ.1 r0_)] [] 106 (ic_rs sw) R 0 0) : ∀ (fu : Nat) (y2_ : Int32) (μ : ic_M), lpX1_begin_2 r0_ r1_ fu y2_ μ = some R → ic_W l κ MX1_begin ic_X0 Z 2 [(0, ic_rv κ.1 r0_), (1, ic_rv κ.1 r1_), (2, .int y2_)] [] 106 (ic_rs sw) μ 0 0 := by
  intro fu
  induction fu with
  | zero =>
    intro y2_ μ hf
    exact absurd hf (by simp [lpX1_begin_2])
  | succ fu ih =>
    intro y2_ μ hf
    rw [lpX1_begin_2] at hf
    refine iw_iload_n (i := 2) (pc' := 3) 2 rfl (by decide +kernel) ?_
    refine iw_aload_n (i := 0) (pc' := 4) 0 rfl (by decide +kernel) ?_
    refine iw_getr (pc' := 7) (q := (r0_ + 1)) ic_fk1 h0_ (ic_rs_o h0_ (by decide)) lkf_X1_9 (by decide +kernel) ?_
    refine iw_alen (pc' := 8) (v := (18 : Int32)) (ic_ice1 h0_) rfl (by decide +kernel) ?_
    refine iw_icmp_ge (off := 32) (tg := 40) (pc' := 11) hf (by decide +kernel) (fun hf => ?_) (fun hf => ?_)
    · obtain rfl := Option.some.inj hf
      exact iw_sub [0] rfl hk
    · refine iw_aload_n (i := 0) (pc' := 12) 0 rfl (by decide +kernel) ?_
      refine iw_getr (pc' := 15) (q := (r0_ + 1)) ic_fk1 h0_ (ic_rs_o h0_ (by decide)) lkf_X1_9 (by decide +kernel) ?_
      refine iw_iload_n (i := 2) (pc' := 16) 2 rfl (by decide +kernel) ?_
      refine iw_iload_n (i := 2) (pc' := 17) 2 rfl (by decide +kernel) ?_
      refine iw_aload_n (i := 1) (pc' := 18) 1 rfl (by decide +kernel) ?_
      refine iw_geti (pc' := 21) ic_fk5 h1_ lkf_X1_22 (by decide +kernel) ?_
      obtain ⟨q21, hf, hgq21⟩ := ic_bd hf
      have hjq21 : ic_W l κ MX1_begin ic_X0 Z 33 [(0, ic_rv κ.1 r0_), (1, ic_rv κ.1 r1_), (2, .int y2_)] [.int q21, .int y2_, ic_rv κ.1 (r0_ + 1)] 106 (ic_rs sw) μ 0 0 := by
        have hf := hgq21
        refine iw_iast (pc' := 34) hf (fun _ => (ic_ice1 h0_)) (by decide +kernel) (fun m23 hf => ?_)
        refine iw_iinc (i := 2) (d := 1) (pc' := 37) (v := (1 : Int32)) (L1 := fun x24 => [(0, ic_rv κ.1 r0_), (1, ic_rv κ.1 r1_), (2, .int x24)]) hf 2 rfl (fun _ => rfl) (by decide +kernel) (fun x24 hf => ?_)
        refine iw_goto (off := (-35)) (pc' := 2) (by decide +kernel) ?_
        exact iw_sub [0, 1, 2] rfl (ih _ _ hf)
      refine iw_icmp_ge (off := 11) (tg := 32) (pc' := 24) hf (by decide +kernel) (fun hf => ?_) (fun hf => ?_)
      · refine iw_iconst (i := 0) (v := (0 : Int32)) (pc' := 33) (by decide +kernel) ?_
        obtain rfl := Option.some.inj hf
        exact iw_sub [0, 1, 2] rfl hjq21
      · refine iw_aload_n (i := 1) (pc' := 25) 1 rfl (by decide +kernel) ?_
        refine iw_iload_n (i := 2) (pc' := 26) 2 rfl (by decide +kernel) ?_
        obtain ⟨v22, hc, hf⟩ := ic_bd hf
        refine iw_callV (pc' := 29) (S0 := [.int y2_, ic_rv κ.1 (r0_ + 1)]) (S1 := [.int v22, .int y2_, ic_rv κ.1 (r0_ + 1)]) (c1 := 0) (s1 := 0) (k := 1) (ct_X5_thickAt l κ sw μ r1_ h1_ y2_ hc) h1_ ⟨rfl, rfl⟩ mv_X5_thickAt lkm_X1_27 ⟨rfl, rfl⟩ (ic_sum8 ⟨rfl, ic_cat _ _, trivial⟩ (Nat.le_of_ble_eq_true rfl)) (by unfold ic_rm; decide +kernel) ⟨rfl, rfl, rfl⟩ ⟨Nat.le_of_ble_eq_true rfl, Nat.le_of_ble_eq_true rfl⟩ ?_
        refine iw_goto (off := 4) (pc' := 33) (by decide +kernel) ?_
        obtain rfl := Option.some.inj hf
        exact iw_sub [0, 1, 2] rfl hjq21
set_option maxRecDepth 100000 in
set_option maxHeartbeats 4000000 in
theorem ct_X1_begin (l : Launch) (κ : ic_K) (sw : Nat) (μ : ic_M) (r0 : Nat) (h0 : ic_isO 106 r0 1) (r1 : Nat) (h1 : ic_isO 106 r1 5) {R : ic_M} (hf : fX1_begin μ r0 r1 = some R) : ic_C l κ MX1_begin [ic_rv κ.1 r0, ic_rv κ.1 r1] 106 (ic_rs sw) μ none 106 (ic_rs sw) R := by
  refine ic_C.of (L := [(0, ic_rv κ.1 r0), (1, ic_rv κ.1 r1)]) ⟨ic_cat _ _, ic_cat _ _, trivial⟩ ⟨by decide +kernel, Nat.le_of_ble_eq_true rfl⟩ rfl ?_
  unfold fX1_begin at hf
  refine iw_iconst (i := 0) (v := (0 : Int32)) (pc' := 1) (by decide +kernel) ?_
  refine iw_istore_n0 (i := 2) (pc' := 2) (L' := [(0, ic_rv κ.1 r0), (1, ic_rv κ.1 r1), (2, .int (0 : Int32))]) rfl (by decide +kernel) ?_
  obtain ⟨q25, hf, hgq25⟩ := ic_bd hf
  have hjq25 : ic_W l κ MX1_begin ic_X0 (ic_Z κ MX1_begin none 106 (ic_rs sw) R) 40 [(0, ic_rv κ.1 r0)] [] 106 (ic_rs sw) q25 0 0 := by
    have hf := hgq25
    refine iw_aload_n (i := 0) (pc' := 41) 0 rfl (by decide +kernel) ?_
    refine iw_getr (pc' := 44) (q := (r0 + 2)) ic_fk1 h0 (ic_rs_o h0 (by decide)) lkf_X1_15 (by decide +kernel) ?_
    refine iw_iconst (i := (-1)) (v := (-1 : Int32)) (pc' := 45) (by decide +kernel) ?_
    obtain ⟨m26, hc, hf⟩ := ic_bd hf
    refine iw_callS (pc' := 48) (S0 := []) (S1 := []) (c1 := 0) (s1 := 0) (k := 2) (ct_J7_fill_53178 l κ sw q25 (r0 + 2) (-1 : Int32) hc) ms_J7_fill_53178 lkm_X1_31 ⟨rfl, rfl⟩ (ic_sum8 trivial (Nat.le_of_ble_eq_true rfl)) (by unfold ic_rm; decide +kernel) ⟨rfl, rfl, rfl⟩ ⟨Nat.le_of_ble_eq_true rfl, Nat.le_of_ble_eq_true rfl⟩ ?_
    refine iw_aload_n (i := 0) (pc' := 49) 0 rfl (by decide +kernel) ?_
    refine iw_iconst (i := 0) (v := (0 : Int32)) (pc' := 50) (by decide +kernel) ?_
    refine iw_put (pc' := 53) hf ic_fk1 h0 lkf_X1_37 (by decide +kernel) (fun m27 hf => ?_)
    refine iw_aload_n (i := 0) (pc' := 54) 0 rfl (by decide +kernel) ?_
    refine iw_iconst (i := 0) (v := (0 : Int32)) (pc' := 55) (by decide +kernel) ?_
    refine iw_put (pc' := 58) hf ic_fk1 h0 lkf_X1_40 (by decide +kernel) (fun m28 hf => ?_)
    refine iw_aload_n (i := 0) (pc' := 59) 0 rfl (by decide +kernel) ?_
    refine iw_iconst (i := (-1)) (v := (-1 : Int32)) (pc' := 60) (by decide +kernel) ?_
    refine iw_put (pc' := 63) hf ic_fk1 h0 lkf_X1_18 (by decide +kernel) (fun m29 hf => ?_)
    refine iw_aload_n (i := 0) (pc' := 64) 0 rfl (by decide +kernel) ?_
    refine iw_iconst (i := 0) (v := (0 : Int32)) (pc' := 65) (by decide +kernel) ?_
    refine iw_put (pc' := 68) hf ic_fk1 h0 lkf_X1_43 (by decide +kernel) (fun m30 hf => ?_)
    exact iw_vreturn rfl (Option.some.inj hf) (by decide +kernel)
  exact iw_sub [0, 1, 2] rfl (lpX1_begin_2_ok l κ sw r0 r1 h0 h1 hjq25 1000 (0 : Int32) μ hf)
set_option maxRecDepth 100000 in
set_option maxHeartbeats 4000000 in
theorem ct_X1_placeOf (l : Launch) (κ : ic_K) (sw : Nat) (μ : ic_M) (r0 : Nat) (h0 : ic_isO 106 r0 1) (x1 : Int32) {R : Int32} (hf : fX1_placeOf μ r0 x1 = some R) : ic_C l κ MX1_placeOf [ic_rv κ.1 r0, .int x1] 106 (ic_rs sw) μ (some (.int R)) 106 (ic_rs sw) μ := by
  refine ic_C.of (L := [(0, ic_rv κ.1 r0), (1, .int x1)]) ⟨ic_cat _ _, rfl, trivial⟩ ⟨by decide +kernel, Nat.le_of_ble_eq_true rfl⟩ rfl ?_
  unfold fX1_placeOf at hf
  refine iw_iload_n (i := 1) (pc' := 1) 1 rfl (by decide +kernel) ?_
  obtain ⟨q21, hf, hgq21⟩ := ic_bd hf
  have hjq21 : ic_W l κ MX1_placeOf ic_X0 (ic_Z κ MX1_placeOf (some (.int R)) 106 (ic_rs sw) μ) 24 [] [.int q21] 106 (ic_rs sw) μ 0 0 := by
    have hf := hgq21
    exact iw_ireturn (Option.some.inj hf) rfl rfl (by decide +kernel)
  refine iw_if_lt (off := 21) (tg := 22) (pc' := 4) hf (by decide +kernel) (fun hf => ?_) (fun hf => ?_)
  · refine iw_bipush (i := (-2)) (v := (-2 : Int32)) (pc' := 24) (by decide +kernel) ?_
    obtain rfl := Option.some.inj hf
    exact iw_sub [] rfl hjq21
  · refine iw_iload_n (i := 1) (pc' := 5) 1 rfl (by decide +kernel) ?_
    refine iw_aload_n (i := 0) (pc' := 6) 0 rfl (by decide +kernel) ?_
    refine iw_getr (pc' := 9) (q := (r0 + 2)) ic_fk1 h0 (ic_rs_o h0 (by decide)) lkf_X1_15 (by decide +kernel) ?_
    refine iw_alen (pc' := 10) (v := (6 : Int32)) (ic_ice2 h0) rfl (by decide +kernel) ?_
    refine iw_icmp_ge (off := 12) (tg := 22) (pc' := 13) hf (by decide +kernel) (fun hf => ?_) (fun hf => ?_)
    · refine iw_bipush (i := (-2)) (v := (-2 : Int32)) (pc' := 24) (by decide +kernel) ?_
      obtain rfl := Option.some.inj hf
      exact iw_sub [] rfl hjq21
    · refine iw_aload_n (i := 0) (pc' := 14) 0 rfl (by decide +kernel) ?_
      refine iw_getr (pc' := 17) (q := (r0 + 2)) ic_fk1 h0 (ic_rs_o h0 (by decide)) lkf_X1_15 (by decide +kernel) ?_
      refine iw_iload_n (i := 1) (pc' := 18) 1 rfl (by decide +kernel) ?_
      refine iw_iald (pc' := 19) hf (fun _ => (ic_ice2 h0)) (by decide +kernel) (fun v22 hf => ?_)
      refine iw_goto (off := 5) (pc' := 24) (by decide +kernel) ?_
      obtain rfl := Option.some.inj hf
      exact iw_sub [] rfl hjq21
set_option maxRecDepth 100000 in
set_option maxHeartbeats 4000000 in
theorem lpX1_copyFrom_2_ok (l : Launch) (κ : ic_K) (sw : Nat) (r0_ : Nat) (r1_ : Nat) (h0_ : ic_isO 106 r0_ 1) (h1_ : ic_isO 106 r1_ 1) {Z : State → List Frame → Array Value → State → Prop} {R : ic_M} (hk : ic_W l κ MX1_copyFrom ic_X0 Z 28 [(0, ic_rv κ.1 r0_), (1, ic_rv κ.1 r1_)] [] 106 (ic_rs sw) R 0 0) : ∀ (fu : Nat) (y2_ : Int32) (μ : ic_M), lpX1_copyFrom_2 r0_ r1_ fu y2_ μ = some R → ic_W l κ MX1_copyFrom ic_X0 Z 2 [(0, ic_rv κ.1 r0_), (1, ic_rv κ.1 r1_), (2, .int y2_)] [] 106 (ic_rs sw) μ 0 0 := by
  intro fu
  induction fu with
  | zero =>
    intro y2_ μ hf
    exact absurd hf (by simp [lpX1_copyFrom_2])
  | succ fu ih =>
    intro y2_ μ hf
    rw [lpX1_copyFrom_2] at hf
    refine iw_iload_n (i := 2) (pc' := 3) 2 rfl (by decide +kernel) ?_
    refine iw_aload_n (i := 0) (pc' := 4) 0 rfl (by decide +kernel) ?_
    refine iw_getr (pc' := 7) (q := (r0_ + 1)) ic_fk1 h0_ (ic_rs_o h0_ (by decide)) lkf_X1_9 (by decide +kernel) ?_
    refine iw_alen (pc' := 8) (v := (18 : Int32)) (ic_ice1 h0_) rfl (by decide +kernel) ?_
    refine iw_icmp_ge (off := 20) (tg := 28) (pc' := 11) hf (by decide +kernel) (fun hf => ?_) (fun hf => ?_)
    · obtain rfl := Option.some.inj hf
      exact iw_sub [0, 1] rfl hk
    · refine iw_aload_n (i := 0) (pc' := 12) 0 rfl (by decide +kernel) ?_
      refine iw_getr (pc' := 15) (q := (r0_ + 1)) ic_fk1 h0_ (ic_rs_o h0_ (by decide)) lkf_X1_9 (by decide +kernel) ?_
      refine iw_iload_n (i := 2) (pc' := 16) 2 rfl (by decide +kernel) ?_
      refine iw_aload_n (i := 1) (pc' := 17) 1 rfl (by decide +kernel) ?_
      refine iw_iload_n (i := 2) (pc' := 18) 2 rfl (by decide +kernel) ?_
      obtain ⟨v21, hc, hf⟩ := ic_bd hf
      refine iw_callV (pc' := 21) (S0 := [.int y2_, ic_rv κ.1 (r0_ + 1)]) (S1 := [.int v21, .int y2_, ic_rv κ.1 (r0_ + 1)]) (c1 := 0) (s1 := 0) (k := 1) (ct_X1_inchesOf l κ sw μ r1_ h1_ y2_ hc) h1_ ⟨rfl, rfl⟩ mv_X1_inchesOf lkm_X1_46 ⟨rfl, rfl⟩ (ic_sum8 ⟨rfl, ic_cat _ _, trivial⟩ (Nat.le_of_ble_eq_true rfl)) (by unfold ic_rm; decide +kernel) ⟨rfl, rfl, rfl⟩ ⟨Nat.le_of_ble_eq_true rfl, Nat.le_of_ble_eq_true rfl⟩ ?_
      refine iw_iast (pc' := 22) hf (fun _ => (ic_ice1 h0_)) (by decide +kernel) (fun m22 hf => ?_)
      refine iw_iinc (i := 2) (d := 1) (pc' := 25) (v := (1 : Int32)) (L1 := fun x23 => [(0, ic_rv κ.1 r0_), (1, ic_rv κ.1 r1_), (2, .int x23)]) hf 2 rfl (fun _ => rfl) (by decide +kernel) (fun x23 hf => ?_)
      refine iw_goto (off := (-23)) (pc' := 2) (by decide +kernel) ?_
      exact iw_sub [0, 1, 2] rfl (ih _ _ hf)
set_option maxRecDepth 100000 in
set_option maxHeartbeats 4000000 in
theorem lpX1_copyFrom_30_ok (l : Launch) (κ : ic_K) (sw : Nat) (r0_ : Nat) (r1_ : Nat) (h0_ : ic_isO 106 r0_ 1) (h1_ : ic_isO 106 r1_ 1) {Z : State → List Frame → Array Value → State → Prop} {R : ic_M} (hk : ic_W l κ MX1_copyFrom ic_X0 Z 56 [(0, ic_rv κ.1 r0_), (1, ic_rv κ.1 r1_)] [] 106 (ic_rs sw) R 0 0) : ∀ (fu : Nat) (y2_ : Int32) (μ : ic_M), lpX1_copyFrom_30 r0_ r1_ fu y2_ μ = some R → ic_W l κ MX1_copyFrom ic_X0 Z 30 [(0, ic_rv κ.1 r0_), (1, ic_rv κ.1 r1_), (2, .int y2_)] [] 106 (ic_rs sw) μ 0 0 := by
  intro fu
  induction fu with
  | zero =>
    intro y2_ μ hf
    exact absurd hf (by simp [lpX1_copyFrom_30])
  | succ fu ih =>
    intro y2_ μ hf
    rw [lpX1_copyFrom_30] at hf
    refine iw_iload_n (i := 2) (pc' := 31) 2 rfl (by decide +kernel) ?_
    refine iw_aload_n (i := 0) (pc' := 32) 0 rfl (by decide +kernel) ?_
    refine iw_getr (pc' := 35) (q := (r0_ + 2)) ic_fk1 h0_ (ic_rs_o h0_ (by decide)) lkf_X1_15 (by decide +kernel) ?_
    refine iw_alen (pc' := 36) (v := (6 : Int32)) (ic_ice2 h0_) rfl (by decide +kernel) ?_
    refine iw_icmp_ge (off := 20) (tg := 56) (pc' := 39) hf (by decide +kernel) (fun hf => ?_) (fun hf => ?_)
    · obtain rfl := Option.some.inj hf
      exact iw_sub [0, 1] rfl hk
    · refine iw_aload_n (i := 0) (pc' := 40) 0 rfl (by decide +kernel) ?_
      refine iw_getr (pc' := 43) (q := (r0_ + 2)) ic_fk1 h0_ (ic_rs_o h0_ (by decide)) lkf_X1_15 (by decide +kernel) ?_
      refine iw_iload_n (i := 2) (pc' := 44) 2 rfl (by decide +kernel) ?_
      refine iw_aload_n (i := 1) (pc' := 45) 1 rfl (by decide +kernel) ?_
      refine iw_iload_n (i := 2) (pc' := 46) 2 rfl (by decide +kernel) ?_
      obtain ⟨v25, hc, hf⟩ := ic_bd hf
      refine iw_callV (pc' := 49) (S0 := [.int y2_, ic_rv κ.1 (r0_ + 2)]) (S1 := [.int v25, .int y2_, ic_rv κ.1 (r0_ + 2)]) (c1 := 0) (s1 := 0) (k := 1) (ct_X1_placeOf l κ sw μ r1_ h1_ y2_ hc) h1_ ⟨rfl, rfl⟩ mv_X1_placeOf lkm_X1_49 ⟨rfl, rfl⟩ (ic_sum8 ⟨rfl, ic_cat _ _, trivial⟩ (Nat.le_of_ble_eq_true rfl)) (by unfold ic_rm; decide +kernel) ⟨rfl, rfl, rfl⟩ ⟨Nat.le_of_ble_eq_true rfl, Nat.le_of_ble_eq_true rfl⟩ ?_
      refine iw_iast (pc' := 50) hf (fun _ => (ic_ice2 h0_)) (by decide +kernel) (fun m26 hf => ?_)
      refine iw_iinc (i := 2) (d := 1) (pc' := 53) (v := (1 : Int32)) (L1 := fun x27 => [(0, ic_rv κ.1 r0_), (1, ic_rv κ.1 r1_), (2, .int x27)]) hf 2 rfl (fun _ => rfl) (by decide +kernel) (fun x27 hf => ?_)
      refine iw_goto (off := (-23)) (pc' := 30) (by decide +kernel) ?_
      exact iw_sub [0, 1, 2] rfl (ih _ _ hf)
set_option maxRecDepth 100000 in
set_option maxHeartbeats 4000000 in
theorem ct_X1_copyFrom (l : Launch) (κ : ic_K) (sw : Nat) (μ : ic_M) (r0 : Nat) (h0 : ic_isO 106 r0 1) (r1 : Nat) (h1 : ic_isO 106 r1 1) {R : ic_M} (hf : fX1_copyFrom μ r0 r1 = some R) : ic_C l κ MX1_copyFrom [ic_rv κ.1 r0, ic_rv κ.1 r1] 106 (ic_rs sw) μ none 106 (ic_rs sw) R := by
  refine ic_C.of (L := [(0, ic_rv κ.1 r0), (1, ic_rv κ.1 r1)]) ⟨ic_cat _ _, ic_cat _ _, trivial⟩ ⟨by decide +kernel, Nat.le_of_ble_eq_true rfl⟩ rfl ?_
  unfold fX1_copyFrom at hf
  refine iw_iconst (i := 0) (v := (0 : Int32)) (pc' := 1) (by decide +kernel) ?_
  refine iw_istore_n0 (i := 2) (pc' := 2) (L' := [(0, ic_rv κ.1 r0), (1, ic_rv κ.1 r1), (2, .int (0 : Int32))]) rfl (by decide +kernel) ?_
  obtain ⟨q24, hf, hgq24⟩ := ic_bd hf
  have hjq24 : ic_W l κ MX1_copyFrom ic_X0 (ic_Z κ MX1_copyFrom none 106 (ic_rs sw) R) 28 [(0, ic_rv κ.1 r0), (1, ic_rv κ.1 r1)] [] 106 (ic_rs sw) q24 0 0 := by
    have hf := hgq24
    refine iw_iconst (i := 0) (v := (0 : Int32)) (pc' := 29) (by decide +kernel) ?_
    refine iw_istore_n0 (i := 2) (pc' := 30) (L' := [(0, ic_rv κ.1 r0), (1, ic_rv κ.1 r1), (2, .int (0 : Int32))]) rfl (by decide +kernel) ?_
    obtain ⟨q28, hf, hgq28⟩ := ic_bd hf
    have hjq28 : ic_W l κ MX1_copyFrom ic_X0 (ic_Z κ MX1_copyFrom none 106 (ic_rs sw) R) 56 [(0, ic_rv κ.1 r0), (1, ic_rv κ.1 r1)] [] 106 (ic_rs sw) q28 0 0 := by
      have hf := hgq28
      refine iw_aload_n (i := 0) (pc' := 57) 0 rfl (by decide +kernel) ?_
      refine iw_aload_n (i := 1) (pc' := 58) 1 rfl (by decide +kernel) ?_
      refine iw_geti (pc' := 61) ic_fk1 h1 lkf_X1_37 (by decide +kernel) ?_
      refine iw_put (pc' := 64) hf ic_fk1 h0 lkf_X1_37 (by decide +kernel) (fun m29 hf => ?_)
      refine iw_aload_n (i := 0) (pc' := 65) 0 rfl (by decide +kernel) ?_
      refine iw_aload_n (i := 1) (pc' := 66) 1 rfl (by decide +kernel) ?_
      refine iw_geti (pc' := 69) ic_fk1 h1 lkf_X1_40 (by decide +kernel) ?_
      refine iw_put (pc' := 72) hf ic_fk1 h0 lkf_X1_40 (by decide +kernel) (fun m30 hf => ?_)
      refine iw_aload_n (i := 0) (pc' := 73) 0 rfl (by decide +kernel) ?_
      refine iw_aload_n (i := 1) (pc' := 74) 1 rfl (by decide +kernel) ?_
      refine iw_geti (pc' := 77) ic_fk1 h1 lkf_X1_18 (by decide +kernel) ?_
      refine iw_put (pc' := 80) hf ic_fk1 h0 lkf_X1_18 (by decide +kernel) (fun m31 hf => ?_)
      refine iw_aload_n (i := 0) (pc' := 81) 0 rfl (by decide +kernel) ?_
      refine iw_aload_n (i := 1) (pc' := 82) 1 rfl (by decide +kernel) ?_
      refine iw_geti (pc' := 85) ic_fk1 h1 lkf_X1_43 (by decide +kernel) ?_
      refine iw_put (pc' := 88) hf ic_fk1 h0 lkf_X1_43 (by decide +kernel) (fun m32 hf => ?_)
      exact iw_vreturn rfl (Option.some.inj hf) (by decide +kernel)
    exact iw_sub [0, 1, 2] rfl (lpX1_copyFrom_30_ok l κ sw r0 r1 h0 h1 hjq28 1000 (0 : Int32) q24 hf)
  exact iw_sub [0, 1, 2] rfl (lpX1_copyFrom_2_ok l κ sw r0 r1 h0 h1 hjq24 1000 (0 : Int32) μ hf)
set_option maxRecDepth 100000 in
set_option maxHeartbeats 4000000 in
theorem ct_X1_setInches (l : Launch) (κ : ic_K) (sw : Nat) (μ : ic_M) (r0 : Nat) (h0 : ic_isO 106 r0 1) (x1 : Int32) (x2 : Int32) {R : ic_M} (hf : fX1_setInches μ r0 x1 x2 = some R) : ic_C l κ MX1_setInches [ic_rv κ.1 r0, .int x1, .int x2] 106 (ic_rs sw) μ none 106 (ic_rs sw) R := by
  refine ic_C.of (L := [(0, ic_rv κ.1 r0), (1, .int x1), (2, .int x2)]) ⟨ic_cat _ _, rfl, rfl, trivial⟩ ⟨by decide +kernel, Nat.le_of_ble_eq_true rfl⟩ rfl ?_
  unfold fX1_setInches at hf
  refine iw_iload_n (i := 1) (pc' := 1) 1 rfl (by decide +kernel) ?_
  obtain ⟨q21, hf, hgq21⟩ := ic_bd hf
  have hjq21 : ic_W l κ MX1_setInches ic_X0 (ic_Z κ MX1_setInches none 106 (ic_rs sw) R) 20 [] [] 106 (ic_rs sw) q21 0 0 := by
    have hf := hgq21
    exact iw_vreturn rfl (Option.some.inj hf) (by decide +kernel)
  refine iw_if_lt (off := 19) (tg := 20) (pc' := 4) hf (by decide +kernel) (fun hf => ?_) (fun hf => ?_)
  · obtain rfl := Option.some.inj hf
    exact iw_sub [] rfl hjq21
  · refine iw_iload_n (i := 1) (pc' := 5) 1 rfl (by decide +kernel) ?_
    refine iw_aload_n (i := 0) (pc' := 6) 0 rfl (by decide +kernel) ?_
    refine iw_getr (pc' := 9) (q := (r0 + 1)) ic_fk1 h0 (ic_rs_o h0 (by decide)) lkf_X1_9 (by decide +kernel) ?_
    refine iw_alen (pc' := 10) (v := (18 : Int32)) (ic_ice1 h0) rfl (by decide +kernel) ?_
    refine iw_icmp_ge (off := 10) (tg := 20) (pc' := 13) hf (by decide +kernel) (fun hf => ?_) (fun hf => ?_)
    · obtain rfl := Option.some.inj hf
      exact iw_sub [] rfl hjq21
    · refine iw_aload_n (i := 0) (pc' := 14) 0 rfl (by decide +kernel) ?_
      refine iw_getr (pc' := 17) (q := (r0 + 1)) ic_fk1 h0 (ic_rs_o h0 (by decide)) lkf_X1_9 (by decide +kernel) ?_
      refine iw_iload_n (i := 1) (pc' := 18) 1 rfl (by decide +kernel) ?_
      refine iw_iload_n (i := 2) (pc' := 19) 2 rfl (by decide +kernel) ?_
      refine iw_iast (pc' := 20) hf (fun _ => (ic_ice1 h0)) (by decide +kernel) (fun m22 hf => ?_)
      obtain rfl := Option.some.inj hf
      exact iw_sub [] rfl hjq21
set_option maxRecDepth 100000 in
set_option maxHeartbeats 4000000 in
theorem ct_X1_putPerson (l : Launch) (κ : ic_K) (sw : Nat) (μ : ic_M) (r0 : Nat) (h0 : ic_isO 106 r0 1) (x1 : Int32) (x2 : Int32) {R : ic_M} (hf : fX1_putPerson μ r0 x1 x2 = some R) : ic_C l κ MX1_putPerson [ic_rv κ.1 r0, .int x1, .int x2] 106 (ic_rs sw) μ none 106 (ic_rs sw) R := by
  refine ic_C.of (L := [(0, ic_rv κ.1 r0), (1, .int x1), (2, .int x2)]) ⟨ic_cat _ _, rfl, rfl, trivial⟩ ⟨by decide +kernel, Nat.le_of_ble_eq_true rfl⟩ rfl ?_
  unfold fX1_putPerson at hf
  refine iw_iload_n (i := 1) (pc' := 1) 1 rfl (by decide +kernel) ?_
  obtain ⟨q21, hf, hgq21⟩ := ic_bd hf
  have hjq21 : ic_W l κ MX1_putPerson ic_X0 (ic_Z κ MX1_putPerson none 106 (ic_rs sw) R) 20 [] [] 106 (ic_rs sw) q21 0 0 := by
    have hf := hgq21
    exact iw_vreturn rfl (Option.some.inj hf) (by decide +kernel)
  refine iw_if_lt (off := 19) (tg := 20) (pc' := 4) hf (by decide +kernel) (fun hf => ?_) (fun hf => ?_)
  · obtain rfl := Option.some.inj hf
    exact iw_sub [] rfl hjq21
  · refine iw_iload_n (i := 1) (pc' := 5) 1 rfl (by decide +kernel) ?_
    refine iw_aload_n (i := 0) (pc' := 6) 0 rfl (by decide +kernel) ?_
    refine iw_getr (pc' := 9) (q := (r0 + 2)) ic_fk1 h0 (ic_rs_o h0 (by decide)) lkf_X1_15 (by decide +kernel) ?_
    refine iw_alen (pc' := 10) (v := (6 : Int32)) (ic_ice2 h0) rfl (by decide +kernel) ?_
    refine iw_icmp_ge (off := 10) (tg := 20) (pc' := 13) hf (by decide +kernel) (fun hf => ?_) (fun hf => ?_)
    · obtain rfl := Option.some.inj hf
      exact iw_sub [] rfl hjq21
    · refine iw_aload_n (i := 0) (pc' := 14) 0 rfl (by decide +kernel) ?_
      refine iw_getr (pc' := 17) (q := (r0 + 2)) ic_fk1 h0 (ic_rs_o h0 (by decide)) lkf_X1_15 (by decide +kernel) ?_
      refine iw_iload_n (i := 1) (pc' := 18) 1 rfl (by decide +kernel) ?_
      refine iw_iload_n (i := 2) (pc' := 19) 2 rfl (by decide +kernel) ?_
      refine iw_iast (pc' := 20) hf (fun _ => (ic_ice2 h0)) (by decide +kernel) (fun m22 hf => ?_)
      obtain rfl := Option.some.inj hf
      exact iw_sub [] rfl hjq21
set_option maxRecDepth 100000 in
set_option maxHeartbeats 4000000 in
theorem ct_X1_isHole (l : Launch) (κ : ic_K) (sw : Nat) (μ : ic_M) (r0 : Nat) (h0 : ic_isO 106 r0 1) (x1 : Int32) {R : Int32} (hf : fX1_isHole μ r0 x1 = some R) : ic_C l κ MX1_isHole [ic_rv κ.1 r0, .int x1] 106 (ic_rs sw) μ (some (.int R)) 106 (ic_rs sw) μ := by
  refine ic_C.of (L := [(0, ic_rv κ.1 r0), (1, .int x1)]) ⟨ic_cat _ _, rfl, trivial⟩ ⟨by decide +kernel, Nat.le_of_ble_eq_true rfl⟩ rfl ?_
  unfold fX1_isHole at hf
  refine iw_aload_n (i := 0) (pc' := 1) 0 rfl (by decide +kernel) ?_
  refine iw_iload_n (i := 1) (pc' := 2) 1 rfl (by decide +kernel) ?_
  obtain ⟨v21, hc, hf⟩ := ic_bd hf
  refine iw_callV (pc' := 5) (S0 := []) (S1 := [.int v21]) (c1 := 0) (s1 := 0) (k := 1) (ct_X1_inchesOf l κ sw μ r0 h0 x1 hc) h0 ⟨rfl, rfl⟩ mv_X1_inchesOf lkm_X1_46 ⟨rfl, rfl⟩ (ic_sum8 trivial (Nat.le_of_ble_eq_true rfl)) (by unfold ic_rm; decide +kernel) ⟨rfl, rfl, rfl⟩ ⟨Nat.le_of_ble_eq_true rfl, Nat.le_of_ble_eq_true rfl⟩ ?_
  obtain ⟨q22, hf, hgq22⟩ := ic_bd hf
  have hjq22 : ic_W l κ MX1_isHole ic_X0 (ic_Z κ MX1_isHole (some (.int R)) 106 (ic_rs sw) μ) 13 [] [.int q22] 106 (ic_rs sw) μ 0 0 := by
    have hf := hgq22
    obtain ⟨hb, hf⟩ := ic_rz_of hf
    exact iw_zreturn hb (Option.some.inj hf) rfl rfl (by decide +kernel)
  refine iw_if_ne (off := 7) (tg := 12) (pc' := 8) hf (by decide +kernel) (fun hf => ?_) (fun hf => ?_)
  · refine iw_iconst (i := 0) (v := (0 : Int32)) (pc' := 13) (by decide +kernel) ?_
    obtain rfl := Option.some.inj hf
    exact iw_sub [] rfl hjq22
  · refine iw_iconst (i := 1) (v := (1 : Int32)) (pc' := 9) (by decide +kernel) ?_
    refine iw_goto (off := 4) (pc' := 13) (by decide +kernel) ?_
    obtain rfl := Option.some.inj hf
    exact iw_sub [] rfl hjq22
set_option maxRecDepth 100000 in
set_option maxHeartbeats 4000000 in
theorem ct_X8_isIn (l : Launch) (κ : ic_K) (sw : Nat) (μ : ic_M) (x0 : Int32) (x1 : Int32) {R : Int32} (hf : fX8_isIn μ x0 x1 = some R) : ic_C l κ MX8_isIn [.int x0, .int x1] 106 (ic_rs sw) μ (some (.int R)) 106 (ic_rs sw) μ := by
  refine ic_C.of (L := [(0, .int x0), (1, .int x1)]) ⟨rfl, rfl, trivial⟩ ⟨by decide +kernel, Nat.le_of_ble_eq_true rfl⟩ rfl ?_
  unfold fX8_isIn at hf
  refine iw_iload_n (i := 1) (pc' := 1) 1 rfl (by decide +kernel) ?_
  obtain ⟨q21, hf, hgq21⟩ := ic_bd hf
  have hjq21 : ic_W l κ MX8_isIn ic_X0 (ic_Z κ MX8_isIn (some (.int R)) 106 (ic_rs sw) μ) 24 [] [.int q21] 106 (ic_rs sw) μ 0 0 := by
    have hf := hgq21
    obtain ⟨hb, hf⟩ := ic_rz_of hf
    exact iw_zreturn hb (Option.some.inj hf) rfl rfl (by decide +kernel)
  refine iw_if_lt (off := 22) (tg := 23) (pc' := 4) hf (by decide +kernel) (fun hf => ?_) (fun hf => ?_)
  · refine iw_iconst (i := 0) (v := (0 : Int32)) (pc' := 24) (by decide +kernel) ?_
    obtain rfl := Option.some.inj hf
    exact iw_sub [] rfl hjq21
  · refine iw_iload_n (i := 1) (pc' := 5) 1 rfl (by decide +kernel) ?_
    refine iw_bipush (i := 31) (v := (31 : Int32)) (pc' := 7) (by decide +kernel) ?_
    refine iw_icmp_ge (off := 16) (tg := 23) (pc' := 10) hf (by decide +kernel) (fun hf => ?_) (fun hf => ?_)
    · refine iw_iconst (i := 0) (v := (0 : Int32)) (pc' := 24) (by decide +kernel) ?_
      obtain rfl := Option.some.inj hf
      exact iw_sub [] rfl hjq21
    · refine iw_iload_n (i := 0) (pc' := 11) 0 rfl (by decide +kernel) ?_
      refine iw_iload_n (i := 1) (pc' := 12) 1 rfl (by decide +kernel) ?_
      refine iw_ishr (pc' := 13) (by decide +kernel) ?_
      refine iw_iconst (i := 1) (v := (1 : Int32)) (pc' := 14) (by decide +kernel) ?_
      refine iw_iand (pc' := 15) (by decide +kernel) ?_
      refine iw_iconst (i := 1) (v := (1 : Int32)) (pc' := 16) (by decide +kernel) ?_
      refine iw_icmp_ne (off := 7) (tg := 23) (pc' := 19) hf (by decide +kernel) (fun hf => ?_) (fun hf => ?_)
      · refine iw_iconst (i := 0) (v := (0 : Int32)) (pc' := 24) (by decide +kernel) ?_
        obtain rfl := Option.some.inj hf
        exact iw_sub [] rfl hjq21
      · refine iw_iconst (i := 1) (v := (1 : Int32)) (pc' := 20) (by decide +kernel) ?_
        refine iw_goto (off := 4) (pc' := 24) (by decide +kernel) ?_
        obtain rfl := Option.some.inj hf
        exact iw_sub [] rfl hjq21
set_option maxRecDepth 100000 in
set_option maxHeartbeats 4000000 in
theorem ct_X1_isSnowy (l : Launch) (κ : ic_K) (sw : Nat) (μ : ic_M) (r0 : Nat) (h0 : ic_isO 106 r0 1) (x1 : Int32) {R : Int32} (hf : fX1_isSnowy μ r0 x1 = some R) : ic_C l κ MX1_isSnowy [ic_rv κ.1 r0, .int x1] 106 (ic_rs sw) μ (some (.int R)) 106 (ic_rs sw) μ := by
  refine ic_C.of (L := [(0, ic_rv κ.1 r0), (1, .int x1)]) ⟨ic_cat _ _, rfl, trivial⟩ ⟨by decide +kernel, Nat.le_of_ble_eq_true rfl⟩ rfl ?_
  unfold fX1_isSnowy at hf
  refine iw_aload_n (i := 0) (pc' := 1) 0 rfl (by decide +kernel) ?_
  refine iw_geti (pc' := 4) ic_fk1 h0 lkf_X1_37 (by decide +kernel) ?_
  refine iw_iload_n (i := 1) (pc' := 5) 1 rfl (by decide +kernel) ?_
  obtain ⟨v21, hc, hf⟩ := ic_bd hf
  refine iw_callSN (pc' := 8) (S0 := []) (S1 := [.int v21]) (c1 := 0) (s1 := 0) (k := 2) (ct_X8_isIn l κ sw μ (μ r0 2) x1 hc) ms_X8_isIn lkm_X1_52 ⟨rfl, rfl⟩ (ic_sum8 trivial (Nat.le_of_ble_eq_true rfl)) (by unfold ic_rm; decide +kernel) ⟨rfl, rfl, rfl⟩ ⟨Nat.le_of_ble_eq_true rfl, Nat.le_of_ble_eq_true rfl⟩ ?_
  obtain ⟨hb, hf⟩ := ic_rz_of hf
  exact iw_zreturn hb (Option.some.inj hf) rfl rfl (by decide +kernel)
set_option maxRecDepth 100000 in
set_option maxHeartbeats 4000000 in
theorem ct_X1_laySnow (l : Launch) (κ : ic_K) (sw : Nat) (μ : ic_M) (r0 : Nat) (h0 : ic_isO 106 r0 1) (x1 : Int32) (x2 : Int32) {R : ic_M} (hf : fX1_laySnow μ r0 x1 x2 = some R) : ic_C l κ MX1_laySnow [ic_rv κ.1 r0, .int x1, .int x2] 106 (ic_rs sw) μ none 106 (ic_rs sw) R := by
  refine ic_C.of (L := [(0, ic_rv κ.1 r0), (1, .int x1), (2, .int x2)]) ⟨ic_cat _ _, rfl, rfl, trivial⟩ ⟨by decide +kernel, Nat.le_of_ble_eq_true rfl⟩ rfl ?_
  unfold fX1_laySnow at hf
  refine iw_aload_n (i := 0) (pc' := 1) 0 rfl (by decide +kernel) ?_
  refine iw_iload_n (i := 2) (pc' := 2) 2 rfl (by decide +kernel) ?_
  obtain ⟨q21, hf, hgq21⟩ := ic_bd hf
  have hjq21 : ic_W l κ MX1_laySnow ic_X0 (ic_Z κ MX1_laySnow none 106 (ic_rs sw) R) 26 [] [.int q21, ic_rv κ.1 r0] 106 (ic_rs sw) μ 0 0 := by
    have hf := hgq21
    refine iw_put (pc' := 29) hf ic_fk1 h0 lkf_X1_37 (by decide +kernel) (fun m22 hf => ?_)
    exact iw_vreturn rfl (Option.some.inj hf) (by decide +kernel)
  refine iw_if_eq (off := 14) (tg := 16) (pc' := 5) hf (by decide +kernel) (fun hf => ?_) (fun hf => ?_)
  · refine iw_aload_n (i := 0) (pc' := 17) 0 rfl (by decide +kernel) ?_
    refine iw_geti (pc' := 20) ic_fk1 h0 lkf_X1_37 (by decide +kernel) ?_
    refine iw_iconst (i := 1) (v := (1 : Int32)) (pc' := 21) (by decide +kernel) ?_
    refine iw_iload_n (i := 1) (pc' := 22) 1 rfl (by decide +kernel) ?_
    refine iw_ishl (pc' := 23) (by decide +kernel) ?_
    refine iw_iconst (i := (-1)) (v := (-1 : Int32)) (pc' := 24) (by decide +kernel) ?_
    refine iw_ixor (pc' := 25) (by decide +kernel) ?_
    refine iw_iand (pc' := 26) (by decide +kernel) ?_
    obtain rfl := Option.some.inj hf
    exact iw_sub [] rfl hjq21
  · refine iw_aload_n (i := 0) (pc' := 6) 0 rfl (by decide +kernel) ?_
    refine iw_geti (pc' := 9) ic_fk1 h0 lkf_X1_37 (by decide +kernel) ?_
    refine iw_iconst (i := 1) (v := (1 : Int32)) (pc' := 10) (by decide +kernel) ?_
    refine iw_iload_n (i := 1) (pc' := 11) 1 rfl (by decide +kernel) ?_
    refine iw_ishl (pc' := 12) (by decide +kernel) ?_
    refine iw_ior (pc' := 13) (by decide +kernel) ?_
    refine iw_goto (off := 13) (pc' := 26) (by decide +kernel) ?_
    obtain rfl := Option.some.inj hf
    exact iw_sub [] rfl hjq21
set_option maxRecDepth 100000 in
set_option maxHeartbeats 4000000 in
theorem ct_X1_bears (l : Launch) (κ : ic_K) (sw : Nat) (μ : ic_M) (r0 : Nat) (h0 : ic_isO 106 r0 1) (r1 : Nat) (h1 : ic_isO 106 r1 5) (x2 : Int32) {R : Int32} (hf : fX1_bears μ r0 r1 x2 = some R) : ic_C l κ MX1_bears [ic_rv κ.1 r0, ic_rv κ.1 r1, .int x2] 106 (ic_rs sw) μ (some (.int R)) 106 (ic_rs sw) μ := by
  refine ic_C.of (L := [(0, ic_rv κ.1 r0), (1, ic_rv κ.1 r1), (2, .int x2)]) ⟨ic_cat _ _, ic_cat _ _, rfl, trivial⟩ ⟨by decide +kernel, Nat.le_of_ble_eq_true rfl⟩ rfl ?_
  unfold fX1_bears at hf
  refine iw_aload_n (i := 1) (pc' := 1) 1 rfl (by decide +kernel) ?_
  refine iw_geti (pc' := 4) ic_fk5 h1 lkf_X1_56 (by decide +kernel) ?_
  refine iw_aload_n (i := 0) (pc' := 5) 0 rfl (by decide +kernel) ?_
  refine iw_iload_n (i := 2) (pc' := 6) 2 rfl (by decide +kernel) ?_
  obtain ⟨v21, hc, hf⟩ := ic_bd hf
  refine iw_callV (pc' := 9) (S0 := [.int (μ r1 10)]) (S1 := [.int v21, .int (μ r1 10)]) (c1 := 0) (s1 := 0) (k := 1) (ct_X1_inchesOf l κ sw μ r0 h0 x2 hc) h0 ⟨rfl, rfl⟩ mv_X1_inchesOf lkm_X1_46 ⟨rfl, rfl⟩ (ic_sum8 ⟨rfl, trivial⟩ (Nat.le_of_ble_eq_true rfl)) (by unfold ic_rm; decide +kernel) ⟨rfl, rfl, rfl⟩ ⟨Nat.le_of_ble_eq_true rfl, Nat.le_of_ble_eq_true rfl⟩ ?_
  refine iw_imul (pc' := 10) (by decide +kernel) ?_
  exact iw_ireturn (Option.some.inj hf) rfl rfl (by decide +kernel)
set_option maxRecDepth 100000 in
set_option maxHeartbeats 4000000 in
theorem ct_X5_nextTo (l : Launch) (κ : ic_K) (sw : Nat) (μ : ic_M) (r0 : Nat) (h0 : ic_isO 106 r0 5) (x1 : Int32) {R : Int32} (hf : fX5_nextTo μ r0 x1 = some R) : ic_C l κ MX5_nextTo [ic_rv κ.1 r0, .int x1] 106 (ic_rs sw) μ (some (.int R)) 106 (ic_rs sw) μ := by
  refine ic_C.of (L := [(0, ic_rv κ.1 r0), (1, .int x1)]) ⟨ic_cat _ _, rfl, trivial⟩ ⟨by decide +kernel, Nat.le_of_ble_eq_true rfl⟩ rfl ?_
  unfold fX5_nextTo at hf
  refine iw_aload_n (i := 0) (pc' := 1) 0 rfl (by decide +kernel) ?_
  refine iw_geti (pc' := 4) ic_fk5 h0 lkf_X5_27 (by decide +kernel) ?_
  refine iw_iconst (i := 1) (v := (1 : Int32)) (pc' := 5) (by decide +kernel) ?_
  refine iw_icmp_lt (off := 15) (tg := 20) (pc' := 8) hf (by decide +kernel) (fun hf => ?_) (fun hf => ?_)
  · refine iw_iconst (i := 0) (v := (0 : Int32)) (pc' := 21) (by decide +kernel) ?_
    exact iw_ireturn (Option.some.inj hf) rfl rfl (by decide +kernel)
  · refine iw_iload_n (i := 1) (pc' := 9) 1 rfl (by decide +kernel) ?_
    refine iw_if_lt (off := 11) (tg := 20) (pc' := 12) hf (by decide +kernel) (fun hf => ?_) (fun hf => ?_)
    · refine iw_iconst (i := 0) (v := (0 : Int32)) (pc' := 21) (by decide +kernel) ?_
      exact iw_ireturn (Option.some.inj hf) rfl rfl (by decide +kernel)
    · refine iw_iload_n (i := 1) (pc' := 13) 1 rfl (by decide +kernel) ?_
      refine iw_aload_n (i := 0) (pc' := 14) 0 rfl (by decide +kernel) ?_
      refine iw_geti (pc' := 17) ic_fk5 h0 lkf_X5_37 (by decide +kernel) ?_
      refine iw_icmp_lt (off := 5) (tg := 22) (pc' := 20) hf (by decide +kernel) (fun hf => ?_) (fun hf => ?_)
      · refine iw_iconst (i := 0) (v := (0 : Int32)) (pc' := 23) (by decide +kernel) ?_
        refine iw_istore_n0 (i := 2) (pc' := 24) (L' := [(0, ic_rv κ.1 r0), (1, .int x1), (2, .int (0 : Int32))]) rfl (by decide +kernel) ?_
        refine iw_iload_n (i := 1) (pc' := 25) 1 rfl (by decide +kernel) ?_
        refine iw_aload_n (i := 0) (pc' := 26) 0 rfl (by decide +kernel) ?_
        refine iw_geti (pc' := 29) ic_fk5 h0 lkf_X5_27 (by decide +kernel) ?_
        obtain ⟨q21, hf, hgq21⟩ := ic_bd hf
        have hjq21 : ic_W l κ MX5_nextTo ic_X0 (ic_Z κ MX5_nextTo (some (.int R)) 106 (ic_rs sw) μ) 43 [(0, ic_rv κ.1 r0), (1, .int x1), (2, .int q21)] [] 106 (ic_rs sw) μ 0 0 := by
          have hf := hgq21
          refine iw_iload_n (i := 1) (pc' := 44) 1 rfl (by decide +kernel) ?_
          refine iw_aload_n (i := 0) (pc' := 45) 0 rfl (by decide +kernel) ?_
          refine iw_geti (pc' := 48) ic_fk5 h0 lkf_X5_27 (by decide +kernel) ?_
          refine iw_iadd (pc' := 49) (by decide +kernel) ?_
          refine iw_aload_n (i := 0) (pc' := 50) 0 rfl (by decide +kernel) ?_
          refine iw_geti (pc' := 53) ic_fk5 h0 lkf_X5_37 (by decide +kernel) ?_
          obtain ⟨q23, hf, hgq23⟩ := ic_bd hf
          have hjq23 : ic_W l κ MX5_nextTo ic_X0 (ic_Z κ MX5_nextTo (some (.int R)) 106 (ic_rs sw) μ) 67 [(0, ic_rv κ.1 r0), (1, .int x1), (2, .int q23)] [] 106 (ic_rs sw) μ 0 0 := by
            have hf := hgq23
            refine iw_iload_n (i := 1) (pc' := 68) 1 rfl (by decide +kernel) ?_
            refine iw_aload_n (i := 0) (pc' := 69) 0 rfl (by decide +kernel) ?_
            refine iw_geti (pc' := 72) ic_fk5 h0 lkf_X5_27 (by decide +kernel) ?_
            refine iw_irem (pc' := 73) hf (by decide +kernel) (fun hf => ?_)
            obtain ⟨q25, hf, hgq25⟩ := ic_bd hf
            have hjq25 : ic_W l κ MX5_nextTo ic_X0 (ic_Z κ MX5_nextTo (some (.int R)) 106 (ic_rs sw) μ) 84 [(0, ic_rv κ.1 r0), (1, .int x1), (2, .int q25)] [] 106 (ic_rs sw) μ 0 0 := by
              have hf := hgq25
              refine iw_iload_n (i := 1) (pc' := 85) 1 rfl (by decide +kernel) ?_
              refine iw_aload_n (i := 0) (pc' := 86) 0 rfl (by decide +kernel) ?_
              refine iw_geti (pc' := 89) ic_fk5 h0 lkf_X5_27 (by decide +kernel) ?_
              refine iw_irem (pc' := 90) hf (by decide +kernel) (fun hf => ?_)
              refine iw_aload_n (i := 0) (pc' := 91) 0 rfl (by decide +kernel) ?_
              refine iw_geti (pc' := 94) ic_fk5 h0 lkf_X5_27 (by decide +kernel) ?_
              refine iw_iconst (i := 1) (v := (1 : Int32)) (pc' := 95) (by decide +kernel) ?_
              refine iw_isub (pc' := 96) (by decide +kernel) ?_
              obtain ⟨q27, hf, hgq27⟩ := ic_bd hf
              have hjq27 : ic_W l κ MX5_nextTo ic_X0 (ic_Z κ MX5_nextTo (some (.int R)) 106 (ic_rs sw) μ) 107 [(2, .int q27)] [] 106 (ic_rs sw) μ 0 0 := by
                have hf := hgq27
                refine iw_iload_n (i := 2) (pc' := 108) 0 rfl (by decide +kernel) ?_
                exact iw_ireturn (Option.some.inj hf) rfl rfl (by decide +kernel)
              refine iw_icmp_ge (off := 11) (tg := 107) (pc' := 99) hf (by decide +kernel) (fun hf => ?_) (fun hf => ?_)
              · obtain rfl := Option.some.inj hf
                exact iw_sub [2] rfl hjq27
              · refine iw_iload_n (i := 2) (pc' := 100) 2 rfl (by decide +kernel) ?_
                refine iw_iconst (i := 1) (v := (1 : Int32)) (pc' := 101) (by decide +kernel) ?_
                refine iw_iload_n (i := 1) (pc' := 102) 1 rfl (by decide +kernel) ?_
                refine iw_iconst (i := 1) (v := (1 : Int32)) (pc' := 103) (by decide +kernel) ?_
                refine iw_iadd (pc' := 104) (by decide +kernel) ?_
                refine iw_ishl (pc' := 105) (by decide +kernel) ?_
                refine iw_ior (pc' := 106) (by decide +kernel) ?_
                refine iw_istore_n (i := 2) (pc' := 107) (L1 := fun x28 => [(0, ic_rv κ.1 r0), (1, .int x1), (2, .int x28)]) hf (fun _ => rfl) (by decide +kernel) (fun x28 hf => ?_)
                obtain rfl := Option.some.inj hf
                exact iw_sub [2] rfl hjq27
            refine iw_if_le (off := 11) (tg := 84) (pc' := 76) hf (by decide +kernel) (fun hf => ?_) (fun hf => ?_)
            · obtain rfl := Option.some.inj hf
              exact iw_sub [0, 1, 2] rfl hjq25
            · refine iw_iload_n (i := 2) (pc' := 77) 2 rfl (by decide +kernel) ?_
              refine iw_iconst (i := 1) (v := (1 : Int32)) (pc' := 78) (by decide +kernel) ?_
              refine iw_iload_n (i := 1) (pc' := 79) 1 rfl (by decide +kernel) ?_
              refine iw_iconst (i := 1) (v := (1 : Int32)) (pc' := 80) (by decide +kernel) ?_
              refine iw_isub (pc' := 81) (by decide +kernel) ?_
              refine iw_ishl (pc' := 82) (by decide +kernel) ?_
              refine iw_ior (pc' := 83) (by decide +kernel) ?_
              refine iw_istore_n (i := 2) (pc' := 84) (L1 := fun x26 => [(0, ic_rv κ.1 r0), (1, .int x1), (2, .int x26)]) hf (fun _ => rfl) (by decide +kernel) (fun x26 hf => ?_)
              obtain rfl := Option.some.inj hf
              exact iw_sub [0, 1, 2] rfl hjq25
          refine iw_icmp_ge (off := 14) (tg := 67) (pc' := 56) hf (by decide +kernel) (fun hf => ?_) (fun hf => ?_)
          · obtain rfl := Option.some.inj hf
            exact iw_sub [0, 1, 2] rfl hjq23
          · refine iw_iload_n (i := 2) (pc' := 57) 2 rfl (by decide +kernel) ?_
            refine iw_iconst (i := 1) (v := (1 : Int32)) (pc' := 58) (by decide +kernel) ?_
            refine iw_iload_n (i := 1) (pc' := 59) 1 rfl (by decide +kernel) ?_
            refine iw_aload_n (i := 0) (pc' := 60) 0 rfl (by decide +kernel) ?_
            refine iw_geti (pc' := 63) ic_fk5 h0 lkf_X5_27 (by decide +kernel) ?_
            refine iw_iadd (pc' := 64) (by decide +kernel) ?_
            refine iw_ishl (pc' := 65) (by decide +kernel) ?_
            refine iw_ior (pc' := 66) (by decide +kernel) ?_
            refine iw_istore_n (i := 2) (pc' := 67) (L1 := fun x24 => [(0, ic_rv κ.1 r0), (1, .int x1), (2, .int x24)]) hf (fun _ => rfl) (by decide +kernel) (fun x24 hf => ?_)
            obtain rfl := Option.some.inj hf
            exact iw_sub [0, 1, 2] rfl hjq23
        refine iw_icmp_lt (off := 14) (tg := 43) (pc' := 32) hf (by decide +kernel) (fun hf => ?_) (fun hf => ?_)
        · obtain rfl := Option.some.inj hf
          exact iw_sub [0, 1, 2] rfl hjq21
        · refine iw_iload_n (i := 2) (pc' := 33) 2 rfl (by decide +kernel) ?_
          refine iw_iconst (i := 1) (v := (1 : Int32)) (pc' := 34) (by decide +kernel) ?_
          refine iw_iload_n (i := 1) (pc' := 35) 1 rfl (by decide +kernel) ?_
          refine iw_aload_n (i := 0) (pc' := 36) 0 rfl (by decide +kernel) ?_
          refine iw_geti (pc' := 39) ic_fk5 h0 lkf_X5_27 (by decide +kernel) ?_
          refine iw_isub (pc' := 40) (by decide +kernel) ?_
          refine iw_ishl (pc' := 41) (by decide +kernel) ?_
          refine iw_ior (pc' := 42) (by decide +kernel) ?_
          refine iw_istore_n (i := 2) (pc' := 43) (L1 := fun x22 => [(0, ic_rv κ.1 r0), (1, .int x1), (2, .int x22)]) hf (fun _ => rfl) (by decide +kernel) (fun x22 hf => ?_)
          obtain rfl := Option.some.inj hf
          exact iw_sub [0, 1, 2] rfl hjq21
      · refine iw_iconst (i := 0) (v := (0 : Int32)) (pc' := 21) (by decide +kernel) ?_
        exact iw_ireturn (Option.some.inj hf) rfl rfl (by decide +kernel)
set_option maxRecDepth 100000 in
set_option maxHeartbeats 4000000 in
theorem ct_X5_weightOf (l : Launch) (κ : ic_K) (sw : Nat) (μ : ic_M) (r0 : Nat) (h0 : ic_isO 106 r0 5) (x1 : Int32) {R : Int32} (hf : fX5_weightOf μ r0 x1 = some R) : ic_C l κ MX5_weightOf [ic_rv κ.1 r0, .int x1] 106 (ic_rs sw) μ (some (.int R)) 106 (ic_rs sw) μ := by
  refine ic_C.of (L := [(0, ic_rv κ.1 r0), (1, .int x1)]) ⟨ic_cat _ _, rfl, trivial⟩ ⟨by decide +kernel, Nat.le_of_ble_eq_true rfl⟩ rfl ?_
  unfold fX5_weightOf at hf
  refine iw_iload_n (i := 1) (pc' := 1) 1 rfl (by decide +kernel) ?_
  obtain ⟨q21, hf, hgq21⟩ := ic_bd hf
  have hjq21 : ic_W l κ MX5_weightOf ic_X0 (ic_Z κ MX5_weightOf (some (.int R)) 106 (ic_rs sw) μ) 23 [] [.int q21] 106 (ic_rs sw) μ 0 0 := by
    have hf := hgq21
    exact iw_ireturn (Option.some.inj hf) rfl rfl (by decide +kernel)
  refine iw_if_lt (off := 21) (tg := 22) (pc' := 4) hf (by decide +kernel) (fun hf => ?_) (fun hf => ?_)
  · refine iw_iconst (i := 0) (v := (0 : Int32)) (pc' := 23) (by decide +kernel) ?_
    obtain rfl := Option.some.inj hf
    exact iw_sub [] rfl hjq21
  · refine iw_iload_n (i := 1) (pc' := 5) 1 rfl (by decide +kernel) ?_
    refine iw_aload_n (i := 0) (pc' := 6) 0 rfl (by decide +kernel) ?_
    refine iw_getr (pc' := 9) (q := (r0 + 5)) ic_fk5 h0 (ic_rs_o h0 (by decide)) lkf_X5_24 (by decide +kernel) ?_
    refine iw_alen (pc' := 10) (v := (6 : Int32)) (ic_riv5 h0) rfl (by decide +kernel) ?_
    refine iw_icmp_ge (off := 12) (tg := 22) (pc' := 13) hf (by decide +kernel) (fun hf => ?_) (fun hf => ?_)
    · refine iw_iconst (i := 0) (v := (0 : Int32)) (pc' := 23) (by decide +kernel) ?_
      obtain rfl := Option.some.inj hf
      exact iw_sub [] rfl hjq21
    · refine iw_aload_n (i := 0) (pc' := 14) 0 rfl (by decide +kernel) ?_
      refine iw_getr (pc' := 17) (q := (r0 + 5)) ic_fk5 h0 (ic_rs_o h0 (by decide)) lkf_X5_24 (by decide +kernel) ?_
      refine iw_iload_n (i := 1) (pc' := 18) 1 rfl (by decide +kernel) ?_
      refine iw_iald (pc' := 19) hf (fun _ => (ic_riv5 h0)) (by decide +kernel) (fun v22 hf => ?_)
      refine iw_goto (off := 4) (pc' := 23) (by decide +kernel) ?_
      obtain rfl := Option.some.inj hf
      exact iw_sub [] rfl hjq21
set_option maxRecDepth 100000 in
set_option maxHeartbeats 4000000 in
theorem lpX1_load_15_ok (l : Launch) (κ : ic_K) (sw : Nat) (μ : ic_M) (r0_ : Nat) (r1_ : Nat) (x2_ : Int32) (x3_ : Int32) (h0_ : ic_isO 106 r0_ 1) (h1_ : ic_isO 106 r1_ 5) {Z : State → List Frame → Array Value → State → Prop} {R : Int32 × Int32} (hk : ic_W l κ MX1_load ic_X0 Z 78 [(4, .int R.1), (5, .int R.2)] [] 106 (ic_rs sw) μ 0 0) : ∀ (fu : Nat) (y4_ : Int32) (y5_ : Int32) (y6_ : Int32), lpX1_load_15 μ r0_ r1_ x2_ x3_ fu y4_ y5_ y6_ = some R → ic_W l κ MX1_load ic_X0 Z 15 [(0, ic_rv κ.1 r0_), (1, ic_rv κ.1 r1_), (2, .int x2_), (3, .int x3_), (4, .int y4_), (5, .int y5_), (6, .int y6_)] [] 106 (ic_rs sw) μ 0 0 := by
  intro fu
  induction fu with
  | zero =>
    intro y4_ y5_ y6_ hf
    exact absurd hf (by simp [lpX1_load_15])
  | succ fu ih =>
    intro y4_ y5_ y6_ hf
    rw [lpX1_load_15] at hf
    refine iw_iload (i := 6) (pc' := 17) 6 rfl (by decide +kernel) ?_
    refine iw_aload_n (i := 1) (pc' := 18) 1 rfl (by decide +kernel) ?_
    refine iw_geti (pc' := 21) ic_fk5 h1_ lkf_X1_62 (by decide +kernel) ?_
    refine iw_icmp_ge (off := 57) (tg := 78) (pc' := 24) hf (by decide +kernel) (fun hf => ?_) (fun hf => ?_)
    · obtain rfl := Option.some.inj hf
      exact iw_sub [4, 5] rfl hk
    · refine iw_aload_n (i := 0) (pc' := 25) 0 rfl (by decide +kernel) ?_
      refine iw_iload (i := 6) (pc' := 27) 6 rfl (by decide +kernel) ?_
      obtain ⟨v22, hc, hf⟩ := ic_bd hf
      refine iw_callV (pc' := 30) (S0 := []) (S1 := [.int v22]) (c1 := 0) (s1 := 0) (k := 1) (ct_X1_placeOf l κ sw μ r0_ h0_ y6_ hc) h0_ ⟨rfl, rfl⟩ mv_X1_placeOf lkm_X1_49 ⟨rfl, rfl⟩ (ic_sum8 trivial (Nat.le_of_ble_eq_true rfl)) (by unfold ic_rm; decide +kernel) ⟨rfl, rfl, rfl⟩ ⟨Nat.le_of_ble_eq_true rfl, Nat.le_of_ble_eq_true rfl⟩ ?_
      refine iw_iload_n (i := 2) (pc' := 31) 2 rfl (by decide +kernel) ?_
      obtain ⟨q23, hf, hgq23⟩ := ic_bd hf
      have hjq23 : ic_W l κ MX1_load ic_X0 Z 72 [(0, ic_rv κ.1 r0_), (1, ic_rv κ.1 r1_), (2, .int x2_), (3, .int x3_), (4, .int q23.1), (5, .int q23.2), (6, .int y6_)] [] 106 (ic_rs sw) μ 0 0 := by
        have hf := hgq23
        refine iw_iinc (i := 6) (d := 1) (pc' := 75) (v := (1 : Int32)) (L1 := fun x30 => [(0, ic_rv κ.1 r0_), (1, ic_rv κ.1 r1_), (2, .int x2_), (3, .int x3_), (4, .int q23.1), (5, .int q23.2), (6, .int x30)]) hf 6 rfl (fun _ => rfl) (by decide +kernel) (fun x30 hf => ?_)
        refine iw_goto (off := (-60)) (pc' := 15) (by decide +kernel) ?_
        exact iw_sub [0, 1, 2, 3, 4, 5, 6] rfl (ih _ _ _ hf)
      refine iw_icmp_ne (off := 17) (tg := 48) (pc' := 34) hf (by decide +kernel) (fun hf => ?_) (fun hf => ?_)
      · refine iw_iload_n (i := 3) (pc' := 49) 3 rfl (by decide +kernel) ?_
        refine iw_aload_n (i := 0) (pc' := 50) 0 rfl (by decide +kernel) ?_
        refine iw_iload (i := 6) (pc' := 52) 6 rfl (by decide +kernel) ?_
        obtain ⟨v24, hc, hf⟩ := ic_bd hf
        refine iw_callV (pc' := 55) (S0 := [.int x3_]) (S1 := [.int v24, .int x3_]) (c1 := 0) (s1 := 0) (k := 1) (ct_X1_placeOf l κ sw μ r0_ h0_ y6_ hc) h0_ ⟨rfl, rfl⟩ mv_X1_placeOf lkm_X1_49 ⟨rfl, rfl⟩ (ic_sum8 ⟨rfl, trivial⟩ (Nat.le_of_ble_eq_true rfl)) (by unfold ic_rm; decide +kernel) ⟨rfl, rfl, rfl⟩ ⟨Nat.le_of_ble_eq_true rfl, Nat.le_of_ble_eq_true rfl⟩ ?_
        obtain ⟨v25, hc, hf⟩ := ic_bd hf
        refine iw_callSN (pc' := 58) (S0 := []) (S1 := [.int v25]) (c1 := 0) (s1 := 0) (k := 2) (ct_X8_isIn l κ sw μ x3_ v24 hc) ms_X8_isIn lkm_X1_52 ⟨rfl, rfl⟩ (ic_sum8 trivial (Nat.le_of_ble_eq_true rfl)) (by unfold ic_rm; decide +kernel) ⟨rfl, rfl, rfl⟩ ⟨Nat.le_of_ble_eq_true rfl, Nat.le_of_ble_eq_true rfl⟩ ?_
        refine iw_if_eq (off := 14) (tg := 72) (pc' := 61) hf (by decide +kernel) (fun hf => ?_) (fun hf => ?_)
        · obtain rfl := Option.some.inj hf
          exact iw_sub [0, 1, 2, 3, 4, 5, 6] rfl hjq23
        · refine iw_iload (i := 5) (pc' := 63) 5 rfl (by decide +kernel) ?_
          refine iw_aload_n (i := 1) (pc' := 64) 1 rfl (by decide +kernel) ?_
          refine iw_iload (i := 6) (pc' := 66) 6 rfl (by decide +kernel) ?_
          obtain ⟨v26, hc, hf⟩ := ic_bd hf
          refine iw_callV (pc' := 69) (S0 := [.int y5_]) (S1 := [.int v26, .int y5_]) (c1 := 0) (s1 := 0) (k := 1) (ct_X5_weightOf l κ sw μ r1_ h1_ y6_ hc) h1_ ⟨rfl, rfl⟩ mv_X5_weightOf lkm_X1_65 ⟨rfl, rfl⟩ (ic_sum8 ⟨rfl, trivial⟩ (Nat.le_of_ble_eq_true rfl)) (by unfold ic_rm; decide +kernel) ⟨rfl, rfl, rfl⟩ ⟨Nat.le_of_ble_eq_true rfl, Nat.le_of_ble_eq_true rfl⟩ ?_
          refine iw_iadd (pc' := 70) (by decide +kernel) ?_
          refine iw_istore (i := 5) (pc' := 72) (L1 := fun x27 => [(0, ic_rv κ.1 r0_), (1, ic_rv κ.1 r1_), (2, .int x2_), (3, .int x3_), (4, .int y4_), (5, .int x27), (6, .int y6_)]) hf (fun _ => rfl) (by decide +kernel) (fun x27 hf => ?_)
          obtain rfl := Option.some.inj hf
          exact iw_sub [0, 1, 2, 3, 4, 5, 6] rfl hjq23
      · refine iw_iload (i := 4) (pc' := 36) 4 rfl (by decide +kernel) ?_
        refine iw_aload_n (i := 1) (pc' := 37) 1 rfl (by decide +kernel) ?_
        refine iw_iload (i := 6) (pc' := 39) 6 rfl (by decide +kernel) ?_
        obtain ⟨v28, hc, hf⟩ := ic_bd hf
        refine iw_callV (pc' := 42) (S0 := [.int y4_]) (S1 := [.int v28, .int y4_]) (c1 := 0) (s1 := 0) (k := 1) (ct_X5_weightOf l κ sw μ r1_ h1_ y6_ hc) h1_ ⟨rfl, rfl⟩ mv_X5_weightOf lkm_X1_65 ⟨rfl, rfl⟩ (ic_sum8 ⟨rfl, trivial⟩ (Nat.le_of_ble_eq_true rfl)) (by unfold ic_rm; decide +kernel) ⟨rfl, rfl, rfl⟩ ⟨Nat.le_of_ble_eq_true rfl, Nat.le_of_ble_eq_true rfl⟩ ?_
        refine iw_iadd (pc' := 43) (by decide +kernel) ?_
        refine iw_istore (i := 4) (pc' := 45) (L1 := fun x29 => [(0, ic_rv κ.1 r0_), (1, ic_rv κ.1 r1_), (2, .int x2_), (3, .int x3_), (4, .int x29), (5, .int y5_), (6, .int y6_)]) hf (fun _ => rfl) (by decide +kernel) (fun x29 hf => ?_)
        refine iw_goto (off := 27) (pc' := 72) (by decide +kernel) ?_
        obtain rfl := Option.some.inj hf
        exact iw_sub [0, 1, 2, 3, 4, 5, 6] rfl hjq23
set_option maxRecDepth 100000 in
set_option maxHeartbeats 4000000 in
theorem ct_X1_load (l : Launch) (κ : ic_K) (sw : Nat) (μ : ic_M) (r0 : Nat) (h0 : ic_isO 106 r0 1) (r1 : Nat) (h1 : ic_isO 106 r1 5) (x2 : Int32) {R : Int32} (hf : fX1_load μ r0 r1 x2 = some R) : ic_C l κ MX1_load [ic_rv κ.1 r0, ic_rv κ.1 r1, .int x2] 106 (ic_rs sw) μ (some (.int R)) 106 (ic_rs sw) μ := by
  refine ic_C.of (L := [(0, ic_rv κ.1 r0), (1, ic_rv κ.1 r1), (2, .int x2)]) ⟨ic_cat _ _, ic_cat _ _, rfl, trivial⟩ ⟨by decide +kernel, Nat.le_of_ble_eq_true rfl⟩ rfl ?_
  unfold fX1_load at hf
  refine iw_aload_n (i := 1) (pc' := 1) 1 rfl (by decide +kernel) ?_
  refine iw_iload_n (i := 2) (pc' := 2) 2 rfl (by decide +kernel) ?_
  obtain ⟨v21, hc, hf⟩ := ic_bd hf
  refine iw_callV (pc' := 5) (S0 := []) (S1 := [.int v21]) (c1 := 0) (s1 := 0) (k := 1) (ct_X5_nextTo l κ sw μ r1 h1 x2 hc) h1 ⟨rfl, rfl⟩ mv_X5_nextTo lkm_X1_59 ⟨rfl, rfl⟩ (ic_sum8 trivial (Nat.le_of_ble_eq_true rfl)) (by unfold ic_rm; decide +kernel) ⟨rfl, rfl, rfl⟩ ⟨Nat.le_of_ble_eq_true rfl, Nat.le_of_ble_eq_true rfl⟩ ?_
  refine iw_istore_n0 (i := 3) (pc' := 6) (L' := [(0, ic_rv κ.1 r0), (1, ic_rv κ.1 r1), (2, .int x2), (3, .int v21)]) rfl (by decide +kernel) ?_
  refine iw_iconst (i := 0) (v := (0 : Int32)) (pc' := 7) (by decide +kernel) ?_
  refine iw_istore0 (i := 4) (pc' := 9) (L' := [(0, ic_rv κ.1 r0), (1, ic_rv κ.1 r1), (2, .int x2), (3, .int v21), (4, .int (0 : Int32))]) rfl (by decide +kernel) ?_
  refine iw_iconst (i := 0) (v := (0 : Int32)) (pc' := 10) (by decide +kernel) ?_
  refine iw_istore0 (i := 5) (pc' := 12) (L' := [(0, ic_rv κ.1 r0), (1, ic_rv κ.1 r1), (2, .int x2), (3, .int v21), (4, .int (0 : Int32)), (5, .int (0 : Int32))]) rfl (by decide +kernel) ?_
  refine iw_iconst (i := 0) (v := (0 : Int32)) (pc' := 13) (by decide +kernel) ?_
  refine iw_istore0 (i := 6) (pc' := 15) (L' := [(0, ic_rv κ.1 r0), (1, ic_rv κ.1 r1), (2, .int x2), (3, .int v21), (4, .int (0 : Int32)), (5, .int (0 : Int32)), (6, .int (0 : Int32))]) rfl (by decide +kernel) ?_
  obtain ⟨q31, hf, hgq31⟩ := ic_bd hf
  have hjq31 : ic_W l κ MX1_load ic_X0 (ic_Z κ MX1_load (some (.int R)) 106 (ic_rs sw) μ) 78 [(4, .int q31.1), (5, .int q31.2)] [] 106 (ic_rs sw) μ 0 0 := by
    have hf := hgq31
    refine iw_iload (i := 4) (pc' := 80) 0 rfl (by decide +kernel) ?_
    refine iw_iload (i := 5) (pc' := 82) 1 rfl (by decide +kernel) ?_
    refine iw_iconst (i := 2) (v := (2 : Int32)) (pc' := 83) (by decide +kernel) ?_
    refine iw_idiv (pc' := 84) hf (by decide +kernel) (fun hf => ?_)
    refine iw_iadd (pc' := 85) (by decide +kernel) ?_
    exact iw_ireturn (Option.some.inj hf) rfl rfl (by decide +kernel)
  exact iw_sub [0, 1, 2, 3, 4, 5, 6] rfl (lpX1_load_15_ok l κ sw μ r0 r1 x2 v21 h0 h1 hjq31 1000 (0 : Int32) (0 : Int32) (0 : Int32) hf)
set_option maxRecDepth 100000 in
set_option maxHeartbeats 4000000 in
theorem ct_X1_spare (l : Launch) (κ : ic_K) (sw : Nat) (μ : ic_M) (r0 : Nat) (h0 : ic_isO 106 r0 1) (r1 : Nat) (h1 : ic_isO 106 r1 5) (x2 : Int32) {R : Int32} (hf : fX1_spare μ r0 r1 x2 = some R) : ic_C l κ MX1_spare [ic_rv κ.1 r0, ic_rv κ.1 r1, .int x2] 106 (ic_rs sw) μ (some (.int R)) 106 (ic_rs sw) μ := by
  refine ic_C.of (L := [(0, ic_rv κ.1 r0), (1, ic_rv κ.1 r1), (2, .int x2)]) ⟨ic_cat _ _, ic_cat _ _, rfl, trivial⟩ ⟨by decide +kernel, Nat.le_of_ble_eq_true rfl⟩ rfl ?_
  unfold fX1_spare at hf
  refine iw_aload_n (i := 0) (pc' := 1) 0 rfl (by decide +kernel) ?_
  refine iw_aload_n (i := 1) (pc' := 2) 1 rfl (by decide +kernel) ?_
  refine iw_iload_n (i := 2) (pc' := 3) 2 rfl (by decide +kernel) ?_
  obtain ⟨v21, hc, hf⟩ := ic_bd hf
  refine iw_callV (pc' := 6) (S0 := []) (S1 := [.int v21]) (c1 := 0) (s1 := 0) (k := 2) (ct_X1_bears l κ sw μ r0 h0 r1 h1 x2 hc) h0 ⟨rfl, rfl⟩ mv_X1_bears lkm_X1_68 ⟨rfl, rfl⟩ (ic_sum8 trivial (Nat.le_of_ble_eq_true rfl)) (by unfold ic_rm; decide +kernel) ⟨rfl, rfl, rfl⟩ ⟨Nat.le_of_ble_eq_true rfl, Nat.le_of_ble_eq_true rfl⟩ ?_
  refine iw_aload_n (i := 0) (pc' := 7) 0 rfl (by decide +kernel) ?_
  refine iw_aload_n (i := 1) (pc' := 8) 1 rfl (by decide +kernel) ?_
  refine iw_iload_n (i := 2) (pc' := 9) 2 rfl (by decide +kernel) ?_
  obtain ⟨v22, hc, hf⟩ := ic_bd hf
  refine iw_callV (pc' := 12) (S0 := [.int v21]) (S1 := [.int v22, .int v21]) (c1 := 0) (s1 := 0) (k := 2) (ct_X1_load l κ sw μ r0 h0 r1 h1 x2 hc) h0 ⟨rfl, rfl⟩ mv_X1_load lkm_X1_72 ⟨rfl, rfl⟩ (ic_sum8 ⟨rfl, trivial⟩ (Nat.le_of_ble_eq_true rfl)) (by unfold ic_rm; decide +kernel) ⟨rfl, rfl, rfl⟩ ⟨Nat.le_of_ble_eq_true rfl, Nat.le_of_ble_eq_true rfl⟩ ?_
  refine iw_isub (pc' := 13) (by decide +kernel) ?_
  exact iw_ireturn (Option.some.inj hf) rfl rfl (by decide +kernel)
set_option maxRecDepth 100000 in
set_option maxHeartbeats 4000000 in
theorem lpX1_personsOn_5_ok (l : Launch) (κ : ic_K) (sw : Nat) (μ : ic_M) (r0_ : Nat) (r1_ : Nat) (x2_ : Int32) (h0_ : ic_isO 106 r0_ 1) (h1_ : ic_isO 106 r1_ 5) {Z : State → List Frame → Array Value → State → Prop} {R : Int32} (hk : ic_W l κ MX1_personsOn ic_X0 Z 37 [(3, .int R)] [] 106 (ic_rs sw) μ 0 0) : ∀ (fu : Nat) (y3_ : Int32) (y4_ : Int32), lpX1_personsOn_5 μ r0_ r1_ x2_ fu y3_ y4_ = some R → ic_W l κ MX1_personsOn ic_X0 Z 5 [(0, ic_rv κ.1 r0_), (1, ic_rv κ.1 r1_), (2, .int x2_), (3, .int y3_), (4, .int y4_)] [] 106 (ic_rs sw) μ 0 0 := by
  intro fu
  induction fu with
  | zero =>
    intro y3_ y4_ hf
    exact absurd hf (by simp [lpX1_personsOn_5])
  | succ fu ih =>
    intro y3_ y4_ hf
    rw [lpX1_personsOn_5] at hf
    refine iw_iload (i := 4) (pc' := 7) 4 rfl (by decide +kernel) ?_
    refine iw_aload_n (i := 1) (pc' := 8) 1 rfl (by decide +kernel) ?_
    refine iw_geti (pc' := 11) ic_fk5 h1_ lkf_X1_62 (by decide +kernel) ?_
    refine iw_icmp_ge (off := 26) (tg := 37) (pc' := 14) hf (by decide +kernel) (fun hf => ?_) (fun hf => ?_)
    · obtain rfl := Option.some.inj hf
      exact iw_sub [3] rfl hk
    · refine iw_aload_n (i := 0) (pc' := 15) 0 rfl (by decide +kernel) ?_
      refine iw_iload (i := 4) (pc' := 17) 4 rfl (by decide +kernel) ?_
      obtain ⟨v21, hc, hf⟩ := ic_bd hf
      refine iw_callV (pc' := 20) (S0 := []) (S1 := [.int v21]) (c1 := 0) (s1 := 0) (k := 1) (ct_X1_placeOf l κ sw μ r0_ h0_ y4_ hc) h0_ ⟨rfl, rfl⟩ mv_X1_placeOf lkm_X1_49 ⟨rfl, rfl⟩ (ic_sum8 trivial (Nat.le_of_ble_eq_true rfl)) (by unfold ic_rm; decide +kernel) ⟨rfl, rfl, rfl⟩ ⟨Nat.le_of_ble_eq_true rfl, Nat.le_of_ble_eq_true rfl⟩ ?_
      refine iw_iload_n (i := 2) (pc' := 21) 2 rfl (by decide +kernel) ?_
      obtain ⟨q22, hf, hgq22⟩ := ic_bd hf
      have hjq22 : ic_W l κ MX1_personsOn ic_X0 Z 31 [(0, ic_rv κ.1 r0_), (1, ic_rv κ.1 r1_), (2, .int x2_), (3, .int q22), (4, .int y4_)] [] 106 (ic_rs sw) μ 0 0 := by
        have hf := hgq22
        refine iw_iinc (i := 4) (d := 1) (pc' := 34) (v := (1 : Int32)) (L1 := fun x24 => [(0, ic_rv κ.1 r0_), (1, ic_rv κ.1 r1_), (2, .int x2_), (3, .int q22), (4, .int x24)]) hf 4 rfl (fun _ => rfl) (by decide +kernel) (fun x24 hf => ?_)
        refine iw_goto (off := (-29)) (pc' := 5) (by decide +kernel) ?_
        exact iw_sub [0, 1, 2, 3, 4] rfl (ih _ _ hf)
      refine iw_icmp_ne (off := 10) (tg := 31) (pc' := 24) hf (by decide +kernel) (fun hf => ?_) (fun hf => ?_)
      · obtain rfl := Option.some.inj hf
        exact iw_sub [0, 1, 2, 3, 4] rfl hjq22
      · refine iw_iload_n (i := 3) (pc' := 25) 3 rfl (by decide +kernel) ?_
        refine iw_iconst (i := 1) (v := (1 : Int32)) (pc' := 26) (by decide +kernel) ?_
        refine iw_iload (i := 4) (pc' := 28) 4 rfl (by decide +kernel) ?_
        refine iw_ishl (pc' := 29) (by decide +kernel) ?_
        refine iw_ior (pc' := 30) (by decide +kernel) ?_
        refine iw_istore_n (i := 3) (pc' := 31) (L1 := fun x23 => [(0, ic_rv κ.1 r0_), (1, ic_rv κ.1 r1_), (2, .int x2_), (3, .int x23), (4, .int y4_)]) hf (fun _ => rfl) (by decide +kernel) (fun x23 hf => ?_)
        obtain rfl := Option.some.inj hf
        exact iw_sub [0, 1, 2, 3, 4] rfl hjq22
set_option maxRecDepth 100000 in
set_option maxHeartbeats 4000000 in
theorem ct_X1_personsOn (l : Launch) (κ : ic_K) (sw : Nat) (μ : ic_M) (r0 : Nat) (h0 : ic_isO 106 r0 1) (r1 : Nat) (h1 : ic_isO 106 r1 5) (x2 : Int32) {R : Int32} (hf : fX1_personsOn μ r0 r1 x2 = some R) : ic_C l κ MX1_personsOn [ic_rv κ.1 r0, ic_rv κ.1 r1, .int x2] 106 (ic_rs sw) μ (some (.int R)) 106 (ic_rs sw) μ := by
  refine ic_C.of (L := [(0, ic_rv κ.1 r0), (1, ic_rv κ.1 r1), (2, .int x2)]) ⟨ic_cat _ _, ic_cat _ _, rfl, trivial⟩ ⟨by decide +kernel, Nat.le_of_ble_eq_true rfl⟩ rfl ?_
  unfold fX1_personsOn at hf
  refine iw_iconst (i := 0) (v := (0 : Int32)) (pc' := 1) (by decide +kernel) ?_
  refine iw_istore_n0 (i := 3) (pc' := 2) (L' := [(0, ic_rv κ.1 r0), (1, ic_rv κ.1 r1), (2, .int x2), (3, .int (0 : Int32))]) rfl (by decide +kernel) ?_
  refine iw_iconst (i := 0) (v := (0 : Int32)) (pc' := 3) (by decide +kernel) ?_
  refine iw_istore0 (i := 4) (pc' := 5) (L' := [(0, ic_rv κ.1 r0), (1, ic_rv κ.1 r1), (2, .int x2), (3, .int (0 : Int32)), (4, .int (0 : Int32))]) rfl (by decide +kernel) ?_
  obtain ⟨q25, hf, hgq25⟩ := ic_bd hf
  have hjq25 : ic_W l κ MX1_personsOn ic_X0 (ic_Z κ MX1_personsOn (some (.int R)) 106 (ic_rs sw) μ) 37 [(3, .int q25)] [] 106 (ic_rs sw) μ 0 0 := by
    have hf := hgq25
    refine iw_iload_n (i := 3) (pc' := 38) 0 rfl (by decide +kernel) ?_
    exact iw_ireturn (Option.some.inj hf) rfl rfl (by decide +kernel)
  exact iw_sub [0, 1, 2, 3, 4] rfl (lpX1_personsOn_5_ok l κ sw μ r0 r1 x2 h0 h1 hjq25 1000 (0 : Int32) (0 : Int32) hf)
set_option maxRecDepth 100000 in
set_option maxHeartbeats 4000000 in
theorem ct_X1_drowned (l : Launch) (κ : ic_K) (sw : Nat) (μ : ic_M) (r0 : Nat) (h0 : ic_isO 106 r0 1) (r1 : Nat) (h1 : ic_isO 106 r1 5) {R : Int32} (hf : fX1_drowned μ r0 r1 = some R) : ic_C l κ MX1_drowned [ic_rv κ.1 r0, ic_rv κ.1 r1] 106 (ic_rs sw) μ (some (.int R)) 106 (ic_rs sw) μ := by
  refine ic_C.of (L := [(0, ic_rv κ.1 r0), (1, ic_rv κ.1 r1)]) ⟨ic_cat _ _, ic_cat _ _, trivial⟩ ⟨by decide +kernel, Nat.le_of_ble_eq_true rfl⟩ rfl ?_
  unfold fX1_drowned at hf
  refine iw_aload_n (i := 0) (pc' := 1) 0 rfl (by decide +kernel) ?_
  refine iw_aload_n (i := 1) (pc' := 2) 1 rfl (by decide +kernel) ?_
  refine iw_bipush (i := (-2)) (v := (-2 : Int32)) (pc' := 4) (by decide +kernel) ?_
  obtain ⟨v21, hc, hf⟩ := ic_bd hf
  refine iw_callV (pc' := 7) (S0 := []) (S1 := [.int v21]) (c1 := 0) (s1 := 0) (k := 2) (ct_X1_personsOn l κ sw μ r0 h0 r1 h1 (-2 : Int32) hc) h0 ⟨rfl, rfl⟩ mv_X1_personsOn lkm_X1_75 ⟨rfl, rfl⟩ (ic_sum8 trivial (Nat.le_of_ble_eq_true rfl)) (by unfold ic_rm; decide +kernel) ⟨rfl, rfl, rfl⟩ ⟨Nat.le_of_ble_eq_true rfl, Nat.le_of_ble_eq_true rfl⟩ ?_
  exact iw_ireturn (Option.some.inj hf) rfl rfl (by decide +kernel)
set_option maxRecDepth 100000 in
set_option maxHeartbeats 4000000 in
theorem lpX1_holes_4_ok (l : Launch) (κ : ic_K) (sw : Nat) (μ : ic_M) (r0_ : Nat) (r1_ : Nat) (h0_ : ic_isO 106 r0_ 1) (h1_ : ic_isO 106 r1_ 5) {Z : State → List Frame → Array Value → State → Prop} {R : Int32} (hk : ic_W l κ MX1_holes ic_X0 Z 32 [(2, .int R)] [] 106 (ic_rs sw) μ 0 0) : ∀ (fu : Nat) (y2_ : Int32) (y3_ : Int32), lpX1_holes_4 μ r0_ r1_ fu y2_ y3_ = some R → ic_W l κ MX1_holes ic_X0 Z 4 [(0, ic_rv κ.1 r0_), (1, ic_rv κ.1 r1_), (2, .int y2_), (3, .int y3_)] [] 106 (ic_rs sw) μ 0 0 := by
  intro fu
  induction fu with
  | zero =>
    intro y2_ y3_ hf
    exact absurd hf (by simp [lpX1_holes_4])
  | succ fu ih =>
    intro y2_ y3_ hf
    rw [lpX1_holes_4] at hf
    refine iw_iload_n (i := 3) (pc' := 5) 3 rfl (by decide +kernel) ?_
    refine iw_aload_n (i := 1) (pc' := 6) 1 rfl (by decide +kernel) ?_
    refine iw_geti (pc' := 9) ic_fk5 h1_ lkf_X1_22 (by decide +kernel) ?_
    refine iw_icmp_ge (off := 23) (tg := 32) (pc' := 12) hf (by decide +kernel) (fun hf => ?_) (fun hf => ?_)
    · obtain rfl := Option.some.inj hf
      exact iw_sub [2] rfl hk
    · refine iw_aload_n (i := 0) (pc' := 13) 0 rfl (by decide +kernel) ?_
      refine iw_iload_n (i := 3) (pc' := 14) 3 rfl (by decide +kernel) ?_
      obtain ⟨v21, hc, hf⟩ := ic_bd hf
      refine iw_callV (pc' := 17) (S0 := []) (S1 := [.int v21]) (c1 := 0) (s1 := 0) (k := 1) (ct_X1_isHole l κ sw μ r0_ h0_ y3_ hc) h0_ ⟨rfl, rfl⟩ mv_X1_isHole lkm_X1_78 ⟨rfl, rfl⟩ (ic_sum8 trivial (Nat.le_of_ble_eq_true rfl)) (by unfold ic_rm; decide +kernel) ⟨rfl, rfl, rfl⟩ ⟨Nat.le_of_ble_eq_true rfl, Nat.le_of_ble_eq_true rfl⟩ ?_
      obtain ⟨q22, hf, hgq22⟩ := ic_bd hf
      have hjq22 : ic_W l κ MX1_holes ic_X0 Z 26 [(0, ic_rv κ.1 r0_), (1, ic_rv κ.1 r1_), (2, .int q22), (3, .int y3_)] [] 106 (ic_rs sw) μ 0 0 := by
        have hf := hgq22
        refine iw_iinc (i := 3) (d := 1) (pc' := 29) (v := (1 : Int32)) (L1 := fun x24 => [(0, ic_rv κ.1 r0_), (1, ic_rv κ.1 r1_), (2, .int q22), (3, .int x24)]) hf 3 rfl (fun _ => rfl) (by decide +kernel) (fun x24 hf => ?_)
        refine iw_goto (off := (-25)) (pc' := 4) (by decide +kernel) ?_
        exact iw_sub [0, 1, 2, 3] rfl (ih _ _ hf)
      refine iw_if_eq (off := 9) (tg := 26) (pc' := 20) hf (by decide +kernel) (fun hf => ?_) (fun hf => ?_)
      · obtain rfl := Option.some.inj hf
        exact iw_sub [0, 1, 2, 3] rfl hjq22
      · refine iw_iload_n (i := 2) (pc' := 21) 2 rfl (by decide +kernel) ?_
        refine iw_iconst (i := 1) (v := (1 : Int32)) (pc' := 22) (by decide +kernel) ?_
        refine iw_iload_n (i := 3) (pc' := 23) 3 rfl (by decide +kernel) ?_
        refine iw_ishl (pc' := 24) (by decide +kernel) ?_
        refine iw_ior (pc' := 25) (by decide +kernel) ?_
        refine iw_istore_n (i := 2) (pc' := 26) (L1 := fun x23 => [(0, ic_rv κ.1 r0_), (1, ic_rv κ.1 r1_), (2, .int x23), (3, .int y3_)]) hf (fun _ => rfl) (by decide +kernel) (fun x23 hf => ?_)
        obtain rfl := Option.some.inj hf
        exact iw_sub [0, 1, 2, 3] rfl hjq22
set_option maxRecDepth 100000 in
set_option maxHeartbeats 4000000 in
theorem ct_X1_holes (l : Launch) (κ : ic_K) (sw : Nat) (μ : ic_M) (r0 : Nat) (h0 : ic_isO 106 r0 1) (r1 : Nat) (h1 : ic_isO 106 r1 5) {R : Int32} (hf : fX1_holes μ r0 r1 = some R) : ic_C l κ MX1_holes [ic_rv κ.1 r0, ic_rv κ.1 r1] 106 (ic_rs sw) μ (some (.int R)) 106 (ic_rs sw) μ := by
  refine ic_C.of (L := [(0, ic_rv κ.1 r0), (1, ic_rv κ.1 r1)]) ⟨ic_cat _ _, ic_cat _ _, trivial⟩ ⟨by decide +kernel, Nat.le_of_ble_eq_true rfl⟩ rfl ?_
  unfold fX1_holes at hf
  refine iw_iconst (i := 0) (v := (0 : Int32)) (pc' := 1) (by decide +kernel) ?_
  refine iw_istore_n0 (i := 2) (pc' := 2) (L' := [(0, ic_rv κ.1 r0), (1, ic_rv κ.1 r1), (2, .int (0 : Int32))]) rfl (by decide +kernel) ?_
  refine iw_iconst (i := 0) (v := (0 : Int32)) (pc' := 3) (by decide +kernel) ?_
  refine iw_istore_n0 (i := 3) (pc' := 4) (L' := [(0, ic_rv κ.1 r0), (1, ic_rv κ.1 r1), (2, .int (0 : Int32)), (3, .int (0 : Int32))]) rfl (by decide +kernel) ?_
  obtain ⟨q25, hf, hgq25⟩ := ic_bd hf
  have hjq25 : ic_W l κ MX1_holes ic_X0 (ic_Z κ MX1_holes (some (.int R)) 106 (ic_rs sw) μ) 32 [(2, .int q25)] [] 106 (ic_rs sw) μ 0 0 := by
    have hf := hgq25
    refine iw_iload_n (i := 2) (pc' := 33) 0 rfl (by decide +kernel) ?_
    exact iw_ireturn (Option.some.inj hf) rfl rfl (by decide +kernel)
  exact iw_sub [0, 1, 2, 3] rfl (lpX1_holes_4_ok l κ sw μ r0 r1 h0 h1 hjq25 1000 (0 : Int32) (0 : Int32) hf)
set_option maxRecDepth 100000 in
set_option maxHeartbeats 4000000 in
theorem lpX1_openRows_21_ok (l : Launch) (κ : ic_K) (sw : Nat) (μ : ic_M) (r1_ : Nat) (x2_ : Int32) (x3_ : Int32) (h1_ : ic_isO 106 r1_ 5) {Z : State → List Frame → Array Value → State → Prop} {R : Int32} (hk : ic_W l κ MX1_openRows ic_X0 Z 54 [(4, .int R)] [] 106 (ic_rs sw) μ 0 0) : ∀ (fu : Nat) (y4_ : Int32) (y5_ : Int32), lpX1_openRows_21 μ r1_ x2_ x3_ fu y4_ y5_ = some R → ic_W l κ MX1_openRows ic_X0 Z 21 [(1, ic_rv κ.1 r1_), (2, .int x2_), (3, .int x3_), (4, .int y4_), (5, .int y5_)] [] 106 (ic_rs sw) μ 0 0 := by
  intro fu
  induction fu with
  | zero =>
    intro y4_ y5_ hf
    exact absurd hf (by simp [lpX1_openRows_21])
  | succ fu ih =>
    intro y4_ y5_ hf
    rw [lpX1_openRows_21] at hf
    refine iw_iload (i := 5) (pc' := 23) 4 rfl (by decide +kernel) ?_
    refine iw_aload_n (i := 1) (pc' := 24) 0 rfl (by decide +kernel) ?_
    refine iw_geti (pc' := 27) ic_fk5 h1_ lkf_X1_89 (by decide +kernel) ?_
    refine iw_icmp_ge (off := 27) (tg := 54) (pc' := 30) hf (by decide +kernel) (fun hf => ?_) (fun hf => ?_)
    · obtain rfl := Option.some.inj hf
      exact iw_sub [3] rfl hk
    · refine iw_iload_n (i := 2) (pc' := 31) 1 rfl (by decide +kernel) ?_
      refine iw_iload (i := 5) (pc' := 33) 4 rfl (by decide +kernel) ?_
      refine iw_aload_n (i := 1) (pc' := 34) 0 rfl (by decide +kernel) ?_
      refine iw_geti (pc' := 37) ic_fk5 h1_ lkf_X1_86 (by decide +kernel) ?_
      refine iw_imul (pc' := 38) (by decide +kernel) ?_
      refine iw_ishr (pc' := 39) (by decide +kernel) ?_
      refine iw_iload_n (i := 3) (pc' := 40) 2 rfl (by decide +kernel) ?_
      refine iw_iand (pc' := 41) (by decide +kernel) ?_
      refine iw_iload_n (i := 3) (pc' := 42) 2 rfl (by decide +kernel) ?_
      obtain ⟨q23, hf, hgq23⟩ := ic_bd hf
      have hjq23 : ic_W l κ MX1_openRows ic_X0 Z 48 [(1, ic_rv κ.1 r1_), (2, .int x2_), (3, .int x3_), (4, .int q23), (5, .int y5_)] [] 106 (ic_rs sw) μ 0 0 := by
        have hf := hgq23
        refine iw_iinc (i := 5) (d := 1) (pc' := 51) (v := (1 : Int32)) (L1 := fun x25 => [(1, ic_rv κ.1 r1_), (2, .int x2_), (3, .int x3_), (4, .int q23), (5, .int x25)]) hf 4 rfl (fun _ => rfl) (by decide +kernel) (fun x25 hf => ?_)
        refine iw_goto (off := (-30)) (pc' := 21) (by decide +kernel) ?_
        exact iw_sub [0, 1, 2, 3, 4] rfl (ih _ _ hf)
      refine iw_icmp_ne (off := 6) (tg := 48) (pc' := 45) hf (by decide +kernel) (fun hf => ?_) (fun hf => ?_)
      · obtain rfl := Option.some.inj hf
        exact iw_sub [0, 1, 2, 3, 4] rfl hjq23
      · refine iw_iinc (i := 4) (d := 1) (pc' := 48) (v := (1 : Int32)) (L1 := fun x24 => [(1, ic_rv κ.1 r1_), (2, .int x2_), (3, .int x3_), (4, .int x24), (5, .int y5_)]) hf 3 rfl (fun _ => rfl) (by decide +kernel) (fun x24 hf => ?_)
        obtain rfl := Option.some.inj hf
        exact iw_sub [0, 1, 2, 3, 4] rfl hjq23
set_option maxRecDepth 100000 in
set_option maxHeartbeats 4000000 in
theorem ct_X1_openRows (l : Launch) (κ : ic_K) (sw : Nat) (μ : ic_M) (r0 : Nat) (h0 : ic_isO 106 r0 1) (r1 : Nat) (h1 : ic_isO 106 r1 5) {R : Int32} (hf : fX1_openRows μ r0 r1 = some R) : ic_C l κ MX1_openRows [ic_rv κ.1 r0, ic_rv κ.1 r1] 106 (ic_rs sw) μ (some (.int R)) 106 (ic_rs sw) μ := by
  refine ic_C.of (L := [(0, ic_rv κ.1 r0), (1, ic_rv κ.1 r1)]) ⟨ic_cat _ _, ic_cat _ _, trivial⟩ ⟨by decide +kernel, Nat.le_of_ble_eq_true rfl⟩ rfl ?_
  unfold fX1_openRows at hf
  refine iw_aload_n (i := 0) (pc' := 1) 0 rfl (by decide +kernel) ?_
  refine iw_aload_n (i := 1) (pc' := 2) 1 rfl (by decide +kernel) ?_
  obtain ⟨v21, hc, hf⟩ := ic_bd hf
  refine iw_callV (pc' := 5) (S0 := []) (S1 := [.int v21]) (c1 := 0) (s1 := 0) (k := 1) (ct_X1_holes l κ sw μ r0 h0 r1 h1 hc) h0 ⟨rfl, rfl⟩ mv_X1_holes lkm_X1_82 ⟨rfl, rfl⟩ (ic_sum8 trivial (Nat.le_of_ble_eq_true rfl)) (by unfold ic_rm; decide +kernel) ⟨rfl, rfl, rfl⟩ ⟨Nat.le_of_ble_eq_true rfl, Nat.le_of_ble_eq_true rfl⟩ ?_
  refine iw_istore_n0 (i := 2) (pc' := 6) (L' := [(0, ic_rv κ.1 r0), (1, ic_rv κ.1 r1), (2, .int v21)]) rfl (by decide +kernel) ?_
  refine iw_iconst (i := 1) (v := (1 : Int32)) (pc' := 7) (by decide +kernel) ?_
  refine iw_aload_n (i := 1) (pc' := 8) 1 rfl (by decide +kernel) ?_
  refine iw_geti (pc' := 11) ic_fk5 h1 lkf_X1_86 (by decide +kernel) ?_
  refine iw_ishl (pc' := 12) (by decide +kernel) ?_
  refine iw_iconst (i := 1) (v := (1 : Int32)) (pc' := 13) (by decide +kernel) ?_
  refine iw_isub (pc' := 14) (by decide +kernel) ?_
  refine iw_istore_n (i := 3) (pc' := 15) (L1 := fun x22 => [(0, ic_rv κ.1 r0), (1, ic_rv κ.1 r1), (2, .int v21), (3, .int x22)]) hf (fun _ => rfl) (by decide +kernel) (fun x22 hf => ?_)
  refine iw_iconst (i := 0) (v := (0 : Int32)) (pc' := 16) (by decide +kernel) ?_
  refine iw_istore0 (i := 4) (pc' := 18) (L' := [(0, ic_rv κ.1 r0), (1, ic_rv κ.1 r1), (2, .int v21), (3, .int x22), (4, .int (0 : Int32))]) rfl (by decide +kernel) ?_
  refine iw_iconst (i := 0) (v := (0 : Int32)) (pc' := 19) (by decide +kernel) ?_
  refine iw_istore0 (i := 5) (pc' := 21) (L' := [(0, ic_rv κ.1 r0), (1, ic_rv κ.1 r1), (2, .int v21), (3, .int x22), (4, .int (0 : Int32)), (5, .int (0 : Int32))]) rfl (by decide +kernel) ?_
  obtain ⟨q26, hf, hgq26⟩ := ic_bd hf
  have hjq26 : ic_W l κ MX1_openRows ic_X0 (ic_Z κ MX1_openRows (some (.int R)) 106 (ic_rs sw) μ) 54 [(4, .int q26)] [] 106 (ic_rs sw) μ 0 0 := by
    have hf := hgq26
    refine iw_iload (i := 4) (pc' := 56) 0 rfl (by decide +kernel) ?_
    exact iw_ireturn (Option.some.inj hf) rfl rfl (by decide +kernel)
  exact iw_sub [1, 2, 3, 4, 5] rfl (lpX1_openRows_21_ok l κ sw μ r1 v21 x22 h1 hjq26 1000 (0 : Int32) (0 : Int32) hf)
set_option maxRecDepth 100000 in
set_option maxHeartbeats 4000000 in
theorem lpX1_cracking_4_ok (l : Launch) (κ : ic_K) (sw : Nat) (μ : ic_M) (r0_ : Nat) (r1_ : Nat) (h0_ : ic_isO 106 r0_ 1) (h1_ : ic_isO 106 r1_ 5) {Z : State → List Frame → Array Value → State → Prop} {R : Int32} (hk : ic_W l κ MX1_cracking ic_X0 Z 58 [(2, .int R)] [] 106 (ic_rs sw) μ 0 0) : ∀ (fu : Nat) (y2_ : Int32) (y3_ : Int32), lpX1_cracking_4 μ r0_ r1_ fu y2_ y3_ = some R → ic_W l κ MX1_cracking ic_X0 Z 4 [(0, ic_rv κ.1 r0_), (1, ic_rv κ.1 r1_), (2, .int y2_), (3, .int y3_)] [] 106 (ic_rs sw) μ 0 0 := by
  intro fu
  induction fu with
  | zero =>
    intro y2_ y3_ hf
    exact absurd hf (by simp [lpX1_cracking_4])
  | succ fu ih =>
    intro y2_ y3_ hf
    rw [lpX1_cracking_4] at hf
    refine iw_iload_n (i := 3) (pc' := 5) 3 rfl (by decide +kernel) ?_
    refine iw_aload_n (i := 1) (pc' := 6) 1 rfl (by decide +kernel) ?_
    refine iw_geti (pc' := 9) ic_fk5 h1_ lkf_X1_22 (by decide +kernel) ?_
    refine iw_icmp_ge (off := 49) (tg := 58) (pc' := 12) hf (by decide +kernel) (fun hf => ?_) (fun hf => ?_)
    · obtain rfl := Option.some.inj hf
      exact iw_sub [2] rfl hk
    · refine iw_aload_n (i := 0) (pc' := 13) 0 rfl (by decide +kernel) ?_
      refine iw_aload_n (i := 1) (pc' := 14) 1 rfl (by decide +kernel) ?_
      refine iw_iload_n (i := 3) (pc' := 15) 3 rfl (by decide +kernel) ?_
      obtain ⟨v21, hc, hf⟩ := ic_bd hf
      refine iw_callV (pc' := 18) (S0 := []) (S1 := [.int v21]) (c1 := 0) (s1 := 0) (k := 2) (ct_X1_bears l κ sw μ r0_ h0_ r1_ h1_ y3_ hc) h0_ ⟨rfl, rfl⟩ mv_X1_bears lkm_X1_68 ⟨rfl, rfl⟩ (ic_sum8 trivial (Nat.le_of_ble_eq_true rfl)) (by unfold ic_rm; decide +kernel) ⟨rfl, rfl, rfl⟩ ⟨Nat.le_of_ble_eq_true rfl, Nat.le_of_ble_eq_true rfl⟩ ?_
      refine iw_istore0 (i := 4) (pc' := 20) (L' := [(0, ic_rv κ.1 r0_), (1, ic_rv κ.1 r1_), (2, .int y2_), (3, .int y3_), (4, .int v21)]) rfl (by decide +kernel) ?_
      refine iw_aload_n (i := 0) (pc' := 21) 0 rfl (by decide +kernel) ?_
      refine iw_aload_n (i := 1) (pc' := 22) 1 rfl (by decide +kernel) ?_
      refine iw_iload_n (i := 3) (pc' := 23) 3 rfl (by decide +kernel) ?_
      obtain ⟨v22, hc, hf⟩ := ic_bd hf
      refine iw_callV (pc' := 26) (S0 := []) (S1 := [.int v22]) (c1 := 0) (s1 := 0) (k := 2) (ct_X1_load l κ sw μ r0_ h0_ r1_ h1_ y3_ hc) h0_ ⟨rfl, rfl⟩ mv_X1_load lkm_X1_72 ⟨rfl, rfl⟩ (ic_sum8 trivial (Nat.le_of_ble_eq_true rfl)) (by unfold ic_rm; decide +kernel) ⟨rfl, rfl, rfl⟩ ⟨Nat.le_of_ble_eq_true rfl, Nat.le_of_ble_eq_true rfl⟩ ?_
      refine iw_istore0 (i := 5) (pc' := 28) (L' := [(0, ic_rv κ.1 r0_), (1, ic_rv κ.1 r1_), (2, .int y2_), (3, .int y3_), (4, .int v21), (5, .int v22)]) rfl (by decide +kernel) ?_
      refine iw_iload (i := 5) (pc' := 30) 5 rfl (by decide +kernel) ?_
      refine iw_iload (i := 4) (pc' := 32) 4 rfl (by decide +kernel) ?_
      refine iw_iconst (i := 3) (v := (3 : Int32)) (pc' := 33) (by decide +kernel) ?_
      refine iw_imul (pc' := 34) (by decide +kernel) ?_
      refine iw_iconst (i := 4) (v := (4 : Int32)) (pc' := 35) (by decide +kernel) ?_
      refine iw_idiv (pc' := 36) hf (by decide +kernel) (fun hf => ?_)
      obtain ⟨q23, hf, hgq23⟩ := ic_bd hf
      have hjq23 : ic_W l κ MX1_cracking ic_X0 Z 52 [(0, ic_rv κ.1 r0_), (1, ic_rv κ.1 r1_), (2, .int q23), (3, .int y3_)] [] 106 (ic_rs sw) μ 0 0 := by
        have hf := hgq23
        refine iw_iinc (i := 3) (d := 1) (pc' := 55) (v := (1 : Int32)) (L1 := fun x25 => [(0, ic_rv κ.1 r0_), (1, ic_rv κ.1 r1_), (2, .int q23), (3, .int x25)]) hf 3 rfl (fun _ => rfl) (by decide +kernel) (fun x25 hf => ?_)
        refine iw_goto (off := (-51)) (pc' := 4) (by decide +kernel) ?_
        exact iw_sub [0, 1, 2, 3] rfl (ih _ _ hf)
      refine iw_icmp_le (off := 16) (tg := 52) (pc' := 39) hf (by decide +kernel) (fun hf => ?_) (fun hf => ?_)
      · obtain rfl := Option.some.inj hf
        exact iw_sub [0, 1, 2, 3] rfl hjq23
      · refine iw_iload (i := 5) (pc' := 41) 5 rfl (by decide +kernel) ?_
        refine iw_iload (i := 4) (pc' := 43) 4 rfl (by decide +kernel) ?_
        refine iw_icmp_gt (off := 9) (tg := 52) (pc' := 46) hf (by decide +kernel) (fun hf => ?_) (fun hf => ?_)
        · obtain rfl := Option.some.inj hf
          exact iw_sub [0, 1, 2, 3] rfl hjq23
        · refine iw_iload_n (i := 2) (pc' := 47) 2 rfl (by decide +kernel) ?_
          refine iw_iconst (i := 1) (v := (1 : Int32)) (pc' := 48) (by decide +kernel) ?_
          refine iw_iload_n (i := 3) (pc' := 49) 3 rfl (by decide +kernel) ?_
          refine iw_ishl (pc' := 50) (by decide +kernel) ?_
          refine iw_ior (pc' := 51) (by decide +kernel) ?_
          refine iw_istore_n (i := 2) (pc' := 52) (L1 := fun x24 => [(0, ic_rv κ.1 r0_), (1, ic_rv κ.1 r1_), (2, .int x24), (3, .int y3_), (4, .int v21), (5, .int v22)]) hf (fun _ => rfl) (by decide +kernel) (fun x24 hf => ?_)
          obtain rfl := Option.some.inj hf
          exact iw_sub [0, 1, 2, 3] rfl hjq23
set_option maxRecDepth 100000 in
set_option maxHeartbeats 4000000 in
theorem ct_X1_cracking (l : Launch) (κ : ic_K) (sw : Nat) (μ : ic_M) (r0 : Nat) (h0 : ic_isO 106 r0 1) (r1 : Nat) (h1 : ic_isO 106 r1 5) {R : Int32} (hf : fX1_cracking μ r0 r1 = some R) : ic_C l κ MX1_cracking [ic_rv κ.1 r0, ic_rv κ.1 r1] 106 (ic_rs sw) μ (some (.int R)) 106 (ic_rs sw) μ := by
  refine ic_C.of (L := [(0, ic_rv κ.1 r0), (1, ic_rv κ.1 r1)]) ⟨ic_cat _ _, ic_cat _ _, trivial⟩ ⟨by decide +kernel, Nat.le_of_ble_eq_true rfl⟩ rfl ?_
  unfold fX1_cracking at hf
  refine iw_iconst (i := 0) (v := (0 : Int32)) (pc' := 1) (by decide +kernel) ?_
  refine iw_istore_n0 (i := 2) (pc' := 2) (L' := [(0, ic_rv κ.1 r0), (1, ic_rv κ.1 r1), (2, .int (0 : Int32))]) rfl (by decide +kernel) ?_
  refine iw_iconst (i := 0) (v := (0 : Int32)) (pc' := 3) (by decide +kernel) ?_
  refine iw_istore_n0 (i := 3) (pc' := 4) (L' := [(0, ic_rv κ.1 r0), (1, ic_rv κ.1 r1), (2, .int (0 : Int32)), (3, .int (0 : Int32))]) rfl (by decide +kernel) ?_
  obtain ⟨q26, hf, hgq26⟩ := ic_bd hf
  have hjq26 : ic_W l κ MX1_cracking ic_X0 (ic_Z κ MX1_cracking (some (.int R)) 106 (ic_rs sw) μ) 58 [(2, .int q26)] [] 106 (ic_rs sw) μ 0 0 := by
    have hf := hgq26
    refine iw_iload_n (i := 2) (pc' := 59) 0 rfl (by decide +kernel) ?_
    exact iw_ireturn (Option.some.inj hf) rfl rfl (by decide +kernel)
  exact iw_sub [0, 1, 2, 3] rfl (lpX1_cracking_4_ok l κ sw μ r0 r1 h0 h1 hjq26 1000 (0 : Int32) (0 : Int32) hf)
set_option maxRecDepth 100000 in
set_option maxHeartbeats 4000000 in
theorem lpX1_weakest_4_ok (l : Launch) (κ : ic_K) (sw : Nat) (μ : ic_M) (r0_ : Nat) (r1_ : Nat) (h0_ : ic_isO 106 r0_ 1) (h1_ : ic_isO 106 r1_ 5) {Z : State → List Frame → Array Value → State → Prop} {R : Int32} (hk : ic_W l κ MX1_weakest ic_X0 Z 48 [(2, .int R)] [] 106 (ic_rs sw) μ 0 0) : ∀ (fu : Nat) (y2_ : Int32) (y3_ : Int32), lpX1_weakest_4 μ r0_ r1_ fu y2_ y3_ = some R → ic_W l κ MX1_weakest ic_X0 Z 4 [(0, ic_rv κ.1 r0_), (1, ic_rv κ.1 r1_), (2, .int y2_), (3, .int y3_)] [] 106 (ic_rs sw) μ 0 0 := by
  intro fu
  induction fu with
  | zero =>
    intro y2_ y3_ hf
    exact absurd hf (by simp [lpX1_weakest_4])
  | succ fu ih =>
    intro y2_ y3_ hf
    rw [lpX1_weakest_4] at hf
    refine iw_iload_n (i := 3) (pc' := 5) 3 rfl (by decide +kernel) ?_
    refine iw_aload_n (i := 1) (pc' := 6) 1 rfl (by decide +kernel) ?_
    refine iw_geti (pc' := 9) ic_fk5 h1_ lkf_X1_22 (by decide +kernel) ?_
    refine iw_icmp_ge (off := 39) (tg := 48) (pc' := 12) hf (by decide +kernel) (fun hf => ?_) (fun hf => ?_)
    · obtain rfl := Option.some.inj hf
      exact iw_sub [2] rfl hk
    · refine iw_aload_n (i := 0) (pc' := 13) 0 rfl (by decide +kernel) ?_
      refine iw_iload_n (i := 3) (pc' := 14) 3 rfl (by decide +kernel) ?_
      obtain ⟨v21, hc, hf⟩ := ic_bd hf
      refine iw_callV (pc' := 17) (S0 := []) (S1 := [.int v21]) (c1 := 0) (s1 := 0) (k := 1) (ct_X1_isHole l κ sw μ r0_ h0_ y3_ hc) h0_ ⟨rfl, rfl⟩ mv_X1_isHole lkm_X1_78 ⟨rfl, rfl⟩ (ic_sum8 trivial (Nat.le_of_ble_eq_true rfl)) (by unfold ic_rm; decide +kernel) ⟨rfl, rfl, rfl⟩ ⟨Nat.le_of_ble_eq_true rfl, Nat.le_of_ble_eq_true rfl⟩ ?_
      obtain ⟨q22, hf, hgq22⟩ := ic_bd hf
      have hjq22 : ic_W l κ MX1_weakest ic_X0 Z 42 [(0, ic_rv κ.1 r0_), (1, ic_rv κ.1 r1_), (2, .int q22), (3, .int y3_)] [] 106 (ic_rs sw) μ 0 0 := by
        have hf := hgq22
        refine iw_iinc (i := 3) (d := 1) (pc' := 45) (v := (1 : Int32)) (L1 := fun x25 => [(0, ic_rv κ.1 r0_), (1, ic_rv κ.1 r1_), (2, .int q22), (3, .int x25)]) hf 3 rfl (fun _ => rfl) (by decide +kernel) (fun x25 hf => ?_)
        refine iw_goto (off := (-41)) (pc' := 4) (by decide +kernel) ?_
        exact iw_sub [0, 1, 2, 3] rfl (ih _ _ hf)
      refine iw_if_ne (off := 25) (tg := 42) (pc' := 20) hf (by decide +kernel) (fun hf => ?_) (fun hf => ?_)
      · obtain rfl := Option.some.inj hf
        exact iw_sub [0, 1, 2, 3] rfl hjq22
      · refine iw_iload_n (i := 2) (pc' := 21) 2 rfl (by decide +kernel) ?_
        refine iw_iconst (i := (-1)) (v := (-1 : Int32)) (pc' := 22) (by decide +kernel) ?_
        refine iw_icmp_eq (off := 18) (tg := 40) (pc' := 25) hf (by decide +kernel) (fun hf => ?_) (fun hf => ?_)
        · refine iw_iload_n (i := 3) (pc' := 41) 3 rfl (by decide +kernel) ?_
          refine iw_istore_n0 (i := 2) (pc' := 42) (L' := [(0, ic_rv κ.1 r0_), (1, ic_rv κ.1 r1_), (2, .int y3_), (3, .int y3_)]) rfl (by decide +kernel) ?_
          obtain rfl := Option.some.inj hf
          exact iw_sub [0, 1, 2, 3] rfl hjq22
        · refine iw_aload_n (i := 0) (pc' := 26) 0 rfl (by decide +kernel) ?_
          refine iw_aload_n (i := 1) (pc' := 27) 1 rfl (by decide +kernel) ?_
          refine iw_iload_n (i := 3) (pc' := 28) 3 rfl (by decide +kernel) ?_
          obtain ⟨v23, hc, hf⟩ := ic_bd hf
          refine iw_callV (pc' := 31) (S0 := []) (S1 := [.int v23]) (c1 := 0) (s1 := 0) (k := 2) (ct_X1_spare l κ sw μ r0_ h0_ r1_ h1_ y3_ hc) h0_ ⟨rfl, rfl⟩ mv_X1_spare lkm_X1_92 ⟨rfl, rfl⟩ (ic_sum8 trivial (Nat.le_of_ble_eq_true rfl)) (by unfold ic_rm; decide +kernel) ⟨rfl, rfl, rfl⟩ ⟨Nat.le_of_ble_eq_true rfl, Nat.le_of_ble_eq_true rfl⟩ ?_
          refine iw_aload_n (i := 0) (pc' := 32) 0 rfl (by decide +kernel) ?_
          refine iw_aload_n (i := 1) (pc' := 33) 1 rfl (by decide +kernel) ?_
          refine iw_iload_n (i := 2) (pc' := 34) 2 rfl (by decide +kernel) ?_
          obtain ⟨v24, hc, hf⟩ := ic_bd hf
          refine iw_callV (pc' := 37) (S0 := [.int v23]) (S1 := [.int v24, .int v23]) (c1 := 0) (s1 := 0) (k := 2) (ct_X1_spare l κ sw μ r0_ h0_ r1_ h1_ y2_ hc) h0_ ⟨rfl, rfl⟩ mv_X1_spare lkm_X1_92 ⟨rfl, rfl⟩ (ic_sum8 ⟨rfl, trivial⟩ (Nat.le_of_ble_eq_true rfl)) (by unfold ic_rm; decide +kernel) ⟨rfl, rfl, rfl⟩ ⟨Nat.le_of_ble_eq_true rfl, Nat.le_of_ble_eq_true rfl⟩ ?_
          refine iw_icmp_ge (off := 5) (tg := 42) (pc' := 40) hf (by decide +kernel) (fun hf => ?_) (fun hf => ?_)
          · obtain rfl := Option.some.inj hf
            exact iw_sub [0, 1, 2, 3] rfl hjq22
          · refine iw_iload_n (i := 3) (pc' := 41) 3 rfl (by decide +kernel) ?_
            refine iw_istore_n0 (i := 2) (pc' := 42) (L' := [(0, ic_rv κ.1 r0_), (1, ic_rv κ.1 r1_), (2, .int y3_), (3, .int y3_)]) rfl (by decide +kernel) ?_
            obtain rfl := Option.some.inj hf
            exact iw_sub [0, 1, 2, 3] rfl hjq22
set_option maxRecDepth 100000 in
set_option maxHeartbeats 4000000 in
theorem ct_X1_weakest (l : Launch) (κ : ic_K) (sw : Nat) (μ : ic_M) (r0 : Nat) (h0 : ic_isO 106 r0 1) (r1 : Nat) (h1 : ic_isO 106 r1 5) {R : Int32} (hf : fX1_weakest μ r0 r1 = some R) : ic_C l κ MX1_weakest [ic_rv κ.1 r0, ic_rv κ.1 r1] 106 (ic_rs sw) μ (some (.int R)) 106 (ic_rs sw) μ := by
  refine ic_C.of (L := [(0, ic_rv κ.1 r0), (1, ic_rv κ.1 r1)]) ⟨ic_cat _ _, ic_cat _ _, trivial⟩ ⟨by decide +kernel, Nat.le_of_ble_eq_true rfl⟩ rfl ?_
  unfold fX1_weakest at hf
  refine iw_iconst (i := (-1)) (v := (-1 : Int32)) (pc' := 1) (by decide +kernel) ?_
  refine iw_istore_n0 (i := 2) (pc' := 2) (L' := [(0, ic_rv κ.1 r0), (1, ic_rv κ.1 r1), (2, .int (-1 : Int32))]) rfl (by decide +kernel) ?_
  refine iw_iconst (i := 0) (v := (0 : Int32)) (pc' := 3) (by decide +kernel) ?_
  refine iw_istore_n0 (i := 3) (pc' := 4) (L' := [(0, ic_rv κ.1 r0), (1, ic_rv κ.1 r1), (2, .int (-1 : Int32)), (3, .int (0 : Int32))]) rfl (by decide +kernel) ?_
  obtain ⟨q26, hf, hgq26⟩ := ic_bd hf
  have hjq26 : ic_W l κ MX1_weakest ic_X0 (ic_Z κ MX1_weakest (some (.int R)) 106 (ic_rs sw) μ) 48 [(2, .int q26)] [] 106 (ic_rs sw) μ 0 0 := by
    have hf := hgq26
    refine iw_iload_n (i := 2) (pc' := 49) 0 rfl (by decide +kernel) ?_
    exact iw_ireturn (Option.some.inj hf) rfl rfl (by decide +kernel)
  exact iw_sub [0, 1, 2, 3] rfl (lpX1_weakest_4_ok l κ sw μ r0 r1 h0 h1 hjq26 1000 (-1 : Int32) (0 : Int32) hf)
set_option maxRecDepth 100000 in
set_option maxHeartbeats 4000000 in
theorem lpX1_overloaded_4_ok (l : Launch) (κ : ic_K) (sw : Nat) (μ : ic_M) (r0_ : Nat) (r1_ : Nat) (h0_ : ic_isO 106 r0_ 1) (h1_ : ic_isO 106 r1_ 5) {Z : State → List Frame → Array Value → State → Prop} {R : Int32} (hk : ic_W l κ MX1_overloaded ic_X0 Z 47 [(2, .int R)] [] 106 (ic_rs sw) μ 0 0) : ∀ (fu : Nat) (y2_ : Int32) (y3_ : Int32), lpX1_overloaded_4 μ r0_ r1_ fu y2_ y3_ = some R → ic_W l κ MX1_overloaded ic_X0 Z 4 [(0, ic_rv κ.1 r0_), (1, ic_rv κ.1 r1_), (2, .int y2_), (3, .int y3_)] [] 106 (ic_rs sw) μ 0 0 := by
  intro fu
  induction fu with
  | zero =>
    intro y2_ y3_ hf
    exact absurd hf (by simp [lpX1_overloaded_4])
  | succ fu ih =>
    intro y2_ y3_ hf
    rw [lpX1_overloaded_4] at hf
    refine iw_iload_n (i := 3) (pc' := 5) 3 rfl (by decide +kernel) ?_
    refine iw_aload_n (i := 1) (pc' := 6) 1 rfl (by decide +kernel) ?_
    refine iw_geti (pc' := 9) ic_fk5 h1_ lkf_X1_22 (by decide +kernel) ?_
    refine iw_icmp_ge (off := 38) (tg := 47) (pc' := 12) hf (by decide +kernel) (fun hf => ?_) (fun hf => ?_)
    · obtain rfl := Option.some.inj hf
      exact iw_sub [2] rfl hk
    · refine iw_aload_n (i := 0) (pc' := 13) 0 rfl (by decide +kernel) ?_
      refine iw_iload_n (i := 3) (pc' := 14) 3 rfl (by decide +kernel) ?_
      obtain ⟨v21, hc, hf⟩ := ic_bd hf
      refine iw_callV (pc' := 17) (S0 := []) (S1 := [.int v21]) (c1 := 0) (s1 := 0) (k := 1) (ct_X1_isHole l κ sw μ r0_ h0_ y3_ hc) h0_ ⟨rfl, rfl⟩ mv_X1_isHole lkm_X1_78 ⟨rfl, rfl⟩ (ic_sum8 trivial (Nat.le_of_ble_eq_true rfl)) (by unfold ic_rm; decide +kernel) ⟨rfl, rfl, rfl⟩ ⟨Nat.le_of_ble_eq_true rfl, Nat.le_of_ble_eq_true rfl⟩ ?_
      obtain ⟨q22, hf, hgq22⟩ := ic_bd hf
      have hjq22 : ic_W l κ MX1_overloaded ic_X0 Z 41 [(0, ic_rv κ.1 r0_), (1, ic_rv κ.1 r1_), (2, .int q22), (3, .int y3_)] [] 106 (ic_rs sw) μ 0 0 := by
        have hf := hgq22
        refine iw_iinc (i := 3) (d := 1) (pc' := 44) (v := (1 : Int32)) (L1 := fun x26 => [(0, ic_rv κ.1 r0_), (1, ic_rv κ.1 r1_), (2, .int q22), (3, .int x26)]) hf 3 rfl (fun _ => rfl) (by decide +kernel) (fun x26 hf => ?_)
        refine iw_goto (off := (-40)) (pc' := 4) (by decide +kernel) ?_
        exact iw_sub [0, 1, 2, 3] rfl (ih _ _ hf)
      refine iw_if_ne (off := 24) (tg := 41) (pc' := 20) hf (by decide +kernel) (fun hf => ?_) (fun hf => ?_)
      · obtain rfl := Option.some.inj hf
        exact iw_sub [0, 1, 2, 3] rfl hjq22
      · refine iw_aload_n (i := 0) (pc' := 21) 0 rfl (by decide +kernel) ?_
        refine iw_aload_n (i := 1) (pc' := 22) 1 rfl (by decide +kernel) ?_
        refine iw_iload_n (i := 3) (pc' := 23) 3 rfl (by decide +kernel) ?_
        obtain ⟨v23, hc, hf⟩ := ic_bd hf
        refine iw_callV (pc' := 26) (S0 := []) (S1 := [.int v23]) (c1 := 0) (s1 := 0) (k := 2) (ct_X1_load l κ sw μ r0_ h0_ r1_ h1_ y3_ hc) h0_ ⟨rfl, rfl⟩ mv_X1_load lkm_X1_72 ⟨rfl, rfl⟩ (ic_sum8 trivial (Nat.le_of_ble_eq_true rfl)) (by unfold ic_rm; decide +kernel) ⟨rfl, rfl, rfl⟩ ⟨Nat.le_of_ble_eq_true rfl, Nat.le_of_ble_eq_true rfl⟩ ?_
        refine iw_aload_n (i := 0) (pc' := 27) 0 rfl (by decide +kernel) ?_
        refine iw_aload_n (i := 1) (pc' := 28) 1 rfl (by decide +kernel) ?_
        refine iw_iload_n (i := 3) (pc' := 29) 3 rfl (by decide +kernel) ?_
        obtain ⟨v24, hc, hf⟩ := ic_bd hf
        refine iw_callV (pc' := 32) (S0 := [.int v23]) (S1 := [.int v24, .int v23]) (c1 := 0) (s1 := 0) (k := 2) (ct_X1_bears l κ sw μ r0_ h0_ r1_ h1_ y3_ hc) h0_ ⟨rfl, rfl⟩ mv_X1_bears lkm_X1_68 ⟨rfl, rfl⟩ (ic_sum8 ⟨rfl, trivial⟩ (Nat.le_of_ble_eq_true rfl)) (by unfold ic_rm; decide +kernel) ⟨rfl, rfl, rfl⟩ ⟨Nat.le_of_ble_eq_true rfl, Nat.le_of_ble_eq_true rfl⟩ ?_
        refine iw_icmp_le (off := 9) (tg := 41) (pc' := 35) hf (by decide +kernel) (fun hf => ?_) (fun hf => ?_)
        · obtain rfl := Option.some.inj hf
          exact iw_sub [0, 1, 2, 3] rfl hjq22
        · refine iw_iload_n (i := 2) (pc' := 36) 2 rfl (by decide +kernel) ?_
          refine iw_iconst (i := 1) (v := (1 : Int32)) (pc' := 37) (by decide +kernel) ?_
          refine iw_iload_n (i := 3) (pc' := 38) 3 rfl (by decide +kernel) ?_
          refine iw_ishl (pc' := 39) (by decide +kernel) ?_
          refine iw_ior (pc' := 40) (by decide +kernel) ?_
          refine iw_istore_n (i := 2) (pc' := 41) (L1 := fun x25 => [(0, ic_rv κ.1 r0_), (1, ic_rv κ.1 r1_), (2, .int x25), (3, .int y3_)]) hf (fun _ => rfl) (by decide +kernel) (fun x25 hf => ?_)
          obtain rfl := Option.some.inj hf
          exact iw_sub [0, 1, 2, 3] rfl hjq22
set_option maxRecDepth 100000 in
set_option maxHeartbeats 4000000 in
theorem ct_X1_overloaded (l : Launch) (κ : ic_K) (sw : Nat) (μ : ic_M) (r0 : Nat) (h0 : ic_isO 106 r0 1) (r1 : Nat) (h1 : ic_isO 106 r1 5) {R : Int32} (hf : fX1_overloaded μ r0 r1 = some R) : ic_C l κ MX1_overloaded [ic_rv κ.1 r0, ic_rv κ.1 r1] 106 (ic_rs sw) μ (some (.int R)) 106 (ic_rs sw) μ := by
  refine ic_C.of (L := [(0, ic_rv κ.1 r0), (1, ic_rv κ.1 r1)]) ⟨ic_cat _ _, ic_cat _ _, trivial⟩ ⟨by decide +kernel, Nat.le_of_ble_eq_true rfl⟩ rfl ?_
  unfold fX1_overloaded at hf
  refine iw_iconst (i := 0) (v := (0 : Int32)) (pc' := 1) (by decide +kernel) ?_
  refine iw_istore_n0 (i := 2) (pc' := 2) (L' := [(0, ic_rv κ.1 r0), (1, ic_rv κ.1 r1), (2, .int (0 : Int32))]) rfl (by decide +kernel) ?_
  refine iw_iconst (i := 0) (v := (0 : Int32)) (pc' := 3) (by decide +kernel) ?_
  refine iw_istore_n0 (i := 3) (pc' := 4) (L' := [(0, ic_rv κ.1 r0), (1, ic_rv κ.1 r1), (2, .int (0 : Int32)), (3, .int (0 : Int32))]) rfl (by decide +kernel) ?_
  obtain ⟨q27, hf, hgq27⟩ := ic_bd hf
  have hjq27 : ic_W l κ MX1_overloaded ic_X0 (ic_Z κ MX1_overloaded (some (.int R)) 106 (ic_rs sw) μ) 47 [(2, .int q27)] [] 106 (ic_rs sw) μ 0 0 := by
    have hf := hgq27
    refine iw_iload_n (i := 2) (pc' := 48) 0 rfl (by decide +kernel) ?_
    exact iw_ireturn (Option.some.inj hf) rfl rfl (by decide +kernel)
  exact iw_sub [0, 1, 2, 3] rfl (lpX1_overloaded_4_ok l κ sw μ r0 r1 h0 h1 hjq27 1000 (0 : Int32) (0 : Int32) hf)
