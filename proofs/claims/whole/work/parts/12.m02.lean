def MX4_readEnd : ic_Md := (yX4_readEnd, cX4_readEnd, 1, none, { frames := 2, cells := 0, slots := 0, locals := 40 })
theorem mv_X4_readEnd : ic_MV MX4_readEnd := ⟨ic_in 397 (by decide +kernel), ic_in 6 (by decide +kernel), ic_in 71 (by decide +kernel), ic_in 398 (by decide +kernel), by decide +kernel, by decide +kernel⟩
def MX5_measure : ic_Md := (yX5_measure, cX5_measure, 4, none, { frames := 0, cells := 0, slots := 0, locals := 0 })
theorem mv_X5_measure : ic_MV MX5_measure := ⟨ic_in 400 (by decide +kernel), ic_in 401 (by decide +kernel), ic_in 78 (by decide +kernel), ic_in 402 (by decide +kernel), by decide +kernel, by decide +kernel⟩
def MX4_readSize : ic_Md := (yX4_readSize, cX4_readSize, 5, none, { frames := 3, cells := 0, slots := 0, locals := 64 })
theorem mv_X4_readSize : ic_MV MX4_readSize := ⟨ic_in 386 (by decide +kernel), ic_in 4 (by decide +kernel), ic_in 71 (by decide +kernel), ic_in 387 (by decide +kernel), by decide +kernel, by decide +kernel⟩
def MX4_readList : ic_Md := (yX4_readList, cX4_readList, 5, (some .int), { frames := 3, cells := 0, slots := 0, locals := 64 })
theorem mv_X4_readList : ic_MV MX4_readList := ⟨ic_in 405 (by decide +kernel), ic_in 7 (by decide +kernel), ic_in 71 (by decide +kernel), ic_in 406 (by decide +kernel), by decide +kernel, by decide +kernel⟩
def MX5_addPerson : ic_Md := (yX5_addPerson, cX5_addPerson, 3, none, { frames := 0, cells := 0, slots := 0, locals := 0 })
theorem mv_X5_addPerson : ic_MV MX5_addPerson := ⟨ic_in 412 (by decide +kernel), ic_in 413 (by decide +kernel), ic_in 78 (by decide +kernel), ic_in 414 (by decide +kernel), by decide +kernel, by decide +kernel⟩
def MX4_readPerson : ic_Md := (yX4_readPerson, cX4_readPerson, 4, none, { frames := 3, cells := 0, slots := 0, locals := 64 })
theorem mv_X4_readPerson : ic_MV MX4_readPerson := ⟨ic_in 409 (by decide +kernel), ic_in 8 (by decide +kernel), ic_in 71 (by decide +kernel), ic_in 410 (by decide +kernel), by decide +kernel, by decide +kernel⟩
def MX4_readClause : ic_Md := (yX4_readClause, cX4_readClause, 3, none, { frames := 4, cells := 0, slots := 0, locals := 88 })
theorem mv_X4_readClause : ic_MV MX4_readClause := ⟨ic_in 378 (by decide +kernel), ic_in 2 (by decide +kernel), ic_in 71 (by decide +kernel), ic_in 379 (by decide +kernel), by decide +kernel, by decide +kernel⟩
def MX4_readInto : ic_Md := (yX4_readInto, cX4_readInto, 3, none, { frames := 5, cells := 0, slots := 0, locals := 110 })
theorem mv_X4_readInto : ic_MV MX4_readInto := ⟨ic_in 361 (by decide +kernel), ic_in 362 (by decide +kernel), ic_in 71 (by decide +kernel), ic_in 363 (by decide +kernel), by decide +kernel, by decide +kernel⟩
def MX5_weightOfAll : ic_Md := (yX5_weightOfAll, cX5_weightOfAll, 4, (some .int), { frames := 1, cells := 0, slots := 0, locals := 21 })
theorem mv_X5_weightOfAll : ic_MV MX5_weightOfAll := ⟨ic_in 819 (by decide +kernel), ic_in 820 (by decide +kernel), ic_in 78 (by decide +kernel), ic_in 821 (by decide +kernel), by decide +kernel, by decide +kernel⟩
def MX5_nextToAny : ic_Md := (yX5_nextToAny, cX5_nextToAny, 4, (some .int), { frames := 1, cells := 0, slots := 0, locals := 22 })
theorem mv_X5_nextToAny : ic_MV MX5_nextToAny := ⟨ic_in 735 (by decide +kernel), ic_in 736 (by decide +kernel), ic_in 78 (by decide +kernel), ic_in 737 (by decide +kernel), by decide +kernel, by decide +kernel⟩
def MX6_add : ic_Md := (yX6_add, cX6_add, 3, (some .boolean), { frames := 0, cells := 0, slots := 0, locals := 0 })
theorem mv_X6_add : ic_MV MX6_add := ⟨ic_in 807 (by decide +kernel), ic_in 808 (by decide +kernel), ic_in 75 (by decide +kernel), ic_in 809 (by decide +kernel), by decide +kernel, by decide +kernel⟩
def MX6_fits : ic_Md := (yX6_fits, cX6_fits, 5, (some .boolean), { frames := 0, cells := 0, slots := 0, locals := 0 })
theorem mv_X6_fits : ic_MV MX6_fits := ⟨ic_in 825 (by decide +kernel), ic_in 23 (by decide +kernel), ic_in 75 (by decide +kernel), ic_in 826 (by decide +kernel), by decide +kernel, by decide +kernel⟩
def MX6_howMany : ic_Md := (yX6_howMany, cX6_howMany, 5, (some .int), { frames := 2, cells := 0, slots := 0, locals := 44 })
theorem mv_X6_howMany : ic_MV MX6_howMany := ⟨ic_in 815 (by decide +kernel), ic_in 816 (by decide +kernel), ic_in 75 (by decide +kernel), ic_in 817 (by decide +kernel), by decide +kernel, by decide +kernel⟩
def MX6_least : ic_Md := (yX6_least, cX6_least, 2, (some .int), { frames := 3, cells := 0, slots := 0, locals := 68 })
theorem mv_X6_least : ic_MV MX6_least := ⟨ic_in 828 (by decide +kernel), ic_in 829 (by decide +kernel), ic_in 75 (by decide +kernel), ic_in 830 (by decide +kernel), by decide +kernel, by decide +kernel⟩
def MX6_sure : ic_Md := (yX6_sure, cX6_sure, 5, (some .int), { frames := 3, cells := 0, slots := 0, locals := 68 })
theorem mv_X6_sure : ic_MV MX6_sure := ⟨ic_in 833 (by decide +kernel), ic_in 834 (by decide +kernel), ic_in 75 (by decide +kernel), ic_in 835 (by decide +kernel), by decide +kernel, by decide +kernel⟩
def MX6_howManyAbove : ic_Md := (yX6_howManyAbove, cX6_howManyAbove, 5, (some .int), { frames := 0, cells := 0, slots := 0, locals := 0 })
theorem mv_X6_howManyAbove : ic_MV MX6_howManyAbove := ⟨ic_in 846 (by decide +kernel), ic_in 24 (by decide +kernel), ic_in 75 (by decide +kernel), ic_in 847 (by decide +kernel), by decide +kernel, by decide +kernel⟩
def MX6_bestQuestion : ic_Md := (yX6_bestQuestion, cX6_bestQuestion, 8, (some .int), { frames := 3, cells := 0, slots := 0, locals := 68 })
theorem mv_X6_bestQuestion : ic_MV MX6_bestQuestion := ⟨ic_in 841 (by decide +kernel), ic_in 842 (by decide +kernel), ic_in 75 (by decide +kernel), ic_in 843 (by decide +kernel), by decide +kernel, by decide +kernel⟩
def MX7_inchesBehind : ic_Md := (yX7_inchesBehind, cX7_inchesBehind, 9, (some .int), { frames := 3, cells := 0, slots := 0, locals := 69 })
theorem mv_X7_inchesBehind : ic_MV MX7_inchesBehind := ⟨ic_in 686 (by decide +kernel), ic_in 687 (by decide +kernel), ic_in 74 (by decide +kernel), ic_in 688 (by decide +kernel), by decide +kernel, by decide +kernel⟩
def MX7_firstNight : ic_Md := (yX7_firstNight, cX7_firstNight, 11, (some .int), { frames := 3, cells := 0, slots := 0, locals := 69 })
theorem mv_X7_firstNight : ic_MV MX7_firstNight := ⟨ic_in 698 (by decide +kernel), ic_in 699 (by decide +kernel), ic_in 74 (by decide +kernel), ic_in 700 (by decide +kernel), by decide +kernel, by decide +kernel⟩
theorem lkf_X4_44 : Cond.fieldLink RX4 44 RX5 (TX5 8).2.1 (TX5 8).2.2.1 ∈ ic_tb := ic_in 258 (by decide +kernel)
theorem lkm_X4_86 : Cond.methodLink RX4 86 yX5_measure ∈ ic_tb := ic_in 399 (by decide +kernel)
theorem lkm_X4_83 : Cond.methodLink RX4 83 yX4_readEnd ∈ ic_tb := ic_in 395 (by decide +kernel)
theorem lkm_X4_79 : Cond.methodLink RX4 79 yX4_readNumber ∈ ic_tb := ic_in 388 (by decide +kernel)
theorem lkf_X4_90 : Cond.fieldLink RX4 90 RX5 (TX5 12).2.1 (TX5 12).2.2.1 ∈ ic_tb := ic_in 276 (by decide +kernel)
theorem lkm_X4_93 : Cond.methodLink RX4 93 yX5_addPerson ∈ ic_tb := ic_in 411 (by decide +kernel)
theorem lkf_X4_64 : Cond.fieldLink RX4 64 RX5 (TX5 1).2.1 (TX5 1).2.2.1 ∈ ic_tb := ic_in 246 (by decide +kernel)
theorem lkf_X4_67 : Cond.fieldLink RX4 67 RX5 (TX5 6).2.1 (TX5 6).2.2.1 ∈ ic_tb := ic_in 254 (by decide +kernel)
theorem lkm_X4_60 : Cond.methodLink RX4 60 yX4_readList ∈ ic_tb := ic_in 403 (by decide +kernel)
theorem lkf_X4_70 : Cond.fieldLink RX4 70 RX5 (TX5 2).2.1 (TX5 2).2.2.1 ∈ ic_tb := ic_in 248 (by decide +kernel)
theorem lkf_X4_73 : Cond.fieldLink RX4 73 RX5 (TX5 7).2.1 (TX5 7).2.2.1 ∈ ic_tb := ic_in 256 (by decide +kernel)
theorem lkm_X4_76 : Cond.methodLink RX4 76 yX4_readPerson ∈ ic_tb := ic_in 407 (by decide +kernel)
theorem lkm_X4_51 : Cond.methodLink RX4 51 yX4_readSize ∈ ic_tb := ic_in 384 (by decide +kernel)
theorem lkf_X4_54 : Cond.fieldLink RX4 54 RX5 (TX5 0).2.1 (TX5 0).2.2.1 ∈ ic_tb := ic_in 244 (by decide +kernel)
theorem lkf_X4_57 : Cond.fieldLink RX4 57 RX5 (TX5 5).2.1 (TX5 5).2.2.1 ∈ ic_tb := ic_in 252 (by decide +kernel)
theorem lkm_X4_40 : Cond.methodLink RX4 40 yX4_readClause ∈ ic_tb := ic_in 376 (by decide +kernel)
theorem lkm_X4_28 : Cond.methodLink RX4 28 yX5_clear ∈ ic_tb := ic_in 364 (by decide +kernel)
theorem lkm_X5_60 : Cond.methodLink RX5 60 yX5_weightOf ∈ ic_tb := ic_in 822 (by decide +kernel)
theorem lkm_X5_56 : Cond.methodLinkNest RX5 56 yX8_isIn "IceLaw" ∈ ic_tb := ic_in 738 (by decide +kernel)
theorem lkm_X5_64 : Cond.methodLink RX5 64 yX5_nextTo ∈ ic_tb := ic_in 739 (by decide +kernel)
theorem lkf_X6_25 : Cond.fieldLink RX6 25 RX6 (TX6 4).2.1 (TX6 4).2.2.1 ∈ ic_tb := ic_in 189 (by decide +kernel)
theorem lkf_X6_9 : Cond.fieldLink RX6 9 RX6 (TX6 0).2.1 (TX6 0).2.2.1 ∈ ic_tb := ic_in 185 (by decide +kernel)
theorem lkf_X6_15 : Cond.fieldLink RX6 15 RX6 (TX6 1).2.1 (TX6 1).2.2.1 ∈ ic_tb := ic_in 186 (by decide +kernel)
theorem lkf_X6_42 : Cond.fieldLink RX6 42 RX5 (TX5 10).2.1 (TX5 10).2.2.1 ∈ ic_tb := ic_in 266 (by decide +kernel)
theorem lkf_X6_29 : Cond.fieldLink RX6 29 RX5 (TX5 12).2.1 (TX5 12).2.2.1 ∈ ic_tb := ic_in 274 (by decide +kernel)
theorem lkf_X6_19 : Cond.fieldLink RX6 19 RX6 (TX6 2).2.1 (TX6 2).2.2.1 ∈ ic_tb := ic_in 187 (by decide +kernel)
theorem lkf_X6_22 : Cond.fieldLink RX6 22 RX6 (TX6 3).2.1 (TX6 3).2.2.1 ∈ ic_tb := ic_in 188 (by decide +kernel)
theorem lkm_X6_38 : Cond.methodLink RX6 38 yX6_fits ∈ ic_tb := ic_in 823 (by decide +kernel)
theorem lkm_X6_34 : Cond.methodLink RX6 34 yX5_weightOfAll ∈ ic_tb := ic_in 818 (by decide +kernel)
theorem lkm_X6_45 : Cond.methodLink RX6 45 yX6_howMany ∈ ic_tb := ic_in 831 (by decide +kernel)
theorem lkm_X6_53 : Cond.methodLink RX6 53 yJ9_max_7cf53 ∈ ic_tb := ic_in 848 (by decide +kernel)
theorem lkm_X6_49 : Cond.methodLink RX6 49 yX6_howManyAbove ∈ ic_tb := ic_in 844 (by decide +kernel)
theorem lkf_X7_26 : Cond.fieldLink RX7 26 RX1 (TX1 3).2.1 (TX1 3).2.2.1 ∈ ic_tb := ic_in 127 (by decide +kernel)
theorem lkm_X7_35 : Cond.methodLink RX7 35 yX5_inchesAfter ∈ ic_tb := ic_in 692 (by decide +kernel)
theorem lkm_X7_30 : Cond.methodLink RX7 30 yX5_coldOf ∈ ic_tb := ic_in 691 (by decide +kernel)
theorem lkm_X7_22 : Cond.methodLink RX7 22 yX1_isSnowy ∈ ic_tb := ic_in 690 (by decide +kernel)
theorem lkm_X7_18 : Cond.methodLink RX7 18 yX1_inchesOf ∈ ic_tb := ic_in 689 (by decide +kernel)
theorem lkf_X7_39 : Cond.fieldLink RX7 39 RX5 (TX5 10).2.1 (TX5 10).2.2.1 ∈ ic_tb := ic_in 265 (by decide +kernel)
def fX4_readEnd (μ : ic_M) : Option (ic_M) := (if (μ 2 3) = 0 then Option.bind (fX4_skipBlanks μ) (fun m21 => Option.bind (fX4_sign m21) (fun v22 => Option.bind (if v22 = (59 : Int32) then ic_pu m21 2 1 ((m21 2 1) + (1 : Int32)) (fun m25 => some m25) else Option.bind (fX4_blame m21 (1 : Int32) (m21 2 1)) (fun m24 => some m24)) (fun q23 => some q23))) else some μ)
def fX5_measure (μ : ic_M) (r0 : Nat) (x1 : Int32) (x2 : Int32) (x3 : Int32) : Option (ic_M) := ic_pu μ r0 8 x1 (fun m21 => ic_pu m21 r0 9 x2 (fun m22 => ic_pu m22 r0 10 x3 (fun m23 => ic_pu m23 r0 11 (x1 * x2) (fun m24 => some m24))))
def fX4_readSize (μ : ic_M) (r1 : Nat) : Option (ic_M) := (if (μ r1 8) = 0 then ic_pu μ 2 1 ((μ 2 1) + (1 : Int32)) (fun m21 => Option.bind (fX4_readNumber m21 (2 : Int32) (6 : Int32)) (fun q22 => Option.bind (fX4_readNumber q22.2 (1 : Int32) (3 : Int32)) (fun q23 => Option.bind (fX4_readNumber q23.2 (1 : Int32) (30 : Int32)) (fun q24 => Option.bind (fX4_readEnd q24.2) (fun m25 => Option.bind (if (m25 2 3) = 0 then Option.bind (fX5_measure m25 r1 q22.1 q23.1 q24.1) (fun m27 => some m27) else some m25) (fun q26 => some q26)))))) else Option.bind (fX4_blame μ (3 : Int32) (μ 2 1)) (fun m28 => some m28))
def lpX4_readList_28 (r1_ : Nat) (x3_ : Int32) : Nat → Int32 → ic_M → Option ((Int32 × ic_M) ⊕ (Int32 × ic_M))
  | 0, _, _ => none
  | fu + 1, y4_, μ => ic_ln r1_ ((if (Int32.ofNat (ic_il 106 r1_)) ≤ y4_ then some (.inl (y4_, μ)) else (if (μ 2 3) = 0 then Option.bind (fX4_readNumber μ (0 : Int32) x3_) (fun q22 => ic_as q22.2 r1_ (ic_il 106 r1_) y4_ q22.1 (fun m23 => ic_lt (y4_ + (1 : Int32)) (fun x24 => Option.bind (fX4_skipBlanks m23) (fun m25 => Option.bind (fX4_sign m25) (fun v26 => (if v26 = (44 : Int32) then ic_ln r1_ ((if x24 = (Int32.ofNat (ic_il 106 r1_)) then some (.inl (x24, m25)) else ic_pu m25 2 1 ((m25 2 1) + (1 : Int32)) (fun m27 => lpX4_readList_28 r1_ x3_ fu x24 m27))) else some (.inl (x24, m25)))))))) else some (.inl (y4_, μ)))))
def fX4_readList (μ : ic_M) (r1 : Nat) (x2 : Int32) (x3 : Int32) : Option (Int32 × ic_M) := (if x2 = 0 then ic_pu μ 2 1 ((μ 2 1) + (1 : Int32)) (fun m21 => Option.bind (lpX4_readList_28 r1 x3 1000 (0 : Int32) m21) (fun q30 => Sum.elim (fun t31 => Option.bind (fX4_readEnd t31.2) (fun m32 => some (t31.1, m32))) some q30)) else Option.bind (fX4_blame μ (3 : Int32) (μ 2 1)) (fun m33 => some (x2, m33)))
def fX5_addPerson (μ : ic_M) (r0 : Nat) (x1 : Int32) (x2 : Int32) : Option (ic_M) := Option.bind (if (μ r0 12) < 0 then some μ else (if (6 : Int32) ≤ (μ r0 12) then some μ else (if (6 : Int32) ≤ (μ r0 12) then some μ else ic_as μ (r0 + 4) 6 (μ r0 12) x1 (fun m22 => ic_as m22 (r0 + 5) 6 (m22 r0 12) x2 (fun m23 => ic_pu m23 r0 12 ((m23 r0 12) + (1 : Int32)) (fun m24 => some m24)))))) (fun q21 => some q21)
def fX4_readPerson (μ : ic_M) (r1 : Nat) : Option (ic_M) := (if (μ r1 12) < (6 : Int32) then ic_pu μ 2 1 ((μ 2 1) + (1 : Int32)) (fun m21 => Option.bind (fX4_readNumber m21 (0 : Int32) (1 : Int32)) (fun q22 => Option.bind (fX4_readNumber q22.2 (1 : Int32) (200 : Int32)) (fun q23 => Option.bind (fX4_readEnd q23.2) (fun m24 => Option.bind (if (m24 2 3) = 0 then Option.bind (fX5_addPerson m24 r1 q22.1 q23.1) (fun m26 => some m26) else some m24) (fun q25 => some q25))))) else Option.bind (fX4_blame μ (3 : Int32) (μ 2 1)) (fun m27 => some m27))
def fX4_readClause (μ : ic_M) (r1 : Nat) : Option (ic_M) := Option.bind (fX4_sign μ) (fun v21 => (if (μ r1 8) = 0 then (if v21 = (114 : Int32) then Option.bind (if v21 = (99 : Int32) then Option.bind (fX4_readList μ (r1 + 2) (μ r1 6) (9 : Int32)) (fun q33 => ic_pu q33.2 r1 6 q33.1 (fun m34 => some m34)) else (if v21 = (110 : Int32) then Option.bind (fX4_readList μ (r1 + 3) (μ r1 7) (20 : Int32)) (fun q35 => ic_pu q35.2 r1 7 q35.1 (fun m36 => some m36)) else (if v21 = (112 : Int32) then Option.bind (fX4_readPerson μ r1) (fun m37 => some m37) else (if v21 = (114 : Int32) then Option.bind (fX4_readSize μ r1) (fun m38 => some m38) else (if v21 = (116 : Int32) then Option.bind (fX4_readList μ (r1 + 1) (μ r1 5) (40 : Int32)) (fun q39 => ic_pu q39.2 r1 5 q39.1 (fun m40 => some m40)) else Option.bind (fX4_blame μ (1 : Int32) (μ 2 1)) (fun m41 => some m41)))))) (fun q32 => some q32) else Option.bind (fX4_blame μ (1 : Int32) (μ 2 1)) (fun m42 => some m42)) else Option.bind (if v21 = (99 : Int32) then Option.bind (fX4_readList μ (r1 + 2) (μ r1 6) (9 : Int32)) (fun q23 => ic_pu q23.2 r1 6 q23.1 (fun m24 => some m24)) else (if v21 = (110 : Int32) then Option.bind (fX4_readList μ (r1 + 3) (μ r1 7) (20 : Int32)) (fun q25 => ic_pu q25.2 r1 7 q25.1 (fun m26 => some m26)) else (if v21 = (112 : Int32) then Option.bind (fX4_readPerson μ r1) (fun m27 => some m27) else (if v21 = (114 : Int32) then Option.bind (fX4_readSize μ r1) (fun m28 => some m28) else (if v21 = (116 : Int32) then Option.bind (fX4_readList μ (r1 + 1) (μ r1 5) (40 : Int32)) (fun q29 => ic_pu q29.2 r1 5 q29.1 (fun m30 => some m30)) else Option.bind (fX4_blame μ (1 : Int32) (μ 2 1)) (fun m31 => some m31)))))) (fun q22 => some q22)))
def lpX4_readInto_21 (r1_ : Nat) : Nat → Int32 → ic_M → Option ((ic_M) ⊕ (ic_M))
  | 0, _, _ => none
  | fu + 1, y2_, μ => (if (μ 2 2) ≤ y2_ then some (.inl μ) else (if (μ 2 3) = 0 then Option.bind (fX4_skipBlanks μ) (fun m25 => Option.bind (fX4_sign m25) (fun v26 => (if v26 = (-1 : Int32) then some (.inl m25) else Option.bind (fX4_readClause m25 r1_) (fun m27 => ic_lt (y2_ + (1 : Int32)) (fun x28 => lpX4_readInto_21 r1_ fu x28 m27))))) else some (.inl μ)))
def fX4_readInto (μ : ic_M) (r1 : Nat) : Option (ic_M) := ic_pu μ 2 1 (0 : Int32) (fun m21 => ic_pu m21 2 3 (0 : Int32) (fun m22 => ic_pu m22 2 4 (-1 : Int32) (fun m23 => Option.bind (fX5_clear m23 r1) (fun m24 => Option.bind (lpX4_readInto_21 r1 1000 (0 : Int32) m24) (fun q29 => Sum.elim (fun t30 => some t30) some q29)))))
def lpX5_weightOfAll_4 (μ : ic_M) (r0_ : Nat) (x1_ : Int32) : Nat → Int32 → Int32 → Option (Int32)
  | 0, _, _ => none
  | fu + 1, y2_, y3_ => (if (μ r0_ 12) ≤ y3_ then some y2_ else Option.bind (fX8_isIn μ x1_ y3_) (fun v21 => Option.bind (if v21 = 0 then some y2_ else Option.bind (fX5_weightOf μ r0_ y3_) (fun v23 => ic_lt ((y2_ + v23)) (fun x24 => some x24))) (fun q22 => ic_lt (y3_ + (1 : Int32)) (fun x25 => lpX5_weightOfAll_4 μ r0_ x1_ fu q22 x25))))
def fX5_weightOfAll (μ : ic_M) (r0 : Nat) (x1 : Int32) : Option (Int32) := Option.bind (lpX5_weightOfAll_4 μ r0 x1 1000 (0 : Int32) (0 : Int32)) (fun q26 => some q26)
def lpX5_nextToAny_4 (μ : ic_M) (r0_ : Nat) (x1_ : Int32) : Nat → Int32 → Int32 → Option (Int32)
  | 0, _, _ => none
  | fu + 1, y2_, y3_ => (if (μ r0_ 11) ≤ y3_ then some y2_ else Option.bind (fX8_isIn μ x1_ y3_) (fun v21 => Option.bind (if v21 = 0 then some y2_ else Option.bind (fX5_nextTo μ r0_ y3_) (fun v23 => ic_lt ((y2_ ||| v23)) (fun x24 => some x24))) (fun q22 => ic_lt (y3_ + (1 : Int32)) (fun x25 => lpX5_nextToAny_4 μ r0_ x1_ fu q22 x25))))
def fX5_nextToAny (μ : ic_M) (r0 : Nat) (x1 : Int32) : Option (Int32) := Option.bind (lpX5_nextToAny_4 μ r0 x1 1000 (0 : Int32) (0 : Int32)) (fun q26 => some q26)
def fX6_add (μ : ic_M) (x1 : Int32) (x2 : Int32) : Option (Int32 × ic_M) := (if (μ 61 4) < 0 then ic_rz (0 : Int32) (some ((0 : Int32), μ)) else (if (6 : Int32) ≤ (μ 61 4) then ic_rz (0 : Int32) (some ((0 : Int32), μ)) else (if (μ 61 4) < (6 : Int32) then ic_as μ 62 6 (μ 61 4) x1 (fun m21 => ic_az m21 63 6 (m21 61 4) x2 (fun m22 => ic_pu m22 61 4 ((m22 61 4) + (1 : Int32)) (fun m23 => ic_rz (1 : Int32) (some ((1 : Int32), m23))))) else ic_rz (0 : Int32) (some ((0 : Int32), μ)))))
def lpX6_fits_2 (μ : ic_M) (r1_ : Nat) (x2_ : Int32) : Nat → Int32 → Option ((Unit) ⊕ (Int32))
  | 0, _ => none
  | fu + 1, y3_ => (if (μ 61 4) ≤ y3_ then some (.inl ()) else (if (6 : Int32) ≤ y3_ then some (.inl ()) else (if (6 : Int32) ≤ y3_ then some (.inl ()) else ic_ag μ 62 6 y3_ (fun v21 => Option.bind (if x2_ ≤ ((μ r1_ 10) * v21) then some (0 : Int32) else some (1 : Int32)) (fun q22 => ic_ag μ 63 6 y3_ (fun v23 => (if q22 = v23 then ic_lt (y3_ + (1 : Int32)) (fun x24 => lpX6_fits_2 μ r1_ x2_ fu x24) else ic_rz (0 : Int32) (some (.inr (0 : Int32))))))))))
def fX6_fits (μ : ic_M) (r1 : Nat) (x2 : Int32) : Option (Int32) := Option.bind (lpX6_fits_2 μ r1 x2 1000 (0 : Int32)) (fun q25 => Sum.elim (fun t26 => ic_rz (1 : Int32) (some (1 : Int32))) some q25)
def lpX6_howMany_4 (r1_ : Nat) : Nat → Int32 → Int32 → ic_M → Option (Int32 × ic_M)
  | 0, _, _, _ => none
  | fu + 1, y2_, y3_, μ => (if ((1 : Int32) <<< ((μ r1_ 12) &&& 31)) ≤ y3_ then some (y2_, μ) else Option.bind (fX5_weightOfAll μ r1_ y3_) (fun v21 => Option.bind (fX6_fits μ r1_ v21) (fun v22 => Option.bind (if v22 = 0 then some (y2_, μ) else (if (64 : Int32) ≤ y2_ then some (y2_, μ) else (if (64 : Int32) ≤ y2_ then some (y2_, μ) else ic_as μ 64 64 y2_ y3_ (fun m24 => ic_as m24 65 64 y2_ v21 (fun m25 => ic_lt (y2_ + (1 : Int32)) (fun x26 => some (x26, m25))))))) (fun q23 => ic_lt (y3_ + (1 : Int32)) (fun x27 => lpX6_howMany_4 r1_ fu q23.1 x27 q23.2)))))
def fX6_howMany (μ : ic_M) (r1 : Nat) : Option (Int32 × ic_M) := Option.bind (lpX6_howMany_4 r1 1000 (0 : Int32) (0 : Int32) μ) (fun q28 => some (q28.1, q28.2))
def fX6_least (μ : ic_M) (r1 : Nat) : Option (Int32 × ic_M) := Option.bind (fX6_howMany μ r1) (fun q21 => Option.bind (if q21.1 ≤ 0 then some (-1 : Int32) else ic_ag q21.2 64 64 (0 : Int32) (fun v23 => some v23)) (fun q22 => some (q22, q21.2)))
def lpX6_sure_24 (μ : ic_M) (x2_ : Int32) : Nat → Int32 → Int32 → Option (Int32)
  | 0, _, _ => none
  | fu + 1, y3_, y4_ => (if x2_ ≤ y4_ then some y3_ else (if (64 : Int32) ≤ y4_ then some y3_ else ic_ag μ 64 64 y4_ (fun v24 => ic_lt ((y3_ &&& v24)) (fun x25 => ic_lt (y4_ + (1 : Int32)) (fun x26 => lpX6_sure_24 μ x2_ fu x25 x26)))))
def fX6_sure (μ : ic_M) (r1 : Nat) : Option (Int32 × ic_M) := Option.bind (fX6_howMany μ r1) (fun q21 => Option.bind (if q21.1 ≤ 0 then some (0 : Int32) else ic_ag q21.2 64 64 (0 : Int32) (fun v23 => some v23)) (fun q22 => Option.bind (lpX6_sure_24 q21.2 q21.1 1000 q22 (1 : Int32)) (fun q27 => some (q27, q21.2))))
def lpX6_howManyAbove_5 (μ : ic_M) (x1_ : Int32) (x2_ : Int32) : Nat → Int32 → Int32 → Option (Int32)
  | 0, _, _ => none
  | fu + 1, y3_, y4_ => (if x2_ ≤ y4_ then some y3_ else (if (64 : Int32) ≤ y4_ then some y3_ else ic_ag μ 65 64 y4_ (fun v21 => Option.bind (if v21 ≤ x1_ then some y3_ else ic_lt (y3_ + (1 : Int32)) (fun x23 => some x23)) (fun q22 => ic_lt (y4_ + (1 : Int32)) (fun x24 => lpX6_howManyAbove_5 μ x1_ x2_ fu q22 x24)))))
def fX6_howManyAbove (μ : ic_M) (x1 : Int32) (x2 : Int32) : Option (Int32) := Option.bind (lpX6_howManyAbove_5 μ x1 x2 1000 (0 : Int32) (0 : Int32)) (fun q25 => some q25)
def lpX6_bestQuestion_14 (μ : ic_M) (r1_ : Nat) (x2_ : Int32) : Nat → Int32 → Int32 → Int32 → Option (Int32)
  | 0, _, _, _ => none
  | fu + 1, y3_, y4_, y5_ => (if (60 : Int32) < y5_ then some y3_ else Option.bind (fX6_howManyAbove μ ((μ r1_ 10) * y5_) x2_) (fun v22 => ic_lt ((if v22 < (x2_ - v22) then (x2_ - v22) else v22)) (fun x23 => Option.bind (if y4_ ≤ x23 then some (y3_, y4_) else some (y5_, x23)) (fun q24 => ic_lt (y5_ + (1 : Int32)) (fun x25 => lpX6_bestQuestion_14 μ r1_ x2_ fu q24.1 q24.2 x25)))))
def fX6_bestQuestion (μ : ic_M) (r1 : Nat) : Option (Int32 × ic_M) := Option.bind (fX6_howMany μ r1) (fun q21 => Option.bind (lpX6_bestQuestion_14 q21.2 r1 q21.1 1000 (-1 : Int32) q21.1 (1 : Int32)) (fun q26 => some (q26, q21.2)))
def lpX7_inchesBehind_17 (μ : ic_M) (r1_ : Nat) (r2_ : Nat) (x3_ : Int32) (x4_ : Int32) : Nat → Int32 → Int32 → Int32 → Option (Int32)
  | 0, _, _, _ => none
  | fu + 1, y5_, y6_, y7_ => (if x4_ ≤ y7_ then some y5_ else Option.bind (fX5_coldOf μ r1_ ((μ r2_ 3) + y7_)) (fun v23 => Option.bind (fX5_inchesAfter μ r1_ y5_ x3_ v23 y6_) (fun v24 => Option.bind (if y6_ = 0 then some (0 : Int32) else (if v23 ≤ 0 then some (0 : Int32) else some (1 : Int32))) (fun q25 => ic_lt (y7_ + (1 : Int32)) (fun x26 => lpX7_inchesBehind_17 μ r1_ r2_ x3_ x4_ fu v24 q25 x26)))))
def fX7_inchesBehind (μ : ic_M) (r1 : Nat) (r2 : Nat) (x3 : Int32) (x4 : Int32) : Option (Int32) := Option.bind (fX1_inchesOf μ r2 x3) (fun v21 => Option.bind (fX1_isSnowy μ r2 x3) (fun v22 => Option.bind (lpX7_inchesBehind_17 μ r1 r2 x3 x4 1000 v21 v22 (0 : Int32)) (fun q27 => some q27)))
def lpX7_firstNight_17 (μ : ic_M) (r1_ : Nat) (r2_ : Nat) (x3_ : Int32) (x4_ : Int32) (x5_ : Int32) : Nat → Int32 → Int32 → Int32 → Option ((Unit) ⊕ (Int32))
  | 0, _, _, _ => none
  | fu + 1, y6_, y7_, y8_ => (if (60 : Int32) < y8_ then some (.inl ()) else Option.bind (if ((μ r1_ 10) * y6_) < x4_ then some (0 : Int32) else some (1 : Int32)) (fun q23 => (if q23 = x5_ then some (.inr y8_) else Option.bind (fX5_coldOf μ r1_ ((μ r2_ 3) + y8_)) (fun v24 => Option.bind (fX5_inchesAfter μ r1_ y6_ x3_ v24 y7_) (fun v25 => Option.bind (if y7_ = 0 then some (0 : Int32) else (if v24 ≤ 0 then some (0 : Int32) else some (1 : Int32))) (fun q26 => ic_lt (y8_ + (1 : Int32)) (fun x27 => lpX7_firstNight_17 μ r1_ r2_ x3_ x4_ x5_ fu v25 q26 x27)))))))
def fX7_firstNight (μ : ic_M) (r1 : Nat) (r2 : Nat) (x3 : Int32) (x4 : Int32) (x5 : Int32) : Option (Int32) := Option.bind (fX1_inchesOf μ r2 x3) (fun v21 => Option.bind (fX1_isSnowy μ r2 x3) (fun v22 => Option.bind (lpX7_firstNight_17 μ r1 r2 x3 x4 x5 1000 v21 v22 (0 : Int32)) (fun q28 => Sum.elim (fun t29 => some (-1 : Int32)) some q28)))
set_option maxRecDepth 100000 in
set_option maxHeartbeats 4000000 in
theorem ct_X4_readEnd (l : Launch) (κ : ic_K) (sw : Nat) (μ : ic_M) {R : ic_M} (hf : fX4_readEnd μ = some R) : ic_C l κ MX4_readEnd [ic_rv κ.1 2] 106 (ic_rs sw) μ none 106 (ic_rs sw) R := by
  refine ic_C.of (L := [(0, ic_rv κ.1 2)]) ⟨ic_cat _ _, trivial⟩ ⟨by decide +kernel, Nat.le_of_ble_eq_true rfl⟩ rfl ?_
  unfold fX4_readEnd at hf
  refine iw_aload_n (i := 0) (pc' := 1) 0 rfl (by decide +kernel) ?_
  refine iw_geti (pc' := 4) ic_fk4 cO_2 lkf_X4_22 (by decide +kernel) ?_
  refine iw_if_eq (off := 4) (tg := 8) (pc' := 7) hf (by decide +kernel) (fun hf => ?_) (fun hf => ?_)
  · refine iw_aload_n (i := 0) (pc' := 9) 0 rfl (by decide +kernel) ?_
    obtain ⟨m21, hc, hf⟩ := ic_bd hf
    refine iw_callV (pc' := 12) (S0 := []) (S1 := []) (c1 := 0) (s1 := 0) (k := 0) (ct_X4_skipBlanks l κ sw μ hc) cO_2 ⟨rfl, rfl⟩ mv_X4_skipBlanks lkm_X4_33 ⟨rfl, rfl⟩ (ic_sum8 trivial (Nat.le_of_ble_eq_true rfl)) (by unfold ic_rm; decide +kernel) ⟨rfl, rfl, rfl⟩ ⟨Nat.le_of_ble_eq_true rfl, Nat.le_of_ble_eq_true rfl⟩ ?_
    refine iw_aload_n (i := 0) (pc' := 13) 0 rfl (by decide +kernel) ?_
    obtain ⟨v22, hc, hf⟩ := ic_bd hf
    refine iw_callV (pc' := 16) (S0 := []) (S1 := [.int v22]) (c1 := 0) (s1 := 0) (k := 0) (ct_X4_sign l κ sw m21 hc) cO_2 ⟨rfl, rfl⟩ mv_X4_sign lkm_X4_36 ⟨rfl, rfl⟩ (ic_sum8 trivial (Nat.le_of_ble_eq_true rfl)) (by unfold ic_rm; decide +kernel) ⟨rfl, rfl, rfl⟩ ⟨Nat.le_of_ble_eq_true rfl, Nat.le_of_ble_eq_true rfl⟩ ?_
    refine iw_bipush (i := 59) (v := (59 : Int32)) (pc' := 18) (by decide +kernel) ?_
    obtain ⟨q23, hf, hgq23⟩ := ic_bd hf
    have hjq23 : ic_W l κ MX4_readEnd ic_X0 (ic_Z κ MX4_readEnd none 106 (ic_rs sw) R) 43 [] [] 106 (ic_rs sw) q23 0 0 := by
      have hf := hgq23
      exact iw_vreturn rfl (Option.some.inj hf) (by decide +kernel)
    refine iw_icmp_ne (off := 16) (tg := 34) (pc' := 21) hf (by decide +kernel) (fun hf => ?_) (fun hf => ?_)
    · refine iw_aload_n (i := 0) (pc' := 35) 0 rfl (by decide +kernel) ?_
      refine iw_iconst (i := 1) (v := (1 : Int32)) (pc' := 36) (by decide +kernel) ?_
      refine iw_aload_n (i := 0) (pc' := 37) 0 rfl (by decide +kernel) ?_
      refine iw_geti (pc' := 40) ic_fk4 cO_2 lkf_X4_19 (by decide +kernel) ?_
      obtain ⟨m24, hc, hf⟩ := ic_bd hf
      refine iw_callV (pc' := 43) (S0 := []) (S1 := []) (c1 := 0) (s1 := 0) (k := 2) (ct_X4_blame l κ sw m21 (1 : Int32) (m21 2 1) hc) cO_2 ⟨rfl, rfl⟩ mv_X4_blame lkm_X4_47 ⟨rfl, rfl⟩ (ic_sum8 trivial (Nat.le_of_ble_eq_true rfl)) (by unfold ic_rm; decide +kernel) ⟨rfl, rfl, rfl⟩ ⟨Nat.le_of_ble_eq_true rfl, Nat.le_of_ble_eq_true rfl⟩ ?_
      obtain rfl := Option.some.inj hf
      exact iw_sub [] rfl hjq23
    · refine iw_aload_n (i := 0) (pc' := 22) 0 rfl (by decide +kernel) ?_
      refine iw_dup (pc' := 23) (ic_cat _ _) (by decide +kernel) ?_
      refine iw_geti (pc' := 26) ic_fk4 cO_2 lkf_X4_19 (by decide +kernel) ?_
      refine iw_iconst (i := 1) (v := (1 : Int32)) (pc' := 27) (by decide +kernel) ?_
      refine iw_iadd (pc' := 28) (by decide +kernel) ?_
      refine iw_put (pc' := 31) hf ic_fk4 cO_2 lkf_X4_19 (by decide +kernel) (fun m25 hf => ?_)
      refine iw_goto (off := 12) (pc' := 43) (by decide +kernel) ?_
      obtain rfl := Option.some.inj hf
      exact iw_sub [] rfl hjq23
  · exact iw_vreturn rfl (Option.some.inj hf) (by decide +kernel)
set_option maxRecDepth 100000 in
set_option maxHeartbeats 4000000 in
theorem ct_X5_measure (l : Launch) (κ : ic_K) (sw : Nat) (μ : ic_M) (r0 : Nat) (h0 : ic_isO 106 r0 5) (x1 : Int32) (x2 : Int32) (x3 : Int32) {R : ic_M} (hf : fX5_measure μ r0 x1 x2 x3 = some R) : ic_C l κ MX5_measure [ic_rv κ.1 r0, .int x1, .int x2, .int x3] 106 (ic_rs sw) μ none 106 (ic_rs sw) R := by
  refine ic_C.of (L := [(0, ic_rv κ.1 r0), (1, .int x1), (2, .int x2), (3, .int x3)]) ⟨ic_cat _ _, rfl, rfl, rfl, trivial⟩ ⟨by decide +kernel, Nat.le_of_ble_eq_true rfl⟩ rfl ?_
  unfold fX5_measure at hf
  refine iw_aload_n (i := 0) (pc' := 1) 0 rfl (by decide +kernel) ?_
  refine iw_iload_n (i := 1) (pc' := 2) 1 rfl (by decide +kernel) ?_
  refine iw_put (pc' := 5) hf ic_fk5 h0 lkf_X5_27 (by decide +kernel) (fun m21 hf => ?_)
  refine iw_aload_n (i := 0) (pc' := 6) 0 rfl (by decide +kernel) ?_
  refine iw_iload_n (i := 2) (pc' := 7) 2 rfl (by decide +kernel) ?_
  refine iw_put (pc' := 10) hf ic_fk5 h0 lkf_X5_31 (by decide +kernel) (fun m22 hf => ?_)
  refine iw_aload_n (i := 0) (pc' := 11) 0 rfl (by decide +kernel) ?_
  refine iw_iload_n (i := 3) (pc' := 12) 3 rfl (by decide +kernel) ?_
  refine iw_put (pc' := 15) hf ic_fk5 h0 lkf_X5_34 (by decide +kernel) (fun m23 hf => ?_)
  refine iw_aload_n (i := 0) (pc' := 16) 0 rfl (by decide +kernel) ?_
  refine iw_iload_n (i := 1) (pc' := 17) 1 rfl (by decide +kernel) ?_
  refine iw_iload_n (i := 2) (pc' := 18) 2 rfl (by decide +kernel) ?_
  refine iw_imul (pc' := 19) (by decide +kernel) ?_
  refine iw_put (pc' := 22) hf ic_fk5 h0 lkf_X5_37 (by decide +kernel) (fun m24 hf => ?_)
  exact iw_vreturn rfl (Option.some.inj hf) (by decide +kernel)
set_option maxRecDepth 100000 in
set_option maxHeartbeats 4000000 in
theorem ct_X4_readSize (l : Launch) (κ : ic_K) (sw : Nat) (μ : ic_M) (r1 : Nat) (h1 : ic_isO 106 r1 5) {R : ic_M} (hf : fX4_readSize μ r1 = some R) : ic_C l κ MX4_readSize [ic_rv κ.1 2, ic_rv κ.1 r1] 106 (ic_rs sw) μ none 106 (ic_rs sw) R := by
  refine ic_C.of (L := [(0, ic_rv κ.1 2), (1, ic_rv κ.1 r1)]) ⟨ic_cat _ _, ic_cat _ _, trivial⟩ ⟨by decide +kernel, Nat.le_of_ble_eq_true rfl⟩ rfl ?_
  unfold fX4_readSize at hf
  refine iw_aload_n (i := 1) (pc' := 1) 1 rfl (by decide +kernel) ?_
  refine iw_geti (pc' := 4) ic_fk5 h1 lkf_X4_44 (by decide +kernel) ?_
  refine iw_if_eq (off := 13) (tg := 17) (pc' := 7) hf (by decide +kernel) (fun hf => ?_) (fun hf => ?_)
  · refine iw_aload_n (i := 0) (pc' := 18) 0 rfl (by decide +kernel) ?_
    refine iw_dup (pc' := 19) (ic_cat _ _) (by decide +kernel) ?_
    refine iw_geti (pc' := 22) ic_fk4 cO_2 lkf_X4_19 (by decide +kernel) ?_
    refine iw_iconst (i := 1) (v := (1 : Int32)) (pc' := 23) (by decide +kernel) ?_
    refine iw_iadd (pc' := 24) (by decide +kernel) ?_
    refine iw_put (pc' := 27) hf ic_fk4 cO_2 lkf_X4_19 (by decide +kernel) (fun m21 hf => ?_)
    refine iw_aload_n (i := 0) (pc' := 28) 0 rfl (by decide +kernel) ?_
    refine iw_iconst (i := 2) (v := (2 : Int32)) (pc' := 29) (by decide +kernel) ?_
    refine iw_bipush (i := 6) (v := (6 : Int32)) (pc' := 31) (by decide +kernel) ?_
    obtain ⟨q22, hc, hf⟩ := ic_bd hf
    refine iw_callV (pc' := 34) (S0 := []) (S1 := [.int q22.1]) (c1 := 0) (s1 := 0) (k := 2) (ct_X4_readNumber l κ sw m21 (2 : Int32) (6 : Int32) hc) cO_2 ⟨rfl, rfl⟩ mv_X4_readNumber lkm_X4_79 ⟨rfl, rfl⟩ (ic_sum8 trivial (Nat.le_of_ble_eq_true rfl)) (by unfold ic_rm; decide +kernel) ⟨rfl, rfl, rfl⟩ ⟨Nat.le_of_ble_eq_true rfl, Nat.le_of_ble_eq_true rfl⟩ ?_
    refine iw_istore_n0 (i := 2) (pc' := 35) (L' := [(0, ic_rv κ.1 2), (1, ic_rv κ.1 r1), (2, .int q22.1)]) rfl (by decide +kernel) ?_
    refine iw_aload_n (i := 0) (pc' := 36) 0 rfl (by decide +kernel) ?_
    refine iw_iconst (i := 1) (v := (1 : Int32)) (pc' := 37) (by decide +kernel) ?_
    refine iw_iconst (i := 3) (v := (3 : Int32)) (pc' := 38) (by decide +kernel) ?_
    obtain ⟨q23, hc, hf⟩ := ic_bd hf
    refine iw_callV (pc' := 41) (S0 := []) (S1 := [.int q23.1]) (c1 := 0) (s1 := 0) (k := 2) (ct_X4_readNumber l κ sw q22.2 (1 : Int32) (3 : Int32) hc) cO_2 ⟨rfl, rfl⟩ mv_X4_readNumber lkm_X4_79 ⟨rfl, rfl⟩ (ic_sum8 trivial (Nat.le_of_ble_eq_true rfl)) (by unfold ic_rm; decide +kernel) ⟨rfl, rfl, rfl⟩ ⟨Nat.le_of_ble_eq_true rfl, Nat.le_of_ble_eq_true rfl⟩ ?_
    refine iw_istore_n0 (i := 3) (pc' := 42) (L' := [(0, ic_rv κ.1 2), (1, ic_rv κ.1 r1), (2, .int q22.1), (3, .int q23.1)]) rfl (by decide +kernel) ?_
    refine iw_aload_n (i := 0) (pc' := 43) 0 rfl (by decide +kernel) ?_
    refine iw_iconst (i := 1) (v := (1 : Int32)) (pc' := 44) (by decide +kernel) ?_
    refine iw_bipush (i := 30) (v := (30 : Int32)) (pc' := 46) (by decide +kernel) ?_
    obtain ⟨q24, hc, hf⟩ := ic_bd hf
    refine iw_callV (pc' := 49) (S0 := []) (S1 := [.int q24.1]) (c1 := 0) (s1 := 0) (k := 2) (ct_X4_readNumber l κ sw q23.2 (1 : Int32) (30 : Int32) hc) cO_2 ⟨rfl, rfl⟩ mv_X4_readNumber lkm_X4_79 ⟨rfl, rfl⟩ (ic_sum8 trivial (Nat.le_of_ble_eq_true rfl)) (by unfold ic_rm; decide +kernel) ⟨rfl, rfl, rfl⟩ ⟨Nat.le_of_ble_eq_true rfl, Nat.le_of_ble_eq_true rfl⟩ ?_
    refine iw_istore0 (i := 4) (pc' := 51) (L' := [(0, ic_rv κ.1 2), (1, ic_rv κ.1 r1), (2, .int q22.1), (3, .int q23.1), (4, .int q24.1)]) rfl (by decide +kernel) ?_
    refine iw_aload_n (i := 0) (pc' := 52) 0 rfl (by decide +kernel) ?_
    obtain ⟨m25, hc, hf⟩ := ic_bd hf
    refine iw_callV (pc' := 55) (S0 := []) (S1 := []) (c1 := 0) (s1 := 0) (k := 0) (ct_X4_readEnd l κ sw q24.2 hc) cO_2 ⟨rfl, rfl⟩ mv_X4_readEnd lkm_X4_83 ⟨rfl, rfl⟩ (ic_sum8 trivial (Nat.le_of_ble_eq_true rfl)) (by unfold ic_rm; decide +kernel) ⟨rfl, rfl, rfl⟩ ⟨Nat.le_of_ble_eq_true rfl, Nat.le_of_ble_eq_true rfl⟩ ?_
    refine iw_aload_n (i := 0) (pc' := 56) 0 rfl (by decide +kernel) ?_
    refine iw_geti (pc' := 59) ic_fk4 cO_2 lkf_X4_22 (by decide +kernel) ?_
    obtain ⟨q26, hf, hgq26⟩ := ic_bd hf
    have hjq26 : ic_W l κ MX4_readSize ic_X0 (ic_Z κ MX4_readSize none 106 (ic_rs sw) R) 70 [] [] 106 (ic_rs sw) q26 0 0 := by
      have hf := hgq26
      exact iw_vreturn rfl (Option.some.inj hf) (by decide +kernel)
    refine iw_if_ne (off := 11) (tg := 70) (pc' := 62) hf (by decide +kernel) (fun hf => ?_) (fun hf => ?_)
    · obtain rfl := Option.some.inj hf
      exact iw_sub [] rfl hjq26
    · refine iw_aload_n (i := 1) (pc' := 63) 1 rfl (by decide +kernel) ?_
      refine iw_iload_n (i := 2) (pc' := 64) 2 rfl (by decide +kernel) ?_
      refine iw_iload_n (i := 3) (pc' := 65) 3 rfl (by decide +kernel) ?_
      refine iw_iload (i := 4) (pc' := 67) 4 rfl (by decide +kernel) ?_
      obtain ⟨m27, hc, hf⟩ := ic_bd hf
      refine iw_callV (pc' := 70) (S0 := []) (S1 := []) (c1 := 0) (s1 := 0) (k := 3) (ct_X5_measure l κ sw m25 r1 h1 q22.1 q23.1 q24.1 hc) h1 ⟨rfl, rfl⟩ mv_X5_measure lkm_X4_86 ⟨rfl, rfl⟩ (ic_sum8 trivial (Nat.le_of_ble_eq_true rfl)) (by unfold ic_rm; decide +kernel) ⟨rfl, rfl, rfl⟩ ⟨Nat.le_of_ble_eq_true rfl, Nat.le_of_ble_eq_true rfl⟩ ?_
      obtain rfl := Option.some.inj hf
      exact iw_sub [] rfl hjq26
  · refine iw_aload_n (i := 0) (pc' := 8) 0 rfl (by decide +kernel) ?_
    refine iw_iconst (i := 3) (v := (3 : Int32)) (pc' := 9) (by decide +kernel) ?_
    refine iw_aload_n (i := 0) (pc' := 10) 0 rfl (by decide +kernel) ?_
    refine iw_geti (pc' := 13) ic_fk4 cO_2 lkf_X4_19 (by decide +kernel) ?_
    obtain ⟨m28, hc, hf⟩ := ic_bd hf
    refine iw_callV (pc' := 16) (S0 := []) (S1 := []) (c1 := 0) (s1 := 0) (k := 2) (ct_X4_blame l κ sw μ (3 : Int32) (μ 2 1) hc) cO_2 ⟨rfl, rfl⟩ mv_X4_blame lkm_X4_47 ⟨rfl, rfl⟩ (ic_sum8 trivial (Nat.le_of_ble_eq_true rfl)) (by unfold ic_rm; decide +kernel) ⟨rfl, rfl, rfl⟩ ⟨Nat.le_of_ble_eq_true rfl, Nat.le_of_ble_eq_true rfl⟩ ?_
    exact iw_vreturn rfl (Option.some.inj hf) (by decide +kernel)
set_option maxRecDepth 100000 in
set_option maxHeartbeats 4000000 in
theorem lpX4_readList_28_ok (l : Launch) (κ : ic_K) (sw : Nat) (r1_ : Nat) (x3_ : Int32) {Rf : Int32 × ic_M} {R : (Int32 × ic_M) ⊕ (Int32 × ic_M)} (hk : ∀ t, R = .inl t → ic_W l κ MX4_readList ic_X0 (ic_Z κ MX4_readList (some (.int Rf.1)) 106 (ic_rs sw) Rf.2) 91 [(0, ic_rv κ.1 2), (4, .int t.1)] [] 106 (ic_rs sw) t.2 0 0) (hr : ∀ v, R = .inr v → v = Rf) : ∀ (fu : Nat) (y4_ : Int32) (μ : ic_M), lpX4_readList_28 r1_ x3_ fu y4_ μ = some R → ic_W l κ MX4_readList ic_X0 (ic_Z κ MX4_readList (some (.int Rf.1)) 106 (ic_rs sw) Rf.2) 28 [(0, ic_rv κ.1 2), (1, ic_rv κ.1 r1_), (3, .int x3_), (4, .int y4_)] [] 106 (ic_rs sw) μ 0 0 := by
  intro fu
  induction fu with
  | zero =>
    intro y4_ μ hf
    exact absurd hf (by simp [lpX4_readList_28])
  | succ fu ih =>
    intro y4_ μ hf
    rw [lpX4_readList_28] at hf
    refine iw_iload (i := 4) (pc' := 30) 3 rfl (by decide +kernel) ?_
    refine iw_aload_n (i := 1) (pc' := 31) 1 rfl (by decide +kernel) ?_
    obtain ⟨h29, hf⟩ := ic_ln_of hf
    refine iw_alen (pc' := 32) (v := (Int32.ofNat (ic_il 106 r1_))) h29 rfl (by decide +kernel) ?_
    refine iw_icmp_ge (off := 59) (tg := 91) (pc' := 35) hf (by decide +kernel) (fun hf => ?_) (fun hf => ?_)
    · exact iw_sub [0, 3] rfl (hk _ (Option.some.inj hf).symm)
    · refine iw_aload_n (i := 0) (pc' := 36) 0 rfl (by decide +kernel) ?_
      refine iw_geti (pc' := 39) ic_fk4 cO_2 lkf_X4_22 (by decide +kernel) ?_
      refine iw_if_ne (off := 52) (tg := 91) (pc' := 42) hf (by decide +kernel) (fun hf => ?_) (fun hf => ?_)
      · exact iw_sub [0, 3] rfl (hk _ (Option.some.inj hf).symm)
      · refine iw_aload_n (i := 1) (pc' := 43) 1 rfl (by decide +kernel) ?_
        refine iw_iload (i := 4) (pc' := 45) 3 rfl (by decide +kernel) ?_
        refine iw_aload_n (i := 0) (pc' := 46) 0 rfl (by decide +kernel) ?_
        refine iw_iconst (i := 0) (v := (0 : Int32)) (pc' := 47) (by decide +kernel) ?_
        refine iw_iload_n (i := 3) (pc' := 48) 2 rfl (by decide +kernel) ?_
        obtain ⟨q22, hc, hf⟩ := ic_bd hf
        refine iw_callV (pc' := 51) (S0 := [.int y4_, ic_rv κ.1 r1_]) (S1 := [.int q22.1, .int y4_, ic_rv κ.1 r1_]) (c1 := 0) (s1 := 0) (k := 2) (ct_X4_readNumber l κ sw μ (0 : Int32) x3_ hc) cO_2 ⟨rfl, rfl⟩ mv_X4_readNumber lkm_X4_79 ⟨rfl, rfl⟩ (ic_sum8 ⟨rfl, ic_cat _ _, trivial⟩ (Nat.le_of_ble_eq_true rfl)) (by unfold ic_rm; decide +kernel) ⟨rfl, rfl, rfl⟩ ⟨Nat.le_of_ble_eq_true rfl, Nat.le_of_ble_eq_true rfl⟩ ?_
        refine iw_iast (pc' := 52) hf (fun h => ic_il_is h) (by decide +kernel) (fun m23 hf => ?_)
        refine iw_iinc (i := 4) (d := 1) (pc' := 55) (v := (1 : Int32)) (L1 := fun x24 => [(0, ic_rv κ.1 2), (1, ic_rv κ.1 r1_), (3, .int x3_), (4, .int x24)]) hf 3 rfl (fun _ => rfl) (by decide +kernel) (fun x24 hf => ?_)
        refine iw_aload_n (i := 0) (pc' := 56) 0 rfl (by decide +kernel) ?_
        obtain ⟨m25, hc, hf⟩ := ic_bd hf
        refine iw_callV (pc' := 59) (S0 := []) (S1 := []) (c1 := 0) (s1 := 0) (k := 0) (ct_X4_skipBlanks l κ sw m23 hc) cO_2 ⟨rfl, rfl⟩ mv_X4_skipBlanks lkm_X4_33 ⟨rfl, rfl⟩ (ic_sum8 trivial (Nat.le_of_ble_eq_true rfl)) (by unfold ic_rm; decide +kernel) ⟨rfl, rfl, rfl⟩ ⟨Nat.le_of_ble_eq_true rfl, Nat.le_of_ble_eq_true rfl⟩ ?_
        refine iw_aload_n (i := 0) (pc' := 60) 0 rfl (by decide +kernel) ?_
        obtain ⟨v26, hc, hf⟩ := ic_bd hf
        refine iw_callV (pc' := 63) (S0 := []) (S1 := [.int v26]) (c1 := 0) (s1 := 0) (k := 0) (ct_X4_sign l κ sw m25 hc) cO_2 ⟨rfl, rfl⟩ mv_X4_sign lkm_X4_36 ⟨rfl, rfl⟩ (ic_sum8 trivial (Nat.le_of_ble_eq_true rfl)) (by unfold ic_rm; decide +kernel) ⟨rfl, rfl, rfl⟩ ⟨Nat.le_of_ble_eq_true rfl, Nat.le_of_ble_eq_true rfl⟩ ?_
        refine iw_bipush (i := 44) (v := (44 : Int32)) (pc' := 65) (by decide +kernel) ?_
        refine iw_icmp_ne (off := 26) (tg := 91) (pc' := 68) hf (by decide +kernel) (fun hf => ?_) (fun hf => ?_)
        · exact iw_sub [0, 3] rfl (hk _ (Option.some.inj hf).symm)
        · refine iw_iload (i := 4) (pc' := 70) 3 rfl (by decide +kernel) ?_
          refine iw_aload_n (i := 1) (pc' := 71) 1 rfl (by decide +kernel) ?_
          obtain ⟨h28, hf⟩ := ic_ln_of hf
          refine iw_alen (pc' := 72) (v := (Int32.ofNat (ic_il 106 r1_))) h28 rfl (by decide +kernel) ?_
          refine iw_icmp_ne (off := 6) (tg := 78) (pc' := 75) hf (by decide +kernel) (fun hf => ?_) (fun hf => ?_)
          · refine iw_aload_n (i := 0) (pc' := 79) 0 rfl (by decide +kernel) ?_
            refine iw_dup (pc' := 80) (ic_cat _ _) (by decide +kernel) ?_
            refine iw_geti (pc' := 83) ic_fk4 cO_2 lkf_X4_19 (by decide +kernel) ?_
            refine iw_iconst (i := 1) (v := (1 : Int32)) (pc' := 84) (by decide +kernel) ?_
            refine iw_iadd (pc' := 85) (by decide +kernel) ?_
            refine iw_put (pc' := 88) hf ic_fk4 cO_2 lkf_X4_19 (by decide +kernel) (fun m27 hf => ?_)
            refine iw_goto (off := (-60)) (pc' := 28) (by decide +kernel) ?_
            exact iw_sub [0, 1, 2, 3] rfl (ih _ _ hf)
          · refine iw_goto (off := 16) (pc' := 91) (by decide +kernel) ?_
            exact iw_sub [0, 3] rfl (hk _ (Option.some.inj hf).symm)
set_option maxRecDepth 100000 in
set_option maxHeartbeats 4000000 in
theorem ct_X4_readList (l : Launch) (κ : ic_K) (sw : Nat) (μ : ic_M) (r1 : Nat) (x2 : Int32) (x3 : Int32) {R : Int32 × ic_M} (hf : fX4_readList μ r1 x2 x3 = some R) : ic_C l κ MX4_readList [ic_rv κ.1 2, ic_rv κ.1 r1, .int x2, .int x3] 106 (ic_rs sw) μ (some (.int R.1)) 106 (ic_rs sw) R.2 := by
  refine ic_C.of (L := [(0, ic_rv κ.1 2), (1, ic_rv κ.1 r1), (2, .int x2), (3, .int x3)]) ⟨ic_cat _ _, ic_cat _ _, rfl, rfl, trivial⟩ ⟨by decide +kernel, Nat.le_of_ble_eq_true rfl⟩ rfl ?_
  unfold fX4_readList at hf
  refine iw_iload_n (i := 2) (pc' := 1) 2 rfl (by decide +kernel) ?_
  refine iw_if_eq (off := 14) (tg := 15) (pc' := 4) hf (by decide +kernel) (fun hf => ?_) (fun hf => ?_)
  · refine iw_aload_n (i := 0) (pc' := 16) 0 rfl (by decide +kernel) ?_
    refine iw_dup (pc' := 17) (ic_cat _ _) (by decide +kernel) ?_
    refine iw_geti (pc' := 20) ic_fk4 cO_2 lkf_X4_19 (by decide +kernel) ?_
    refine iw_iconst (i := 1) (v := (1 : Int32)) (pc' := 21) (by decide +kernel) ?_
    refine iw_iadd (pc' := 22) (by decide +kernel) ?_
    refine iw_put (pc' := 25) hf ic_fk4 cO_2 lkf_X4_19 (by decide +kernel) (fun m21 hf => ?_)
    refine iw_iconst (i := 0) (v := (0 : Int32)) (pc' := 26) (by decide +kernel) ?_
    refine iw_istore0 (i := 4) (pc' := 28) (L' := [(0, ic_rv κ.1 2), (1, ic_rv κ.1 r1), (2, .int x2), (3, .int x3), (4, .int (0 : Int32))]) rfl (by decide +kernel) ?_
    obtain ⟨q30, hf, hgq30⟩ := ic_bd hf
    refine iw_sub [0, 1, 3, 4] rfl (lpX4_readList_28_ok l κ sw r1 x3 (R := q30) (fun t31 e => ?_) (fun v e => ?_) 1000 (0 : Int32) m21 hf)
    · subst e
      simp only [Sum.elim_inl] at hgq30
      have hf := hgq30
      refine iw_aload_n (i := 0) (pc' := 92) 0 rfl (by decide +kernel) ?_
      obtain ⟨m32, hc, hf⟩ := ic_bd hf
      refine iw_callV (pc' := 95) (S0 := []) (S1 := []) (c1 := 0) (s1 := 0) (k := 0) (ct_X4_readEnd l κ sw t31.2 hc) cO_2 ⟨rfl, rfl⟩ mv_X4_readEnd lkm_X4_83 ⟨rfl, rfl⟩ (ic_sum8 trivial (Nat.le_of_ble_eq_true rfl)) (by unfold ic_rm; decide +kernel) ⟨rfl, rfl, rfl⟩ ⟨Nat.le_of_ble_eq_true rfl, Nat.le_of_ble_eq_true rfl⟩ ?_
      refine iw_iload (i := 4) (pc' := 97) 1 rfl (by decide +kernel) ?_
      exact iw_ireturn (ic_q1 (Option.some.inj hf)) rfl (ic_q2 (Option.some.inj hf)) (by decide +kernel)
    · subst e
      simp only [Sum.elim_inr] at hgq30
      exact Option.some.inj hgq30
  · refine iw_aload_n (i := 0) (pc' := 5) 0 rfl (by decide +kernel) ?_
    refine iw_iconst (i := 3) (v := (3 : Int32)) (pc' := 6) (by decide +kernel) ?_
    refine iw_aload_n (i := 0) (pc' := 7) 0 rfl (by decide +kernel) ?_
    refine iw_geti (pc' := 10) ic_fk4 cO_2 lkf_X4_19 (by decide +kernel) ?_
    obtain ⟨m33, hc, hf⟩ := ic_bd hf
    refine iw_callV (pc' := 13) (S0 := []) (S1 := []) (c1 := 0) (s1 := 0) (k := 2) (ct_X4_blame l κ sw μ (3 : Int32) (μ 2 1) hc) cO_2 ⟨rfl, rfl⟩ mv_X4_blame lkm_X4_47 ⟨rfl, rfl⟩ (ic_sum8 trivial (Nat.le_of_ble_eq_true rfl)) (by unfold ic_rm; decide +kernel) ⟨rfl, rfl, rfl⟩ ⟨Nat.le_of_ble_eq_true rfl, Nat.le_of_ble_eq_true rfl⟩ ?_
    refine iw_iload_n (i := 2) (pc' := 14) 2 rfl (by decide +kernel) ?_
    exact iw_ireturn (ic_q1 (Option.some.inj hf)) rfl (ic_q2 (Option.some.inj hf)) (by decide +kernel)
set_option maxRecDepth 100000 in
set_option maxHeartbeats 4000000 in
theorem ct_X5_addPerson (l : Launch) (κ : ic_K) (sw : Nat) (μ : ic_M) (r0 : Nat) (h0 : ic_isO 106 r0 5) (x1 : Int32) (x2 : Int32) {R : ic_M} (hf : fX5_addPerson μ r0 x1 x2 = some R) : ic_C l κ MX5_addPerson [ic_rv κ.1 r0, .int x1, .int x2] 106 (ic_rs sw) μ none 106 (ic_rs sw) R := by
  refine ic_C.of (L := [(0, ic_rv κ.1 r0), (1, .int x1), (2, .int x2)]) ⟨ic_cat _ _, rfl, rfl, trivial⟩ ⟨by decide +kernel, Nat.le_of_ble_eq_true rfl⟩ rfl ?_
  unfold fX5_addPerson at hf
  refine iw_aload_n (i := 0) (pc' := 1) 0 rfl (by decide +kernel) ?_
  refine iw_geti (pc' := 4) ic_fk5 h0 lkf_X5_40 (by decide +kernel) ?_
  obtain ⟨q21, hf, hgq21⟩ := ic_bd hf
  have hjq21 : ic_W l κ MX5_addPerson ic_X0 (ic_Z κ MX5_addPerson none 106 (ic_rs sw) R) 61 [] [] 106 (ic_rs sw) q21 0 0 := by
    have hf := hgq21
    exact iw_vreturn rfl (Option.some.inj hf) (by decide +kernel)
  refine iw_if_lt (off := 57) (tg := 61) (pc' := 7) hf (by decide +kernel) (fun hf => ?_) (fun hf => ?_)
  · obtain rfl := Option.some.inj hf
    exact iw_sub [] rfl hjq21
  · refine iw_aload_n (i := 0) (pc' := 8) 0 rfl (by decide +kernel) ?_
    refine iw_geti (pc' := 11) ic_fk5 h0 lkf_X5_40 (by decide +kernel) ?_
    refine iw_aload_n (i := 0) (pc' := 12) 0 rfl (by decide +kernel) ?_
    refine iw_getr (pc' := 15) (q := (r0 + 4)) ic_fk5 h0 (ic_rs_o h0 (by decide)) lkf_X5_21 (by decide +kernel) ?_
    refine iw_alen (pc' := 16) (v := (6 : Int32)) (ic_riv4 h0) rfl (by decide +kernel) ?_
    refine iw_icmp_ge (off := 45) (tg := 61) (pc' := 19) hf (by decide +kernel) (fun hf => ?_) (fun hf => ?_)
    · obtain rfl := Option.some.inj hf
      exact iw_sub [] rfl hjq21
    · refine iw_aload_n (i := 0) (pc' := 20) 0 rfl (by decide +kernel) ?_
      refine iw_geti (pc' := 23) ic_fk5 h0 lkf_X5_40 (by decide +kernel) ?_
      refine iw_aload_n (i := 0) (pc' := 24) 0 rfl (by decide +kernel) ?_
      refine iw_getr (pc' := 27) (q := (r0 + 5)) ic_fk5 h0 (ic_rs_o h0 (by decide)) lkf_X5_24 (by decide +kernel) ?_
      refine iw_alen (pc' := 28) (v := (6 : Int32)) (ic_riv5 h0) rfl (by decide +kernel) ?_
      refine iw_icmp_ge (off := 33) (tg := 61) (pc' := 31) hf (by decide +kernel) (fun hf => ?_) (fun hf => ?_)
      · obtain rfl := Option.some.inj hf
        exact iw_sub [] rfl hjq21
      · refine iw_aload_n (i := 0) (pc' := 32) 0 rfl (by decide +kernel) ?_
        refine iw_getr (pc' := 35) (q := (r0 + 4)) ic_fk5 h0 (ic_rs_o h0 (by decide)) lkf_X5_21 (by decide +kernel) ?_
        refine iw_aload_n (i := 0) (pc' := 36) 0 rfl (by decide +kernel) ?_
        refine iw_geti (pc' := 39) ic_fk5 h0 lkf_X5_40 (by decide +kernel) ?_
        refine iw_iload_n (i := 1) (pc' := 40) 1 rfl (by decide +kernel) ?_
        refine iw_iast (pc' := 41) hf (fun _ => (ic_riv4 h0)) (by decide +kernel) (fun m22 hf => ?_)
        refine iw_aload_n (i := 0) (pc' := 42) 0 rfl (by decide +kernel) ?_
        refine iw_getr (pc' := 45) (q := (r0 + 5)) ic_fk5 h0 (ic_rs_o h0 (by decide)) lkf_X5_24 (by decide +kernel) ?_
        refine iw_aload_n (i := 0) (pc' := 46) 0 rfl (by decide +kernel) ?_
        refine iw_geti (pc' := 49) ic_fk5 h0 lkf_X5_40 (by decide +kernel) ?_
        refine iw_iload_n (i := 2) (pc' := 50) 2 rfl (by decide +kernel) ?_
        refine iw_iast (pc' := 51) hf (fun _ => (ic_riv5 h0)) (by decide +kernel) (fun m23 hf => ?_)
        refine iw_aload_n (i := 0) (pc' := 52) 0 rfl (by decide +kernel) ?_
        refine iw_dup (pc' := 53) (ic_cat _ _) (by decide +kernel) ?_
        refine iw_geti (pc' := 56) ic_fk5 h0 lkf_X5_40 (by decide +kernel) ?_
        refine iw_iconst (i := 1) (v := (1 : Int32)) (pc' := 57) (by decide +kernel) ?_
        refine iw_iadd (pc' := 58) (by decide +kernel) ?_
        refine iw_put (pc' := 61) hf ic_fk5 h0 lkf_X5_40 (by decide +kernel) (fun m24 hf => ?_)
        obtain rfl := Option.some.inj hf
        exact iw_sub [] rfl hjq21
set_option maxRecDepth 100000 in
set_option maxHeartbeats 4000000 in
theorem ct_X4_readPerson (l : Launch) (κ : ic_K) (sw : Nat) (μ : ic_M) (r1 : Nat) (h1 : ic_isO 106 r1 5) {R : ic_M} (hf : fX4_readPerson μ r1 = some R) : ic_C l κ MX4_readPerson [ic_rv κ.1 2, ic_rv κ.1 r1] 106 (ic_rs sw) μ none 106 (ic_rs sw) R := by
  refine ic_C.of (L := [(0, ic_rv κ.1 2), (1, ic_rv κ.1 r1)]) ⟨ic_cat _ _, ic_cat _ _, trivial⟩ ⟨by decide +kernel, Nat.le_of_ble_eq_true rfl⟩ rfl ?_
  unfold fX4_readPerson at hf
  refine iw_aload_n (i := 1) (pc' := 1) 1 rfl (by decide +kernel) ?_
  refine iw_geti (pc' := 4) ic_fk5 h1 lkf_X4_90 (by decide +kernel) ?_
  refine iw_bipush (i := 6) (v := (6 : Int32)) (pc' := 6) (by decide +kernel) ?_
  refine iw_icmp_lt (off := 13) (tg := 19) (pc' := 9) hf (by decide +kernel) (fun hf => ?_) (fun hf => ?_)
  · refine iw_aload_n (i := 0) (pc' := 20) 0 rfl (by decide +kernel) ?_
    refine iw_dup (pc' := 21) (ic_cat _ _) (by decide +kernel) ?_
    refine iw_geti (pc' := 24) ic_fk4 cO_2 lkf_X4_19 (by decide +kernel) ?_
    refine iw_iconst (i := 1) (v := (1 : Int32)) (pc' := 25) (by decide +kernel) ?_
    refine iw_iadd (pc' := 26) (by decide +kernel) ?_
    refine iw_put (pc' := 29) hf ic_fk4 cO_2 lkf_X4_19 (by decide +kernel) (fun m21 hf => ?_)
    refine iw_aload_n (i := 0) (pc' := 30) 0 rfl (by decide +kernel) ?_
    refine iw_iconst (i := 0) (v := (0 : Int32)) (pc' := 31) (by decide +kernel) ?_
    refine iw_iconst (i := 1) (v := (1 : Int32)) (pc' := 32) (by decide +kernel) ?_
    obtain ⟨q22, hc, hf⟩ := ic_bd hf
    refine iw_callV (pc' := 35) (S0 := []) (S1 := [.int q22.1]) (c1 := 0) (s1 := 0) (k := 2) (ct_X4_readNumber l κ sw m21 (0 : Int32) (1 : Int32) hc) cO_2 ⟨rfl, rfl⟩ mv_X4_readNumber lkm_X4_79 ⟨rfl, rfl⟩ (ic_sum8 trivial (Nat.le_of_ble_eq_true rfl)) (by unfold ic_rm; decide +kernel) ⟨rfl, rfl, rfl⟩ ⟨Nat.le_of_ble_eq_true rfl, Nat.le_of_ble_eq_true rfl⟩ ?_
    refine iw_istore_n0 (i := 2) (pc' := 36) (L' := [(0, ic_rv κ.1 2), (1, ic_rv κ.1 r1), (2, .int q22.1)]) rfl (by decide +kernel) ?_
    refine iw_aload_n (i := 0) (pc' := 37) 0 rfl (by decide +kernel) ?_
    refine iw_iconst (i := 1) (v := (1 : Int32)) (pc' := 38) (by decide +kernel) ?_
    refine iw_sipush (i := 200) (v := (200 : Int32)) (pc' := 41) (by decide +kernel) ?_
    obtain ⟨q23, hc, hf⟩ := ic_bd hf
    refine iw_callV (pc' := 44) (S0 := []) (S1 := [.int q23.1]) (c1 := 0) (s1 := 0) (k := 2) (ct_X4_readNumber l κ sw q22.2 (1 : Int32) (200 : Int32) hc) cO_2 ⟨rfl, rfl⟩ mv_X4_readNumber lkm_X4_79 ⟨rfl, rfl⟩ (ic_sum8 trivial (Nat.le_of_ble_eq_true rfl)) (by unfold ic_rm; decide +kernel) ⟨rfl, rfl, rfl⟩ ⟨Nat.le_of_ble_eq_true rfl, Nat.le_of_ble_eq_true rfl⟩ ?_
    refine iw_istore_n0 (i := 3) (pc' := 45) (L' := [(0, ic_rv κ.1 2), (1, ic_rv κ.1 r1), (2, .int q22.1), (3, .int q23.1)]) rfl (by decide +kernel) ?_
    refine iw_aload_n (i := 0) (pc' := 46) 0 rfl (by decide +kernel) ?_
    obtain ⟨m24, hc, hf⟩ := ic_bd hf
    refine iw_callV (pc' := 49) (S0 := []) (S1 := []) (c1 := 0) (s1 := 0) (k := 0) (ct_X4_readEnd l κ sw q23.2 hc) cO_2 ⟨rfl, rfl⟩ mv_X4_readEnd lkm_X4_83 ⟨rfl, rfl⟩ (ic_sum8 trivial (Nat.le_of_ble_eq_true rfl)) (by unfold ic_rm; decide +kernel) ⟨rfl, rfl, rfl⟩ ⟨Nat.le_of_ble_eq_true rfl, Nat.le_of_ble_eq_true rfl⟩ ?_
    refine iw_aload_n (i := 0) (pc' := 50) 0 rfl (by decide +kernel) ?_
    refine iw_geti (pc' := 53) ic_fk4 cO_2 lkf_X4_22 (by decide +kernel) ?_
    obtain ⟨q25, hf, hgq25⟩ := ic_bd hf
    have hjq25 : ic_W l κ MX4_readPerson ic_X0 (ic_Z κ MX4_readPerson none 106 (ic_rs sw) R) 62 [] [] 106 (ic_rs sw) q25 0 0 := by
      have hf := hgq25
      exact iw_vreturn rfl (Option.some.inj hf) (by decide +kernel)
    refine iw_if_ne (off := 9) (tg := 62) (pc' := 56) hf (by decide +kernel) (fun hf => ?_) (fun hf => ?_)
    · obtain rfl := Option.some.inj hf
      exact iw_sub [] rfl hjq25
    · refine iw_aload_n (i := 1) (pc' := 57) 1 rfl (by decide +kernel) ?_
      refine iw_iload_n (i := 2) (pc' := 58) 2 rfl (by decide +kernel) ?_
      refine iw_iload_n (i := 3) (pc' := 59) 3 rfl (by decide +kernel) ?_
      obtain ⟨m26, hc, hf⟩ := ic_bd hf
      refine iw_callV (pc' := 62) (S0 := []) (S1 := []) (c1 := 0) (s1 := 0) (k := 2) (ct_X5_addPerson l κ sw m24 r1 h1 q22.1 q23.1 hc) h1 ⟨rfl, rfl⟩ mv_X5_addPerson lkm_X4_93 ⟨rfl, rfl⟩ (ic_sum8 trivial (Nat.le_of_ble_eq_true rfl)) (by unfold ic_rm; decide +kernel) ⟨rfl, rfl, rfl⟩ ⟨Nat.le_of_ble_eq_true rfl, Nat.le_of_ble_eq_true rfl⟩ ?_
      obtain rfl := Option.some.inj hf
      exact iw_sub [] rfl hjq25
  · refine iw_aload_n (i := 0) (pc' := 10) 0 rfl (by decide +kernel) ?_
    refine iw_iconst (i := 3) (v := (3 : Int32)) (pc' := 11) (by decide +kernel) ?_
    refine iw_aload_n (i := 0) (pc' := 12) 0 rfl (by decide +kernel) ?_
    refine iw_geti (pc' := 15) ic_fk4 cO_2 lkf_X4_19 (by decide +kernel) ?_
    obtain ⟨m27, hc, hf⟩ := ic_bd hf
    refine iw_callV (pc' := 18) (S0 := []) (S1 := []) (c1 := 0) (s1 := 0) (k := 2) (ct_X4_blame l κ sw μ (3 : Int32) (μ 2 1) hc) cO_2 ⟨rfl, rfl⟩ mv_X4_blame lkm_X4_47 ⟨rfl, rfl⟩ (ic_sum8 trivial (Nat.le_of_ble_eq_true rfl)) (by unfold ic_rm; decide +kernel) ⟨rfl, rfl, rfl⟩ ⟨Nat.le_of_ble_eq_true rfl, Nat.le_of_ble_eq_true rfl⟩ ?_
    exact iw_vreturn rfl (Option.some.inj hf) (by decide +kernel)
set_option maxRecDepth 100000 in
set_option maxHeartbeats 4000000 in
theorem ct_X4_readClause (l : Launch) (κ : ic_K) (sw : Nat) (μ : ic_M) (r1 : Nat) (h1 : ic_isO 106 r1 5) {R : ic_M} (hf : fX4_readClause μ r1 = some R) : ic_C l κ MX4_readClause [ic_rv κ.1 2, ic_rv κ.1 r1] 106 (ic_rs sw) μ none 106 (ic_rs sw) R := by
  refine ic_C.of (L := [(0, ic_rv κ.1 2), (1, ic_rv κ.1 r1)]) ⟨ic_cat _ _, ic_cat _ _, trivial⟩ ⟨by decide +kernel, Nat.le_of_ble_eq_true rfl⟩ rfl ?_
  unfold fX4_readClause at hf
  refine iw_aload_n (i := 0) (pc' := 1) 0 rfl (by decide +kernel) ?_
  obtain ⟨v21, hc, hf⟩ := ic_bd hf
  refine iw_callV (pc' := 4) (S0 := []) (S1 := [.int v21]) (c1 := 0) (s1 := 0) (k := 0) (ct_X4_sign l κ sw μ hc) cO_2 ⟨rfl, rfl⟩ mv_X4_sign lkm_X4_36 ⟨rfl, rfl⟩ (ic_sum8 trivial (Nat.le_of_ble_eq_true rfl)) (by unfold ic_rm; decide +kernel) ⟨rfl, rfl, rfl⟩ ⟨Nat.le_of_ble_eq_true rfl, Nat.le_of_ble_eq_true rfl⟩ ?_
  refine iw_istore_n0 (i := 2) (pc' := 5) (L' := [(0, ic_rv κ.1 2), (1, ic_rv κ.1 r1), (2, .int v21)]) rfl (by decide +kernel) ?_
  refine iw_aload_n (i := 1) (pc' := 6) 1 rfl (by decide +kernel) ?_
  refine iw_geti (pc' := 9) ic_fk5 h1 lkf_X4_44 (by decide +kernel) ?_
  refine iw_if_ne (off := 19) (tg := 28) (pc' := 12) hf (by decide +kernel) (fun hf => ?_) (fun hf => ?_)
  · refine iw_iload_n (i := 2) (pc' := 29) 2 rfl (by decide +kernel) ?_
    obtain ⟨q22, hf, hgq22⟩ := ic_bd hf
    have hjq22 : ic_W l κ MX4_readClause ic_X0 (ic_Z κ MX4_readClause none 106 (ic_rs sw) R) 168 [] [] 106 (ic_rs sw) q22 0 0 := by
      have hf := hgq22
      exact iw_vreturn rfl (Option.some.inj hf) (by decide +kernel)
    refine iw_case hf (fun hx hf => ?_) (fun hn0 hf => ?_)
    · refine iw_lookupIn (v := (99 : Int32)) (dflt := 130) (ps := #[(99, 80), (110, 101), (112, 122), (114, 51), (116, 59)]) (len := 51) (off := 80) (tg := 109) hx (by decide +kernel) ?_
      refine iw_aload_n (i := 1) (pc' := 110) 1 rfl (by decide +kernel) ?_
      refine iw_aload_n (i := 0) (pc' := 111) 0 rfl (by decide +kernel) ?_
      refine iw_aload_n (i := 1) (pc' := 112) 1 rfl (by decide +kernel) ?_
      refine iw_getr (pc' := 115) (q := (r1 + 2)) ic_fk5 h1 (ic_rs_o h1 (by decide)) lkf_X4_64 (by decide +kernel) ?_
      refine iw_aload_n (i := 1) (pc' := 116) 1 rfl (by decide +kernel) ?_
      refine iw_geti (pc' := 119) ic_fk5 h1 lkf_X4_67 (by decide +kernel) ?_
      refine iw_bipush (i := 9) (v := (9 : Int32)) (pc' := 121) (by decide +kernel) ?_
      obtain ⟨q23, hc, hf⟩ := ic_bd hf
      refine iw_callV (pc' := 124) (S0 := [ic_rv κ.1 r1]) (S1 := [.int q23.1, ic_rv κ.1 r1]) (c1 := 0) (s1 := 0) (k := 3) (ct_X4_readList l κ sw μ (r1 + 2) (μ r1 6) (9 : Int32) hc) cO_2 ⟨rfl, rfl⟩ mv_X4_readList lkm_X4_60 ⟨rfl, rfl⟩ (ic_sum8 ⟨ic_cat _ _, trivial⟩ (Nat.le_of_ble_eq_true rfl)) (by unfold ic_rm; decide +kernel) ⟨rfl, rfl, rfl⟩ ⟨Nat.le_of_ble_eq_true rfl, Nat.le_of_ble_eq_true rfl⟩ ?_
      refine iw_put (pc' := 127) hf ic_fk5 h1 lkf_X4_67 (by decide +kernel) (fun m24 hf => ?_)
      refine iw_goto (off := 41) (pc' := 168) (by decide +kernel) ?_
      obtain rfl := Option.some.inj hf
      exact iw_sub [] rfl hjq22
    · refine iw_case hf (fun hx hf => ?_) (fun hn1 hf => ?_)
      · refine iw_lookupIn (v := (110 : Int32)) (dflt := 130) (ps := #[(99, 80), (110, 101), (112, 122), (114, 51), (116, 59)]) (len := 51) (off := 101) (tg := 130) hx (by decide +kernel) ?_
        refine iw_aload_n (i := 1) (pc' := 131) 1 rfl (by decide +kernel) ?_
        refine iw_aload_n (i := 0) (pc' := 132) 0 rfl (by decide +kernel) ?_
        refine iw_aload_n (i := 1) (pc' := 133) 1 rfl (by decide +kernel) ?_
        refine iw_getr (pc' := 136) (q := (r1 + 3)) ic_fk5 h1 (ic_rs_o h1 (by decide)) lkf_X4_70 (by decide +kernel) ?_
        refine iw_aload_n (i := 1) (pc' := 137) 1 rfl (by decide +kernel) ?_
        refine iw_geti (pc' := 140) ic_fk5 h1 lkf_X4_73 (by decide +kernel) ?_
        refine iw_bipush (i := 20) (v := (20 : Int32)) (pc' := 142) (by decide +kernel) ?_
        obtain ⟨q25, hc, hf⟩ := ic_bd hf
        refine iw_callV (pc' := 145) (S0 := [ic_rv κ.1 r1]) (S1 := [.int q25.1, ic_rv κ.1 r1]) (c1 := 0) (s1 := 0) (k := 3) (ct_X4_readList l κ sw μ (r1 + 3) (μ r1 7) (20 : Int32) hc) cO_2 ⟨rfl, rfl⟩ mv_X4_readList lkm_X4_60 ⟨rfl, rfl⟩ (ic_sum8 ⟨ic_cat _ _, trivial⟩ (Nat.le_of_ble_eq_true rfl)) (by unfold ic_rm; decide +kernel) ⟨rfl, rfl, rfl⟩ ⟨Nat.le_of_ble_eq_true rfl, Nat.le_of_ble_eq_true rfl⟩ ?_
        refine iw_put (pc' := 148) hf ic_fk5 h1 lkf_X4_73 (by decide +kernel) (fun m26 hf => ?_)
        refine iw_goto (off := 20) (pc' := 168) (by decide +kernel) ?_
        obtain rfl := Option.some.inj hf
        exact iw_sub [] rfl hjq22
      · refine iw_case hf (fun hx hf => ?_) (fun hn2 hf => ?_)
        · refine iw_lookupIn (v := (112 : Int32)) (dflt := 130) (ps := #[(99, 80), (110, 101), (112, 122), (114, 51), (116, 59)]) (len := 51) (off := 122) (tg := 151) hx (by decide +kernel) ?_
          refine iw_aload_n (i := 0) (pc' := 152) 0 rfl (by decide +kernel) ?_
          refine iw_aload_n (i := 1) (pc' := 153) 1 rfl (by decide +kernel) ?_
          obtain ⟨m27, hc, hf⟩ := ic_bd hf
          refine iw_callV (pc' := 156) (S0 := []) (S1 := []) (c1 := 0) (s1 := 0) (k := 1) (ct_X4_readPerson l κ sw μ r1 h1 hc) cO_2 ⟨rfl, rfl⟩ mv_X4_readPerson lkm_X4_76 ⟨rfl, rfl⟩ (ic_sum8 trivial (Nat.le_of_ble_eq_true rfl)) (by unfold ic_rm; decide +kernel) ⟨rfl, rfl, rfl⟩ ⟨Nat.le_of_ble_eq_true rfl, Nat.le_of_ble_eq_true rfl⟩ ?_
          refine iw_goto (off := 12) (pc' := 168) (by decide +kernel) ?_
          obtain rfl := Option.some.inj hf
          exact iw_sub [] rfl hjq22
        · refine iw_case hf (fun hx hf => ?_) (fun hn3 hf => ?_)
          · refine iw_lookupIn (v := (114 : Int32)) (dflt := 130) (ps := #[(99, 80), (110, 101), (112, 122), (114, 51), (116, 59)]) (len := 51) (off := 51) (tg := 80) hx (by decide +kernel) ?_
            refine iw_aload_n (i := 0) (pc' := 81) 0 rfl (by decide +kernel) ?_
            refine iw_aload_n (i := 1) (pc' := 82) 1 rfl (by decide +kernel) ?_
            obtain ⟨m28, hc, hf⟩ := ic_bd hf
            refine iw_callV (pc' := 85) (S0 := []) (S1 := []) (c1 := 0) (s1 := 0) (k := 1) (ct_X4_readSize l κ sw μ r1 h1 hc) cO_2 ⟨rfl, rfl⟩ mv_X4_readSize lkm_X4_51 ⟨rfl, rfl⟩ (ic_sum8 trivial (Nat.le_of_ble_eq_true rfl)) (by unfold ic_rm; decide +kernel) ⟨rfl, rfl, rfl⟩ ⟨Nat.le_of_ble_eq_true rfl, Nat.le_of_ble_eq_true rfl⟩ ?_
            refine iw_goto (off := 83) (pc' := 168) (by decide +kernel) ?_
            obtain rfl := Option.some.inj hf
            exact iw_sub [] rfl hjq22
          · refine iw_case hf (fun hx hf => ?_) (fun hn4 hf => ?_)
            · refine iw_lookupIn (v := (116 : Int32)) (dflt := 130) (ps := #[(99, 80), (110, 101), (112, 122), (114, 51), (116, 59)]) (len := 51) (off := 59) (tg := 88) hx (by decide +kernel) ?_
              refine iw_aload_n (i := 1) (pc' := 89) 1 rfl (by decide +kernel) ?_
              refine iw_aload_n (i := 0) (pc' := 90) 0 rfl (by decide +kernel) ?_
              refine iw_aload_n (i := 1) (pc' := 91) 1 rfl (by decide +kernel) ?_
              refine iw_getr (pc' := 94) (q := (r1 + 1)) ic_fk5 h1 (ic_rs_o h1 (by decide)) lkf_X4_54 (by decide +kernel) ?_
              refine iw_aload_n (i := 1) (pc' := 95) 1 rfl (by decide +kernel) ?_
              refine iw_geti (pc' := 98) ic_fk5 h1 lkf_X4_57 (by decide +kernel) ?_
              refine iw_bipush (i := 40) (v := (40 : Int32)) (pc' := 100) (by decide +kernel) ?_
              obtain ⟨q29, hc, hf⟩ := ic_bd hf
              refine iw_callV (pc' := 103) (S0 := [ic_rv κ.1 r1]) (S1 := [.int q29.1, ic_rv κ.1 r1]) (c1 := 0) (s1 := 0) (k := 3) (ct_X4_readList l κ sw μ (r1 + 1) (μ r1 5) (40 : Int32) hc) cO_2 ⟨rfl, rfl⟩ mv_X4_readList lkm_X4_60 ⟨rfl, rfl⟩ (ic_sum8 ⟨ic_cat _ _, trivial⟩ (Nat.le_of_ble_eq_true rfl)) (by unfold ic_rm; decide +kernel) ⟨rfl, rfl, rfl⟩ ⟨Nat.le_of_ble_eq_true rfl, Nat.le_of_ble_eq_true rfl⟩ ?_
              refine iw_put (pc' := 106) hf ic_fk5 h1 lkf_X4_57 (by decide +kernel) (fun m30 hf => ?_)
              refine iw_goto (off := 62) (pc' := 168) (by decide +kernel) ?_
              obtain rfl := Option.some.inj hf
              exact iw_sub [] rfl hjq22
            · refine iw_lookup (dflt := 130) (ps := #[(99, 80), (110, 101), (112, 122), (114, 51), (116, 59)]) (len := 51) (off := 130) (tg := 159) (by show Op.lookupswitch.offset [(99, 80), (110, 101), (112, 122), (114, 51), (116, 59)] (130) _ = _; rw [lv_osw hn0 (by decide +kernel), lv_osw hn1 (by decide +kernel), lv_osw hn2 (by decide +kernel), lv_osw hn3 (by decide +kernel), lv_osw hn4 (by decide +kernel)]; rfl) (by decide +kernel) ?_
              refine iw_aload_n (i := 0) (pc' := 160) 0 rfl (by decide +kernel) ?_
              refine iw_iconst (i := 1) (v := (1 : Int32)) (pc' := 161) (by decide +kernel) ?_
              refine iw_aload_n (i := 0) (pc' := 162) 0 rfl (by decide +kernel) ?_
              refine iw_geti (pc' := 165) ic_fk4 cO_2 lkf_X4_19 (by decide +kernel) ?_
              obtain ⟨m31, hc, hf⟩ := ic_bd hf
              refine iw_callV (pc' := 168) (S0 := []) (S1 := []) (c1 := 0) (s1 := 0) (k := 2) (ct_X4_blame l κ sw μ (1 : Int32) (μ 2 1) hc) cO_2 ⟨rfl, rfl⟩ mv_X4_blame lkm_X4_47 ⟨rfl, rfl⟩ (ic_sum8 trivial (Nat.le_of_ble_eq_true rfl)) (by unfold ic_rm; decide +kernel) ⟨rfl, rfl, rfl⟩ ⟨Nat.le_of_ble_eq_true rfl, Nat.le_of_ble_eq_true rfl⟩ ?_
              obtain rfl := Option.some.inj hf
              exact iw_sub [] rfl hjq22
  · refine iw_iload_n (i := 2) (pc' := 13) 2 rfl (by decide +kernel) ?_
    refine iw_bipush (i := 114) (v := (114 : Int32)) (pc' := 15) (by decide +kernel) ?_
    refine iw_icmp_eq (off := 13) (tg := 28) (pc' := 18) hf (by decide +kernel) (fun hf => ?_) (fun hf => ?_)
    · refine iw_iload_n (i := 2) (pc' := 29) 2 rfl (by decide +kernel) ?_
      obtain ⟨q32, hf, hgq32⟩ := ic_bd hf
      have hjq32 : ic_W l κ MX4_readClause ic_X0 (ic_Z κ MX4_readClause none 106 (ic_rs sw) R) 168 [] [] 106 (ic_rs sw) q32 0 0 := by
        have hf := hgq32
        exact iw_vreturn rfl (Option.some.inj hf) (by decide +kernel)
      refine iw_case hf (fun hx hf => ?_) (fun hn0 hf => ?_)
      · refine iw_lookupIn (v := (99 : Int32)) (dflt := 130) (ps := #[(99, 80), (110, 101), (112, 122), (114, 51), (116, 59)]) (len := 51) (off := 80) (tg := 109) hx (by decide +kernel) ?_
        refine iw_aload_n (i := 1) (pc' := 110) 1 rfl (by decide +kernel) ?_
        refine iw_aload_n (i := 0) (pc' := 111) 0 rfl (by decide +kernel) ?_
        refine iw_aload_n (i := 1) (pc' := 112) 1 rfl (by decide +kernel) ?_
        refine iw_getr (pc' := 115) (q := (r1 + 2)) ic_fk5 h1 (ic_rs_o h1 (by decide)) lkf_X4_64 (by decide +kernel) ?_
        refine iw_aload_n (i := 1) (pc' := 116) 1 rfl (by decide +kernel) ?_
        refine iw_geti (pc' := 119) ic_fk5 h1 lkf_X4_67 (by decide +kernel) ?_
        refine iw_bipush (i := 9) (v := (9 : Int32)) (pc' := 121) (by decide +kernel) ?_
        obtain ⟨q33, hc, hf⟩ := ic_bd hf
        refine iw_callV (pc' := 124) (S0 := [ic_rv κ.1 r1]) (S1 := [.int q33.1, ic_rv κ.1 r1]) (c1 := 0) (s1 := 0) (k := 3) (ct_X4_readList l κ sw μ (r1 + 2) (μ r1 6) (9 : Int32) hc) cO_2 ⟨rfl, rfl⟩ mv_X4_readList lkm_X4_60 ⟨rfl, rfl⟩ (ic_sum8 ⟨ic_cat _ _, trivial⟩ (Nat.le_of_ble_eq_true rfl)) (by unfold ic_rm; decide +kernel) ⟨rfl, rfl, rfl⟩ ⟨Nat.le_of_ble_eq_true rfl, Nat.le_of_ble_eq_true rfl⟩ ?_
        refine iw_put (pc' := 127) hf ic_fk5 h1 lkf_X4_67 (by decide +kernel) (fun m34 hf => ?_)
        refine iw_goto (off := 41) (pc' := 168) (by decide +kernel) ?_
        obtain rfl := Option.some.inj hf
        exact iw_sub [] rfl hjq32
      · refine iw_case hf (fun hx hf => ?_) (fun hn1 hf => ?_)
        · refine iw_lookupIn (v := (110 : Int32)) (dflt := 130) (ps := #[(99, 80), (110, 101), (112, 122), (114, 51), (116, 59)]) (len := 51) (off := 101) (tg := 130) hx (by decide +kernel) ?_
          refine iw_aload_n (i := 1) (pc' := 131) 1 rfl (by decide +kernel) ?_
          refine iw_aload_n (i := 0) (pc' := 132) 0 rfl (by decide +kernel) ?_
          refine iw_aload_n (i := 1) (pc' := 133) 1 rfl (by decide +kernel) ?_
          refine iw_getr (pc' := 136) (q := (r1 + 3)) ic_fk5 h1 (ic_rs_o h1 (by decide)) lkf_X4_70 (by decide +kernel) ?_
          refine iw_aload_n (i := 1) (pc' := 137) 1 rfl (by decide +kernel) ?_
          refine iw_geti (pc' := 140) ic_fk5 h1 lkf_X4_73 (by decide +kernel) ?_
          refine iw_bipush (i := 20) (v := (20 : Int32)) (pc' := 142) (by decide +kernel) ?_
          obtain ⟨q35, hc, hf⟩ := ic_bd hf
          refine iw_callV (pc' := 145) (S0 := [ic_rv κ.1 r1]) (S1 := [.int q35.1, ic_rv κ.1 r1]) (c1 := 0) (s1 := 0) (k := 3) (ct_X4_readList l κ sw μ (r1 + 3) (μ r1 7) (20 : Int32) hc) cO_2 ⟨rfl, rfl⟩ mv_X4_readList lkm_X4_60 ⟨rfl, rfl⟩ (ic_sum8 ⟨ic_cat _ _, trivial⟩ (Nat.le_of_ble_eq_true rfl)) (by unfold ic_rm; decide +kernel) ⟨rfl, rfl, rfl⟩ ⟨Nat.le_of_ble_eq_true rfl, Nat.le_of_ble_eq_true rfl⟩ ?_
          refine iw_put (pc' := 148) hf ic_fk5 h1 lkf_X4_73 (by decide +kernel) (fun m36 hf => ?_)
          refine iw_goto (off := 20) (pc' := 168) (by decide +kernel) ?_
          obtain rfl := Option.some.inj hf
          exact iw_sub [] rfl hjq32
        · refine iw_case hf (fun hx hf => ?_) (fun hn2 hf => ?_)
          · refine iw_lookupIn (v := (112 : Int32)) (dflt := 130) (ps := #[(99, 80), (110, 101), (112, 122), (114, 51), (116, 59)]) (len := 51) (off := 122) (tg := 151) hx (by decide +kernel) ?_
            refine iw_aload_n (i := 0) (pc' := 152) 0 rfl (by decide +kernel) ?_
            refine iw_aload_n (i := 1) (pc' := 153) 1 rfl (by decide +kernel) ?_
            obtain ⟨m37, hc, hf⟩ := ic_bd hf
            refine iw_callV (pc' := 156) (S0 := []) (S1 := []) (c1 := 0) (s1 := 0) (k := 1) (ct_X4_readPerson l κ sw μ r1 h1 hc) cO_2 ⟨rfl, rfl⟩ mv_X4_readPerson lkm_X4_76 ⟨rfl, rfl⟩ (ic_sum8 trivial (Nat.le_of_ble_eq_true rfl)) (by unfold ic_rm; decide +kernel) ⟨rfl, rfl, rfl⟩ ⟨Nat.le_of_ble_eq_true rfl, Nat.le_of_ble_eq_true rfl⟩ ?_
            refine iw_goto (off := 12) (pc' := 168) (by decide +kernel) ?_
            obtain rfl := Option.some.inj hf
            exact iw_sub [] rfl hjq32
          · refine iw_case hf (fun hx hf => ?_) (fun hn3 hf => ?_)
            · refine iw_lookupIn (v := (114 : Int32)) (dflt := 130) (ps := #[(99, 80), (110, 101), (112, 122), (114, 51), (116, 59)]) (len := 51) (off := 51) (tg := 80) hx (by decide +kernel) ?_
              refine iw_aload_n (i := 0) (pc' := 81) 0 rfl (by decide +kernel) ?_
              refine iw_aload_n (i := 1) (pc' := 82) 1 rfl (by decide +kernel) ?_
              obtain ⟨m38, hc, hf⟩ := ic_bd hf
              refine iw_callV (pc' := 85) (S0 := []) (S1 := []) (c1 := 0) (s1 := 0) (k := 1) (ct_X4_readSize l κ sw μ r1 h1 hc) cO_2 ⟨rfl, rfl⟩ mv_X4_readSize lkm_X4_51 ⟨rfl, rfl⟩ (ic_sum8 trivial (Nat.le_of_ble_eq_true rfl)) (by unfold ic_rm; decide +kernel) ⟨rfl, rfl, rfl⟩ ⟨Nat.le_of_ble_eq_true rfl, Nat.le_of_ble_eq_true rfl⟩ ?_
              refine iw_goto (off := 83) (pc' := 168) (by decide +kernel) ?_
              obtain rfl := Option.some.inj hf
              exact iw_sub [] rfl hjq32
            · refine iw_case hf (fun hx hf => ?_) (fun hn4 hf => ?_)
              · refine iw_lookupIn (v := (116 : Int32)) (dflt := 130) (ps := #[(99, 80), (110, 101), (112, 122), (114, 51), (116, 59)]) (len := 51) (off := 59) (tg := 88) hx (by decide +kernel) ?_
                refine iw_aload_n (i := 1) (pc' := 89) 1 rfl (by decide +kernel) ?_
                refine iw_aload_n (i := 0) (pc' := 90) 0 rfl (by decide +kernel) ?_
                refine iw_aload_n (i := 1) (pc' := 91) 1 rfl (by decide +kernel) ?_
                refine iw_getr (pc' := 94) (q := (r1 + 1)) ic_fk5 h1 (ic_rs_o h1 (by decide)) lkf_X4_54 (by decide +kernel) ?_
                refine iw_aload_n (i := 1) (pc' := 95) 1 rfl (by decide +kernel) ?_
                refine iw_geti (pc' := 98) ic_fk5 h1 lkf_X4_57 (by decide +kernel) ?_
                refine iw_bipush (i := 40) (v := (40 : Int32)) (pc' := 100) (by decide +kernel) ?_
                obtain ⟨q39, hc, hf⟩ := ic_bd hf
                refine iw_callV (pc' := 103) (S0 := [ic_rv κ.1 r1]) (S1 := [.int q39.1, ic_rv κ.1 r1]) (c1 := 0) (s1 := 0) (k := 3) (ct_X4_readList l κ sw μ (r1 + 1) (μ r1 5) (40 : Int32) hc) cO_2 ⟨rfl, rfl⟩ mv_X4_readList lkm_X4_60 ⟨rfl, rfl⟩ (ic_sum8 ⟨ic_cat _ _, trivial⟩ (Nat.le_of_ble_eq_true rfl)) (by unfold ic_rm; decide +kernel) ⟨rfl, rfl, rfl⟩ ⟨Nat.le_of_ble_eq_true rfl, Nat.le_of_ble_eq_true rfl⟩ ?_
                refine iw_put (pc' := 106) hf ic_fk5 h1 lkf_X4_57 (by decide +kernel) (fun m40 hf => ?_)
                refine iw_goto (off := 62) (pc' := 168) (by decide +kernel) ?_
                obtain rfl := Option.some.inj hf
                exact iw_sub [] rfl hjq32
              · refine iw_lookup (dflt := 130) (ps := #[(99, 80), (110, 101), (112, 122), (114, 51), (116, 59)]) (len := 51) (off := 130) (tg := 159) (by show Op.lookupswitch.offset [(99, 80), (110, 101), (112, 122), (114, 51), (116, 59)] (130) _ = _; rw [lv_osw hn0 (by decide +kernel), lv_osw hn1 (by decide +kernel), lv_osw hn2 (by decide +kernel), lv_osw hn3 (by decide +kernel), lv_osw hn4 (by decide +kernel)]; rfl) (by decide +kernel) ?_
                refine iw_aload_n (i := 0) (pc' := 160) 0 rfl (by decide +kernel) ?_
                refine iw_iconst (i := 1) (v := (1 : Int32)) (pc' := 161) (by decide +kernel) ?_
                refine iw_aload_n (i := 0) (pc' := 162) 0 rfl (by decide +kernel) ?_
                refine iw_geti (pc' := 165) ic_fk4 cO_2 lkf_X4_19 (by decide +kernel) ?_
                obtain ⟨m41, hc, hf⟩ := ic_bd hf
                refine iw_callV (pc' := 168) (S0 := []) (S1 := []) (c1 := 0) (s1 := 0) (k := 2) (ct_X4_blame l κ sw μ (1 : Int32) (μ 2 1) hc) cO_2 ⟨rfl, rfl⟩ mv_X4_blame lkm_X4_47 ⟨rfl, rfl⟩ (ic_sum8 trivial (Nat.le_of_ble_eq_true rfl)) (by unfold ic_rm; decide +kernel) ⟨rfl, rfl, rfl⟩ ⟨Nat.le_of_ble_eq_true rfl, Nat.le_of_ble_eq_true rfl⟩ ?_
                obtain rfl := Option.some.inj hf
                exact iw_sub [] rfl hjq32
    · refine iw_aload_n (i := 0) (pc' := 19) 0 rfl (by decide +kernel) ?_
      refine iw_iconst (i := 1) (v := (1 : Int32)) (pc' := 20) (by decide +kernel) ?_
      refine iw_aload_n (i := 0) (pc' := 21) 0 rfl (by decide +kernel) ?_
      refine iw_geti (pc' := 24) ic_fk4 cO_2 lkf_X4_19 (by decide +kernel) ?_
      obtain ⟨m42, hc, hf⟩ := ic_bd hf
      refine iw_callV (pc' := 27) (S0 := []) (S1 := []) (c1 := 0) (s1 := 0) (k := 2) (ct_X4_blame l κ sw μ (1 : Int32) (μ 2 1) hc) cO_2 ⟨rfl, rfl⟩ mv_X4_blame lkm_X4_47 ⟨rfl, rfl⟩ (ic_sum8 trivial (Nat.le_of_ble_eq_true rfl)) (by unfold ic_rm; decide +kernel) ⟨rfl, rfl, rfl⟩ ⟨Nat.le_of_ble_eq_true rfl, Nat.le_of_ble_eq_true rfl⟩ ?_
      exact iw_vreturn rfl (Option.some.inj hf) (by decide +kernel)
set_option maxRecDepth 100000 in
set_option maxHeartbeats 4000000 in
theorem lpX4_readInto_21_ok (l : Launch) (κ : ic_K) (sw : Nat) (r1_ : Nat) (h1_ : ic_isO 106 r1_ 5) {Rf : ic_M} {R : (ic_M) ⊕ (ic_M)} (hk : ∀ t, R = .inl t → ic_W l κ MX4_readInto ic_X0 (ic_Z κ MX4_readInto none 106 (ic_rs sw) Rf) 62 [] [] 106 (ic_rs sw) t 0 0) (hr : ∀ v, R = .inr v → v = Rf) : ∀ (fu : Nat) (y2_ : Int32) (μ : ic_M), lpX4_readInto_21 r1_ fu y2_ μ = some R → ic_W l κ MX4_readInto ic_X0 (ic_Z κ MX4_readInto none 106 (ic_rs sw) Rf) 21 [(0, ic_rv κ.1 2), (1, ic_rv κ.1 r1_), (2, .int y2_)] [] 106 (ic_rs sw) μ 0 0 := by
  intro fu
  induction fu with
  | zero =>
    intro y2_ μ hf
    exact absurd hf (by simp [lpX4_readInto_21])
  | succ fu ih =>
    intro y2_ μ hf
    rw [lpX4_readInto_21] at hf
    refine iw_iload_n (i := 2) (pc' := 22) 2 rfl (by decide +kernel) ?_
    refine iw_aload_n (i := 0) (pc' := 23) 0 rfl (by decide +kernel) ?_
    refine iw_geti (pc' := 26) ic_fk4 cO_2 lkf_X4_15 (by decide +kernel) ?_
    refine iw_icmp_ge (off := 36) (tg := 62) (pc' := 29) hf (by decide +kernel) (fun hf => ?_) (fun hf => ?_)
    · exact iw_sub [] rfl (hk _ (Option.some.inj hf).symm)
    · refine iw_aload_n (i := 0) (pc' := 30) 0 rfl (by decide +kernel) ?_
      refine iw_geti (pc' := 33) ic_fk4 cO_2 lkf_X4_22 (by decide +kernel) ?_
      refine iw_if_ne (off := 29) (tg := 62) (pc' := 36) hf (by decide +kernel) (fun hf => ?_) (fun hf => ?_)
      · exact iw_sub [] rfl (hk _ (Option.some.inj hf).symm)
      · refine iw_aload_n (i := 0) (pc' := 37) 0 rfl (by decide +kernel) ?_
        obtain ⟨m25, hc, hf⟩ := ic_bd hf
        refine iw_callV (pc' := 40) (S0 := []) (S1 := []) (c1 := 0) (s1 := 0) (k := 0) (ct_X4_skipBlanks l κ sw μ hc) cO_2 ⟨rfl, rfl⟩ mv_X4_skipBlanks lkm_X4_33 ⟨rfl, rfl⟩ (ic_sum8 trivial (Nat.le_of_ble_eq_true rfl)) (by unfold ic_rm; decide +kernel) ⟨rfl, rfl, rfl⟩ ⟨Nat.le_of_ble_eq_true rfl, Nat.le_of_ble_eq_true rfl⟩ ?_
        refine iw_aload_n (i := 0) (pc' := 41) 0 rfl (by decide +kernel) ?_
        obtain ⟨v26, hc, hf⟩ := ic_bd hf
        refine iw_callV (pc' := 44) (S0 := []) (S1 := [.int v26]) (c1 := 0) (s1 := 0) (k := 0) (ct_X4_sign l κ sw m25 hc) cO_2 ⟨rfl, rfl⟩ mv_X4_sign lkm_X4_36 ⟨rfl, rfl⟩ (ic_sum8 trivial (Nat.le_of_ble_eq_true rfl)) (by unfold ic_rm; decide +kernel) ⟨rfl, rfl, rfl⟩ ⟨Nat.le_of_ble_eq_true rfl, Nat.le_of_ble_eq_true rfl⟩ ?_
        refine iw_iconst (i := (-1)) (v := (-1 : Int32)) (pc' := 45) (by decide +kernel) ?_
        refine iw_icmp_ne (off := 6) (tg := 51) (pc' := 48) hf (by decide +kernel) (fun hf => ?_) (fun hf => ?_)
        · refine iw_aload_n (i := 0) (pc' := 52) 0 rfl (by decide +kernel) ?_
          refine iw_aload_n (i := 1) (pc' := 53) 1 rfl (by decide +kernel) ?_
          obtain ⟨m27, hc, hf⟩ := ic_bd hf
          refine iw_callV (pc' := 56) (S0 := []) (S1 := []) (c1 := 0) (s1 := 0) (k := 1) (ct_X4_readClause l κ sw m25 r1_ h1_ hc) cO_2 ⟨rfl, rfl⟩ mv_X4_readClause lkm_X4_40 ⟨rfl, rfl⟩ (ic_sum8 trivial (Nat.le_of_ble_eq_true rfl)) (by unfold ic_rm; decide +kernel) ⟨rfl, rfl, rfl⟩ ⟨Nat.le_of_ble_eq_true rfl, Nat.le_of_ble_eq_true rfl⟩ ?_
          refine iw_iinc (i := 2) (d := 1) (pc' := 59) (v := (1 : Int32)) (L1 := fun x28 => [(0, ic_rv κ.1 2), (1, ic_rv κ.1 r1_), (2, .int x28)]) hf 2 rfl (fun _ => rfl) (by decide +kernel) (fun x28 hf => ?_)
          refine iw_goto (off := (-38)) (pc' := 21) (by decide +kernel) ?_
          exact iw_sub [0, 1, 2] rfl (ih _ _ hf)
        · refine iw_goto (off := 14) (pc' := 62) (by decide +kernel) ?_
          exact iw_sub [] rfl (hk _ (Option.some.inj hf).symm)
set_option maxRecDepth 100000 in
set_option maxHeartbeats 4000000 in
theorem ct_X4_readInto (l : Launch) (κ : ic_K) (sw : Nat) (μ : ic_M) (r1 : Nat) (h1 : ic_isO 106 r1 5) {R : ic_M} (hf : fX4_readInto μ r1 = some R) : ic_C l κ MX4_readInto [ic_rv κ.1 2, ic_rv κ.1 r1] 106 (ic_rs sw) μ none 106 (ic_rs sw) R := by
  refine ic_C.of (L := [(0, ic_rv κ.1 2), (1, ic_rv κ.1 r1)]) ⟨ic_cat _ _, ic_cat _ _, trivial⟩ ⟨by decide +kernel, Nat.le_of_ble_eq_true rfl⟩ rfl ?_
  unfold fX4_readInto at hf
  refine iw_aload_n (i := 0) (pc' := 1) 0 rfl (by decide +kernel) ?_
  refine iw_iconst (i := 0) (v := (0 : Int32)) (pc' := 2) (by decide +kernel) ?_
  refine iw_put (pc' := 5) hf ic_fk4 cO_2 lkf_X4_19 (by decide +kernel) (fun m21 hf => ?_)
  refine iw_aload_n (i := 0) (pc' := 6) 0 rfl (by decide +kernel) ?_
  refine iw_iconst (i := 0) (v := (0 : Int32)) (pc' := 7) (by decide +kernel) ?_
  refine iw_put (pc' := 10) hf ic_fk4 cO_2 lkf_X4_22 (by decide +kernel) (fun m22 hf => ?_)
  refine iw_aload_n (i := 0) (pc' := 11) 0 rfl (by decide +kernel) ?_
  refine iw_iconst (i := (-1)) (v := (-1 : Int32)) (pc' := 12) (by decide +kernel) ?_
  refine iw_put (pc' := 15) hf ic_fk4 cO_2 lkf_X4_25 (by decide +kernel) (fun m23 hf => ?_)
  refine iw_aload_n (i := 1) (pc' := 16) 1 rfl (by decide +kernel) ?_
  obtain ⟨m24, hc, hf⟩ := ic_bd hf
  refine iw_callV (pc' := 19) (S0 := []) (S1 := []) (c1 := 0) (s1 := 0) (k := 0) (ct_X5_clear l κ sw m23 r1 h1 hc) h1 ⟨rfl, rfl⟩ mv_X5_clear lkm_X4_28 ⟨rfl, rfl⟩ (ic_sum8 trivial (Nat.le_of_ble_eq_true rfl)) (by unfold ic_rm; decide +kernel) ⟨rfl, rfl, rfl⟩ ⟨Nat.le_of_ble_eq_true rfl, Nat.le_of_ble_eq_true rfl⟩ ?_
  refine iw_iconst (i := 0) (v := (0 : Int32)) (pc' := 20) (by decide +kernel) ?_
  refine iw_istore_n0 (i := 2) (pc' := 21) (L' := [(0, ic_rv κ.1 2), (1, ic_rv κ.1 r1), (2, .int (0 : Int32))]) rfl (by decide +kernel) ?_
  obtain ⟨q29, hf, hgq29⟩ := ic_bd hf
  refine iw_sub [0, 1, 2] rfl (lpX4_readInto_21_ok l κ sw r1 h1 (R := q29) (fun t30 e => ?_) (fun v e => ?_) 1000 (0 : Int32) m24 hf)
  · subst e
    simp only [Sum.elim_inl] at hgq29
    have hf := hgq29
    exact iw_vreturn rfl (Option.some.inj hf) (by decide +kernel)
  · subst e
    simp only [Sum.elim_inr] at hgq29
    exact Option.some.inj hgq29
set_option maxRecDepth 100000 in
set_option maxHeartbeats 4000000 in
theorem lpX5_weightOfAll_4_ok (l : Launch) (κ : ic_K) (sw : Nat) (μ : ic_M) (r0_ : Nat) (x1_ : Int32) (h0_ : ic_isO 106 r0_ 5) {Z : State → List Frame → Array Value → State → Prop} {R : Int32} (hk : ic_W l κ MX5_weightOfAll ic_X0 Z 34 [(2, .int R)] [] 106 (ic_rs sw) μ 0 0) : ∀ (fu : Nat) (y2_ : Int32) (y3_ : Int32), lpX5_weightOfAll_4 μ r0_ x1_ fu y2_ y3_ = some R → ic_W l κ MX5_weightOfAll ic_X0 Z 4 [(0, ic_rv κ.1 r0_), (1, .int x1_), (2, .int y2_), (3, .int y3_)] [] 106 (ic_rs sw) μ 0 0 := by
  intro fu
  induction fu with
  | zero =>
    intro y2_ y3_ hf
    exact absurd hf (by simp [lpX5_weightOfAll_4])
  | succ fu ih =>
    intro y2_ y3_ hf
    rw [lpX5_weightOfAll_4] at hf
    refine iw_iload_n (i := 3) (pc' := 5) 3 rfl (by decide +kernel) ?_
    refine iw_aload_n (i := 0) (pc' := 6) 0 rfl (by decide +kernel) ?_
    refine iw_geti (pc' := 9) ic_fk5 h0_ lkf_X5_40 (by decide +kernel) ?_
    refine iw_icmp_ge (off := 25) (tg := 34) (pc' := 12) hf (by decide +kernel) (fun hf => ?_) (fun hf => ?_)
    · obtain rfl := Option.some.inj hf
      exact iw_sub [2] rfl hk
    · refine iw_iload_n (i := 1) (pc' := 13) 1 rfl (by decide +kernel) ?_
      refine iw_iload_n (i := 3) (pc' := 14) 3 rfl (by decide +kernel) ?_
      obtain ⟨v21, hc, hf⟩ := ic_bd hf
      refine iw_callSN (pc' := 17) (S0 := []) (S1 := [.int v21]) (c1 := 0) (s1 := 0) (k := 2) (ct_X8_isIn l κ sw μ x1_ y3_ hc) ms_X8_isIn lkm_X5_56 ⟨rfl, rfl⟩ (ic_sum8 trivial (Nat.le_of_ble_eq_true rfl)) (by unfold ic_rm; decide +kernel) ⟨rfl, rfl, rfl⟩ ⟨Nat.le_of_ble_eq_true rfl, Nat.le_of_ble_eq_true rfl⟩ ?_
      obtain ⟨q22, hf, hgq22⟩ := ic_bd hf
      have hjq22 : ic_W l κ MX5_weightOfAll ic_X0 Z 28 [(0, ic_rv κ.1 r0_), (1, .int x1_), (2, .int q22), (3, .int y3_)] [] 106 (ic_rs sw) μ 0 0 := by
        have hf := hgq22
        refine iw_iinc (i := 3) (d := 1) (pc' := 31) (v := (1 : Int32)) (L1 := fun x25 => [(0, ic_rv κ.1 r0_), (1, .int x1_), (2, .int q22), (3, .int x25)]) hf 3 rfl (fun _ => rfl) (by decide +kernel) (fun x25 hf => ?_)
        refine iw_goto (off := (-27)) (pc' := 4) (by decide +kernel) ?_
        exact iw_sub [0, 1, 2, 3] rfl (ih _ _ hf)
      refine iw_if_eq (off := 11) (tg := 28) (pc' := 20) hf (by decide +kernel) (fun hf => ?_) (fun hf => ?_)
      · obtain rfl := Option.some.inj hf
        exact iw_sub [0, 1, 2, 3] rfl hjq22
      · refine iw_iload_n (i := 2) (pc' := 21) 2 rfl (by decide +kernel) ?_
        refine iw_aload_n (i := 0) (pc' := 22) 0 rfl (by decide +kernel) ?_
        refine iw_iload_n (i := 3) (pc' := 23) 3 rfl (by decide +kernel) ?_
        obtain ⟨v23, hc, hf⟩ := ic_bd hf
        refine iw_callV (pc' := 26) (S0 := [.int y2_]) (S1 := [.int v23, .int y2_]) (c1 := 0) (s1 := 0) (k := 1) (ct_X5_weightOf l κ sw μ r0_ h0_ y3_ hc) h0_ ⟨rfl, rfl⟩ mv_X5_weightOf lkm_X5_60 ⟨rfl, rfl⟩ (ic_sum8 ⟨rfl, trivial⟩ (Nat.le_of_ble_eq_true rfl)) (by unfold ic_rm; decide +kernel) ⟨rfl, rfl, rfl⟩ ⟨Nat.le_of_ble_eq_true rfl, Nat.le_of_ble_eq_true rfl⟩ ?_
        refine iw_iadd (pc' := 27) (by decide +kernel) ?_
        refine iw_istore_n (i := 2) (pc' := 28) (L1 := fun x24 => [(0, ic_rv κ.1 r0_), (1, .int x1_), (2, .int x24), (3, .int y3_)]) hf (fun _ => rfl) (by decide +kernel) (fun x24 hf => ?_)
        obtain rfl := Option.some.inj hf
        exact iw_sub [0, 1, 2, 3] rfl hjq22
set_option maxRecDepth 100000 in
set_option maxHeartbeats 4000000 in
theorem ct_X5_weightOfAll (l : Launch) (κ : ic_K) (sw : Nat) (μ : ic_M) (r0 : Nat) (h0 : ic_isO 106 r0 5) (x1 : Int32) {R : Int32} (hf : fX5_weightOfAll μ r0 x1 = some R) : ic_C l κ MX5_weightOfAll [ic_rv κ.1 r0, .int x1] 106 (ic_rs sw) μ (some (.int R)) 106 (ic_rs sw) μ := by
  refine ic_C.of (L := [(0, ic_rv κ.1 r0), (1, .int x1)]) ⟨ic_cat _ _, rfl, trivial⟩ ⟨by decide +kernel, Nat.le_of_ble_eq_true rfl⟩ rfl ?_
  unfold fX5_weightOfAll at hf
  refine iw_iconst (i := 0) (v := (0 : Int32)) (pc' := 1) (by decide +kernel) ?_
  refine iw_istore_n0 (i := 2) (pc' := 2) (L' := [(0, ic_rv κ.1 r0), (1, .int x1), (2, .int (0 : Int32))]) rfl (by decide +kernel) ?_
  refine iw_iconst (i := 0) (v := (0 : Int32)) (pc' := 3) (by decide +kernel) ?_
  refine iw_istore_n0 (i := 3) (pc' := 4) (L' := [(0, ic_rv κ.1 r0), (1, .int x1), (2, .int (0 : Int32)), (3, .int (0 : Int32))]) rfl (by decide +kernel) ?_
  obtain ⟨q26, hf, hgq26⟩ := ic_bd hf
  have hjq26 : ic_W l κ MX5_weightOfAll ic_X0 (ic_Z κ MX5_weightOfAll (some (.int R)) 106 (ic_rs sw) μ) 34 [(2, .int q26)] [] 106 (ic_rs sw) μ 0 0 := by
    have hf := hgq26
    refine iw_iload_n (i := 2) (pc' := 35) 0 rfl (by decide +kernel) ?_
    exact iw_ireturn (Option.some.inj hf) rfl rfl (by decide +kernel)
  exact iw_sub [0, 1, 2, 3] rfl (lpX5_weightOfAll_4_ok l κ sw μ r0 x1 h0 hjq26 1000 (0 : Int32) (0 : Int32) hf)
set_option maxRecDepth 100000 in
set_option maxHeartbeats 4000000 in
theorem lpX5_nextToAny_4_ok (l : Launch) (κ : ic_K) (sw : Nat) (μ : ic_M) (r0_ : Nat) (x1_ : Int32) (h0_ : ic_isO 106 r0_ 5) {Z : State → List Frame → Array Value → State → Prop} {R : Int32} (hk : ic_W l κ MX5_nextToAny ic_X0 Z 34 [(2, .int R)] [] 106 (ic_rs sw) μ 0 0) : ∀ (fu : Nat) (y2_ : Int32) (y3_ : Int32), lpX5_nextToAny_4 μ r0_ x1_ fu y2_ y3_ = some R → ic_W l κ MX5_nextToAny ic_X0 Z 4 [(0, ic_rv κ.1 r0_), (1, .int x1_), (2, .int y2_), (3, .int y3_)] [] 106 (ic_rs sw) μ 0 0 := by
  intro fu
  induction fu with
  | zero =>
    intro y2_ y3_ hf
    exact absurd hf (by simp [lpX5_nextToAny_4])
  | succ fu ih =>
    intro y2_ y3_ hf
    rw [lpX5_nextToAny_4] at hf
    refine iw_iload_n (i := 3) (pc' := 5) 3 rfl (by decide +kernel) ?_
    refine iw_aload_n (i := 0) (pc' := 6) 0 rfl (by decide +kernel) ?_
    refine iw_geti (pc' := 9) ic_fk5 h0_ lkf_X5_37 (by decide +kernel) ?_
    refine iw_icmp_ge (off := 25) (tg := 34) (pc' := 12) hf (by decide +kernel) (fun hf => ?_) (fun hf => ?_)
    · obtain rfl := Option.some.inj hf
      exact iw_sub [2] rfl hk
    · refine iw_iload_n (i := 1) (pc' := 13) 1 rfl (by decide +kernel) ?_
      refine iw_iload_n (i := 3) (pc' := 14) 3 rfl (by decide +kernel) ?_
      obtain ⟨v21, hc, hf⟩ := ic_bd hf
      refine iw_callSN (pc' := 17) (S0 := []) (S1 := [.int v21]) (c1 := 0) (s1 := 0) (k := 2) (ct_X8_isIn l κ sw μ x1_ y3_ hc) ms_X8_isIn lkm_X5_56 ⟨rfl, rfl⟩ (ic_sum8 trivial (Nat.le_of_ble_eq_true rfl)) (by unfold ic_rm; decide +kernel) ⟨rfl, rfl, rfl⟩ ⟨Nat.le_of_ble_eq_true rfl, Nat.le_of_ble_eq_true rfl⟩ ?_
      obtain ⟨q22, hf, hgq22⟩ := ic_bd hf
      have hjq22 : ic_W l κ MX5_nextToAny ic_X0 Z 28 [(0, ic_rv κ.1 r0_), (1, .int x1_), (2, .int q22), (3, .int y3_)] [] 106 (ic_rs sw) μ 0 0 := by
        have hf := hgq22
        refine iw_iinc (i := 3) (d := 1) (pc' := 31) (v := (1 : Int32)) (L1 := fun x25 => [(0, ic_rv κ.1 r0_), (1, .int x1_), (2, .int q22), (3, .int x25)]) hf 3 rfl (fun _ => rfl) (by decide +kernel) (fun x25 hf => ?_)
        refine iw_goto (off := (-27)) (pc' := 4) (by decide +kernel) ?_
        exact iw_sub [0, 1, 2, 3] rfl (ih _ _ hf)
      refine iw_if_eq (off := 11) (tg := 28) (pc' := 20) hf (by decide +kernel) (fun hf => ?_) (fun hf => ?_)
      · obtain rfl := Option.some.inj hf
        exact iw_sub [0, 1, 2, 3] rfl hjq22
      · refine iw_iload_n (i := 2) (pc' := 21) 2 rfl (by decide +kernel) ?_
        refine iw_aload_n (i := 0) (pc' := 22) 0 rfl (by decide +kernel) ?_
        refine iw_iload_n (i := 3) (pc' := 23) 3 rfl (by decide +kernel) ?_
        obtain ⟨v23, hc, hf⟩ := ic_bd hf
        refine iw_callV (pc' := 26) (S0 := [.int y2_]) (S1 := [.int v23, .int y2_]) (c1 := 0) (s1 := 0) (k := 1) (ct_X5_nextTo l κ sw μ r0_ h0_ y3_ hc) h0_ ⟨rfl, rfl⟩ mv_X5_nextTo lkm_X5_64 ⟨rfl, rfl⟩ (ic_sum8 ⟨rfl, trivial⟩ (Nat.le_of_ble_eq_true rfl)) (by unfold ic_rm; decide +kernel) ⟨rfl, rfl, rfl⟩ ⟨Nat.le_of_ble_eq_true rfl, Nat.le_of_ble_eq_true rfl⟩ ?_
        refine iw_ior (pc' := 27) (by decide +kernel) ?_
        refine iw_istore_n (i := 2) (pc' := 28) (L1 := fun x24 => [(0, ic_rv κ.1 r0_), (1, .int x1_), (2, .int x24), (3, .int y3_)]) hf (fun _ => rfl) (by decide +kernel) (fun x24 hf => ?_)
        obtain rfl := Option.some.inj hf
        exact iw_sub [0, 1, 2, 3] rfl hjq22
set_option maxRecDepth 100000 in
set_option maxHeartbeats 4000000 in
theorem ct_X5_nextToAny (l : Launch) (κ : ic_K) (sw : Nat) (μ : ic_M) (r0 : Nat) (h0 : ic_isO 106 r0 5) (x1 : Int32) {R : Int32} (hf : fX5_nextToAny μ r0 x1 = some R) : ic_C l κ MX5_nextToAny [ic_rv κ.1 r0, .int x1] 106 (ic_rs sw) μ (some (.int R)) 106 (ic_rs sw) μ := by
  refine ic_C.of (L := [(0, ic_rv κ.1 r0), (1, .int x1)]) ⟨ic_cat _ _, rfl, trivial⟩ ⟨by decide +kernel, Nat.le_of_ble_eq_true rfl⟩ rfl ?_
  unfold fX5_nextToAny at hf
  refine iw_iconst (i := 0) (v := (0 : Int32)) (pc' := 1) (by decide +kernel) ?_
  refine iw_istore_n0 (i := 2) (pc' := 2) (L' := [(0, ic_rv κ.1 r0), (1, .int x1), (2, .int (0 : Int32))]) rfl (by decide +kernel) ?_
  refine iw_iconst (i := 0) (v := (0 : Int32)) (pc' := 3) (by decide +kernel) ?_
  refine iw_istore_n0 (i := 3) (pc' := 4) (L' := [(0, ic_rv κ.1 r0), (1, .int x1), (2, .int (0 : Int32)), (3, .int (0 : Int32))]) rfl (by decide +kernel) ?_
  obtain ⟨q26, hf, hgq26⟩ := ic_bd hf
  have hjq26 : ic_W l κ MX5_nextToAny ic_X0 (ic_Z κ MX5_nextToAny (some (.int R)) 106 (ic_rs sw) μ) 34 [(2, .int q26)] [] 106 (ic_rs sw) μ 0 0 := by
    have hf := hgq26
    refine iw_iload_n (i := 2) (pc' := 35) 0 rfl (by decide +kernel) ?_
    exact iw_ireturn (Option.some.inj hf) rfl rfl (by decide +kernel)
  exact iw_sub [0, 1, 2, 3] rfl (lpX5_nextToAny_4_ok l κ sw μ r0 x1 h0 hjq26 1000 (0 : Int32) (0 : Int32) hf)
set_option maxRecDepth 100000 in
set_option maxHeartbeats 4000000 in
theorem ct_X6_add (l : Launch) (κ : ic_K) (sw : Nat) (μ : ic_M) (x1 : Int32) (x2 : Int32) {R : Int32 × ic_M} (hf : fX6_add μ x1 x2 = some R) : ic_C l κ MX6_add [ic_rv κ.1 61, .int x1, .int x2] 106 (ic_rs sw) μ (some (.int R.1)) 106 (ic_rs sw) R.2 := by
  refine ic_C.of (L := [(0, ic_rv κ.1 61), (1, .int x1), (2, .int x2)]) ⟨ic_cat _ _, rfl, rfl, trivial⟩ ⟨by decide +kernel, Nat.le_of_ble_eq_true rfl⟩ rfl ?_
  unfold fX6_add at hf
  refine iw_aload_n (i := 0) (pc' := 1) 0 rfl (by decide +kernel) ?_
  refine iw_geti (pc' := 4) ic_fk6 cO_61 lkf_X6_25 (by decide +kernel) ?_
  refine iw_if_lt (off := 27) (tg := 31) (pc' := 7) hf (by decide +kernel) (fun hf => ?_) (fun hf => ?_)
  · refine iw_iconst (i := 0) (v := (0 : Int32)) (pc' := 32) (by decide +kernel) ?_
    obtain ⟨hb, hf⟩ := ic_rz_of hf
    exact iw_zreturn hb (ic_q1 (Option.some.inj hf)) rfl (ic_q2 (Option.some.inj hf)) (by decide +kernel)
  · refine iw_aload_n (i := 0) (pc' := 8) 0 rfl (by decide +kernel) ?_
    refine iw_geti (pc' := 11) ic_fk6 cO_61 lkf_X6_25 (by decide +kernel) ?_
    refine iw_aload_n (i := 0) (pc' := 12) 0 rfl (by decide +kernel) ?_
    refine iw_getr (pc' := 15) (q := 62) ic_fk6 cO_61 rfl lkf_X6_9 (by decide +kernel) ?_
    refine iw_alen (pc' := 16) (v := (6 : Int32)) cI_62 rfl (by decide +kernel) ?_
    refine iw_icmp_ge (off := 15) (tg := 31) (pc' := 19) hf (by decide +kernel) (fun hf => ?_) (fun hf => ?_)
    · refine iw_iconst (i := 0) (v := (0 : Int32)) (pc' := 32) (by decide +kernel) ?_
      obtain ⟨hb, hf⟩ := ic_rz_of hf
      exact iw_zreturn hb (ic_q1 (Option.some.inj hf)) rfl (ic_q2 (Option.some.inj hf)) (by decide +kernel)
    · refine iw_aload_n (i := 0) (pc' := 20) 0 rfl (by decide +kernel) ?_
      refine iw_geti (pc' := 23) ic_fk6 cO_61 lkf_X6_25 (by decide +kernel) ?_
      refine iw_aload_n (i := 0) (pc' := 24) 0 rfl (by decide +kernel) ?_
      refine iw_getr (pc' := 27) (q := 63) ic_fk6 cO_61 rfl lkf_X6_15 (by decide +kernel) ?_
      refine iw_zlen (pc' := 28) (v := (6 : Int32)) cZ_63 rfl (by decide +kernel) ?_
      refine iw_icmp_lt (off := 5) (tg := 33) (pc' := 31) hf (by decide +kernel) (fun hf => ?_) (fun hf => ?_)
      · refine iw_aload_n (i := 0) (pc' := 34) 0 rfl (by decide +kernel) ?_
        refine iw_getr (pc' := 37) (q := 62) ic_fk6 cO_61 rfl lkf_X6_9 (by decide +kernel) ?_
        refine iw_aload_n (i := 0) (pc' := 38) 0 rfl (by decide +kernel) ?_
        refine iw_geti (pc' := 41) ic_fk6 cO_61 lkf_X6_25 (by decide +kernel) ?_
        refine iw_iload_n (i := 1) (pc' := 42) 1 rfl (by decide +kernel) ?_
        refine iw_iast (pc' := 43) hf (fun _ => cI_62) (by decide +kernel) (fun m21 hf => ?_)
        refine iw_aload_n (i := 0) (pc' := 44) 0 rfl (by decide +kernel) ?_
        refine iw_getr (pc' := 47) (q := 63) ic_fk6 cO_61 rfl lkf_X6_15 (by decide +kernel) ?_
        refine iw_aload_n (i := 0) (pc' := 48) 0 rfl (by decide +kernel) ?_
        refine iw_geti (pc' := 51) ic_fk6 cO_61 lkf_X6_25 (by decide +kernel) ?_
        refine iw_iload_n (i := 2) (pc' := 52) 2 rfl (by decide +kernel) ?_
        refine iw_zast (pc' := 53) hf cZ_63 (by decide +kernel) (fun m22 hf => ?_)
        refine iw_aload_n (i := 0) (pc' := 54) 0 rfl (by decide +kernel) ?_
        refine iw_dup (pc' := 55) (ic_cat _ _) (by decide +kernel) ?_
        refine iw_geti (pc' := 58) ic_fk6 cO_61 lkf_X6_25 (by decide +kernel) ?_
        refine iw_iconst (i := 1) (v := (1 : Int32)) (pc' := 59) (by decide +kernel) ?_
        refine iw_iadd (pc' := 60) (by decide +kernel) ?_
        refine iw_put (pc' := 63) hf ic_fk6 cO_61 lkf_X6_25 (by decide +kernel) (fun m23 hf => ?_)
        refine iw_iconst (i := 1) (v := (1 : Int32)) (pc' := 64) (by decide +kernel) ?_
        obtain ⟨hb, hf⟩ := ic_rz_of hf
        exact iw_zreturn hb (ic_q1 (Option.some.inj hf)) rfl (ic_q2 (Option.some.inj hf)) (by decide +kernel)
      · refine iw_iconst (i := 0) (v := (0 : Int32)) (pc' := 32) (by decide +kernel) ?_
        obtain ⟨hb, hf⟩ := ic_rz_of hf
        exact iw_zreturn hb (ic_q1 (Option.some.inj hf)) rfl (ic_q2 (Option.some.inj hf)) (by decide +kernel)
set_option maxRecDepth 100000 in
set_option maxHeartbeats 4000000 in
theorem lpX6_fits_2_ok (l : Launch) (κ : ic_K) (sw : Nat) (μ : ic_M) (r1_ : Nat) (x2_ : Int32) (h1_ : ic_isO 106 r1_ 5) {Rf : Int32} {R : (Unit) ⊕ (Int32)} (hk : ∀ t, R = .inl t → ic_W l κ MX6_fits ic_X0 (ic_Z κ MX6_fits (some (.int Rf)) 106 (ic_rs sw) μ) 69 [] [] 106 (ic_rs sw) μ 0 0) (hr : ∀ v, R = .inr v → v = Rf) : ∀ (fu : Nat) (y3_ : Int32), lpX6_fits_2 μ r1_ x2_ fu y3_ = some R → ic_W l κ MX6_fits ic_X0 (ic_Z κ MX6_fits (some (.int Rf)) 106 (ic_rs sw) μ) 2 [(0, ic_rv κ.1 61), (1, ic_rv κ.1 r1_), (2, .int x2_), (3, .int y3_)] [] 106 (ic_rs sw) μ 0 0 := by
  intro fu
  induction fu with
  | zero =>
    intro y3_ hf
    exact absurd hf (by simp [lpX6_fits_2])
  | succ fu ih =>
    intro y3_ hf
    rw [lpX6_fits_2] at hf
    refine iw_iload_n (i := 3) (pc' := 3) 3 rfl (by decide +kernel) ?_
    refine iw_aload_n (i := 0) (pc' := 4) 0 rfl (by decide +kernel) ?_
    refine iw_geti (pc' := 7) ic_fk6 cO_61 lkf_X6_25 (by decide +kernel) ?_
    refine iw_icmp_ge (off := 62) (tg := 69) (pc' := 10) hf (by decide +kernel) (fun hf => ?_) (fun hf => ?_)
    · exact iw_sub [] rfl (hk _ (Option.some.inj hf).symm)
    · refine iw_iload_n (i := 3) (pc' := 11) 3 rfl (by decide +kernel) ?_
      refine iw_aload_n (i := 0) (pc' := 12) 0 rfl (by decide +kernel) ?_
      refine iw_getr (pc' := 15) (q := 62) ic_fk6 cO_61 rfl lkf_X6_9 (by decide +kernel) ?_
      refine iw_alen (pc' := 16) (v := (6 : Int32)) cI_62 rfl (by decide +kernel) ?_
      refine iw_icmp_ge (off := 53) (tg := 69) (pc' := 19) hf (by decide +kernel) (fun hf => ?_) (fun hf => ?_)
      · exact iw_sub [] rfl (hk _ (Option.some.inj hf).symm)
      · refine iw_iload_n (i := 3) (pc' := 20) 3 rfl (by decide +kernel) ?_
        refine iw_aload_n (i := 0) (pc' := 21) 0 rfl (by decide +kernel) ?_
        refine iw_getr (pc' := 24) (q := 63) ic_fk6 cO_61 rfl lkf_X6_15 (by decide +kernel) ?_
        refine iw_zlen (pc' := 25) (v := (6 : Int32)) cZ_63 rfl (by decide +kernel) ?_
        refine iw_icmp_ge (off := 44) (tg := 69) (pc' := 28) hf (by decide +kernel) (fun hf => ?_) (fun hf => ?_)
        · exact iw_sub [] rfl (hk _ (Option.some.inj hf).symm)
        · refine iw_iload_n (i := 2) (pc' := 29) 2 rfl (by decide +kernel) ?_
          refine iw_aload_n (i := 1) (pc' := 30) 1 rfl (by decide +kernel) ?_
          refine iw_geti (pc' := 33) ic_fk5 h1_ lkf_X6_42 (by decide +kernel) ?_
          refine iw_aload_n (i := 0) (pc' := 34) 0 rfl (by decide +kernel) ?_
          refine iw_getr (pc' := 37) (q := 62) ic_fk6 cO_61 rfl lkf_X6_9 (by decide +kernel) ?_
          refine iw_iload_n (i := 3) (pc' := 38) 3 rfl (by decide +kernel) ?_
          refine iw_iald (pc' := 39) hf (fun _ => cI_62) (by decide +kernel) (fun v21 hf => ?_)
          refine iw_imul (pc' := 40) (by decide +kernel) ?_
          obtain ⟨q22, hf, hgq22⟩ := ic_bd hf
          have hjq22 : ic_W l κ MX6_fits ic_X0 (ic_Z κ MX6_fits (some (.int Rf)) 106 (ic_rs sw) μ) 48 [(0, ic_rv κ.1 61), (1, ic_rv κ.1 r1_), (2, .int x2_), (3, .int y3_)] [.int q22] 106 (ic_rs sw) μ 0 0 := by
            have hf := hgq22
            refine iw_istore0 (i := 4) (pc' := 50) (L' := [(0, ic_rv κ.1 61), (1, ic_rv κ.1 r1_), (2, .int x2_), (3, .int y3_), (4, .int q22)]) rfl (by decide +kernel) ?_
            refine iw_iload (i := 4) (pc' := 52) 4 rfl (by decide +kernel) ?_
            refine iw_aload_n (i := 0) (pc' := 53) 0 rfl (by decide +kernel) ?_
            refine iw_getr (pc' := 56) (q := 63) ic_fk6 cO_61 rfl lkf_X6_15 (by decide +kernel) ?_
            refine iw_iload_n (i := 3) (pc' := 57) 3 rfl (by decide +kernel) ?_
            refine iw_zald (pc' := 58) hf cZ_63 (by decide +kernel) (fun v23 hf => ?_)
            refine iw_icmp_eq (off := 5) (tg := 63) (pc' := 61) hf (by decide +kernel) (fun hf => ?_) (fun hf => ?_)
            · refine iw_iinc (i := 3) (d := 1) (pc' := 66) (v := (1 : Int32)) (L1 := fun x24 => [(0, ic_rv κ.1 61), (1, ic_rv κ.1 r1_), (2, .int x2_), (3, .int x24), (4, .int q22)]) hf 3 rfl (fun _ => rfl) (by decide +kernel) (fun x24 hf => ?_)
              refine iw_goto (off := (-64)) (pc' := 2) (by decide +kernel) ?_
              exact iw_sub [0, 1, 2, 3] rfl (ih _ hf)
            · refine iw_iconst (i := 0) (v := (0 : Int32)) (pc' := 62) (by decide +kernel) ?_
              obtain ⟨hb, hf⟩ := ic_rz_of hf
              exact iw_zreturn hb (hr _ (Option.some.inj hf).symm) rfl rfl (by decide +kernel)
          refine iw_icmp_le (off := 7) (tg := 47) (pc' := 43) hf (by decide +kernel) (fun hf => ?_) (fun hf => ?_)
          · refine iw_iconst (i := 0) (v := (0 : Int32)) (pc' := 48) (by decide +kernel) ?_
            obtain rfl := Option.some.inj hf
            exact iw_sub [0, 1, 2, 3] rfl hjq22
          · refine iw_iconst (i := 1) (v := (1 : Int32)) (pc' := 44) (by decide +kernel) ?_
            refine iw_goto (off := 4) (pc' := 48) (by decide +kernel) ?_
            obtain rfl := Option.some.inj hf
            exact iw_sub [0, 1, 2, 3] rfl hjq22
set_option maxRecDepth 100000 in
set_option maxHeartbeats 4000000 in
theorem ct_X6_fits (l : Launch) (κ : ic_K) (sw : Nat) (μ : ic_M) (r1 : Nat) (h1 : ic_isO 106 r1 5) (x2 : Int32) {R : Int32} (hf : fX6_fits μ r1 x2 = some R) : ic_C l κ MX6_fits [ic_rv κ.1 61, ic_rv κ.1 r1, .int x2] 106 (ic_rs sw) μ (some (.int R)) 106 (ic_rs sw) μ := by
  refine ic_C.of (L := [(0, ic_rv κ.1 61), (1, ic_rv κ.1 r1), (2, .int x2)]) ⟨ic_cat _ _, ic_cat _ _, rfl, trivial⟩ ⟨by decide +kernel, Nat.le_of_ble_eq_true rfl⟩ rfl ?_
  unfold fX6_fits at hf
  refine iw_iconst (i := 0) (v := (0 : Int32)) (pc' := 1) (by decide +kernel) ?_
  refine iw_istore_n0 (i := 3) (pc' := 2) (L' := [(0, ic_rv κ.1 61), (1, ic_rv κ.1 r1), (2, .int x2), (3, .int (0 : Int32))]) rfl (by decide +kernel) ?_
  obtain ⟨q25, hf, hgq25⟩ := ic_bd hf
  refine iw_sub [0, 1, 2, 3] rfl (lpX6_fits_2_ok l κ sw μ r1 x2 h1 (R := q25) (fun t26 e => ?_) (fun v e => ?_) 1000 (0 : Int32) hf)
  · subst e
    simp only [Sum.elim_inl] at hgq25
    have hf := hgq25
    refine iw_iconst (i := 1) (v := (1 : Int32)) (pc' := 70) (by decide +kernel) ?_
    obtain ⟨hb, hf⟩ := ic_rz_of hf
    exact iw_zreturn hb (Option.some.inj hf) rfl rfl (by decide +kernel)
  · subst e
    simp only [Sum.elim_inr] at hgq25
    exact Option.some.inj hgq25
set_option maxRecDepth 100000 in
set_option maxHeartbeats 4000000 in
theorem lpX6_howMany_4_ok (l : Launch) (κ : ic_K) (sw : Nat) (r1_ : Nat) (h1_ : ic_isO 106 r1_ 5) {Z : State → List Frame → Array Value → State → Prop} {R : Int32 × ic_M} (hk : ic_W l κ MX6_howMany ic_X0 Z 73 [(2, .int R.1)] [] 106 (ic_rs sw) R.2 0 0) : ∀ (fu : Nat) (y2_ : Int32) (y3_ : Int32) (μ : ic_M), lpX6_howMany_4 r1_ fu y2_ y3_ μ = some R → ic_W l κ MX6_howMany ic_X0 Z 4 [(0, ic_rv κ.1 61), (1, ic_rv κ.1 r1_), (2, .int y2_), (3, .int y3_)] [] 106 (ic_rs sw) μ 0 0 := by
  intro fu
  induction fu with
  | zero =>
    intro y2_ y3_ μ hf
    exact absurd hf (by simp [lpX6_howMany_4])
  | succ fu ih =>
    intro y2_ y3_ μ hf
    rw [lpX6_howMany_4] at hf
    refine iw_iload_n (i := 3) (pc' := 5) 3 rfl (by decide +kernel) ?_
    refine iw_iconst (i := 1) (v := (1 : Int32)) (pc' := 6) (by decide +kernel) ?_
    refine iw_aload_n (i := 1) (pc' := 7) 1 rfl (by decide +kernel) ?_
    refine iw_geti (pc' := 10) ic_fk5 h1_ lkf_X6_29 (by decide +kernel) ?_
    refine iw_ishl (pc' := 11) (by decide +kernel) ?_
    refine iw_icmp_ge (off := 62) (tg := 73) (pc' := 14) hf (by decide +kernel) (fun hf => ?_) (fun hf => ?_)
    · obtain rfl := Option.some.inj hf
      exact iw_sub [2] rfl hk
    · refine iw_aload_n (i := 1) (pc' := 15) 1 rfl (by decide +kernel) ?_
      refine iw_iload_n (i := 3) (pc' := 16) 3 rfl (by decide +kernel) ?_
      obtain ⟨v21, hc, hf⟩ := ic_bd hf
      refine iw_callV (pc' := 19) (S0 := []) (S1 := [.int v21]) (c1 := 0) (s1 := 0) (k := 1) (ct_X5_weightOfAll l κ sw μ r1_ h1_ y3_ hc) h1_ ⟨rfl, rfl⟩ mv_X5_weightOfAll lkm_X6_34 ⟨rfl, rfl⟩ (ic_sum8 trivial (Nat.le_of_ble_eq_true rfl)) (by unfold ic_rm; decide +kernel) ⟨rfl, rfl, rfl⟩ ⟨Nat.le_of_ble_eq_true rfl, Nat.le_of_ble_eq_true rfl⟩ ?_
      refine iw_istore0 (i := 4) (pc' := 21) (L' := [(0, ic_rv κ.1 61), (1, ic_rv κ.1 r1_), (2, .int y2_), (3, .int y3_), (4, .int v21)]) rfl (by decide +kernel) ?_
      refine iw_aload_n (i := 0) (pc' := 22) 0 rfl (by decide +kernel) ?_
      refine iw_aload_n (i := 1) (pc' := 23) 1 rfl (by decide +kernel) ?_
      refine iw_iload (i := 4) (pc' := 25) 4 rfl (by decide +kernel) ?_
      obtain ⟨v22, hc, hf⟩ := ic_bd hf
      refine iw_callV (pc' := 28) (S0 := []) (S1 := [.int v22]) (c1 := 0) (s1 := 0) (k := 2) (ct_X6_fits l κ sw μ r1_ h1_ v21 hc) cO_61 ⟨rfl, rfl⟩ mv_X6_fits lkm_X6_38 ⟨rfl, rfl⟩ (ic_sum8 trivial (Nat.le_of_ble_eq_true rfl)) (by unfold ic_rm; decide +kernel) ⟨rfl, rfl, rfl⟩ ⟨Nat.le_of_ble_eq_true rfl, Nat.le_of_ble_eq_true rfl⟩ ?_
      obtain ⟨q23, hf, hgq23⟩ := ic_bd hf
      have hjq23 : ic_W l κ MX6_howMany ic_X0 Z 67 [(0, ic_rv κ.1 61), (1, ic_rv κ.1 r1_), (2, .int q23.1), (3, .int y3_)] [] 106 (ic_rs sw) q23.2 0 0 := by
        have hf := hgq23
        refine iw_iinc (i := 3) (d := 1) (pc' := 70) (v := (1 : Int32)) (L1 := fun x27 => [(0, ic_rv κ.1 61), (1, ic_rv κ.1 r1_), (2, .int q23.1), (3, .int x27)]) hf 3 rfl (fun _ => rfl) (by decide +kernel) (fun x27 hf => ?_)
        refine iw_goto (off := (-66)) (pc' := 4) (by decide +kernel) ?_
        exact iw_sub [0, 1, 2, 3] rfl (ih _ _ _ hf)
      refine iw_if_eq (off := 39) (tg := 67) (pc' := 31) hf (by decide +kernel) (fun hf => ?_) (fun hf => ?_)
      · obtain rfl := Option.some.inj hf
        exact iw_sub [0, 1, 2, 3] rfl hjq23
      · refine iw_iload_n (i := 2) (pc' := 32) 2 rfl (by decide +kernel) ?_
        refine iw_aload_n (i := 0) (pc' := 33) 0 rfl (by decide +kernel) ?_
        refine iw_getr (pc' := 36) (q := 64) ic_fk6 cO_61 rfl lkf_X6_19 (by decide +kernel) ?_
        refine iw_alen (pc' := 37) (v := (64 : Int32)) cI_64 rfl (by decide +kernel) ?_
        refine iw_icmp_ge (off := 30) (tg := 67) (pc' := 40) hf (by decide +kernel) (fun hf => ?_) (fun hf => ?_)
        · obtain rfl := Option.some.inj hf
          exact iw_sub [0, 1, 2, 3] rfl hjq23
        · refine iw_iload_n (i := 2) (pc' := 41) 2 rfl (by decide +kernel) ?_
          refine iw_aload_n (i := 0) (pc' := 42) 0 rfl (by decide +kernel) ?_
          refine iw_getr (pc' := 45) (q := 65) ic_fk6 cO_61 rfl lkf_X6_22 (by decide +kernel) ?_
          refine iw_alen (pc' := 46) (v := (64 : Int32)) cI_65 rfl (by decide +kernel) ?_
          refine iw_icmp_ge (off := 21) (tg := 67) (pc' := 49) hf (by decide +kernel) (fun hf => ?_) (fun hf => ?_)
          · obtain rfl := Option.some.inj hf
            exact iw_sub [0, 1, 2, 3] rfl hjq23
          · refine iw_aload_n (i := 0) (pc' := 50) 0 rfl (by decide +kernel) ?_
            refine iw_getr (pc' := 53) (q := 64) ic_fk6 cO_61 rfl lkf_X6_19 (by decide +kernel) ?_
            refine iw_iload_n (i := 2) (pc' := 54) 2 rfl (by decide +kernel) ?_
            refine iw_iload_n (i := 3) (pc' := 55) 3 rfl (by decide +kernel) ?_
            refine iw_iast (pc' := 56) hf (fun _ => cI_64) (by decide +kernel) (fun m24 hf => ?_)
            refine iw_aload_n (i := 0) (pc' := 57) 0 rfl (by decide +kernel) ?_
            refine iw_getr (pc' := 60) (q := 65) ic_fk6 cO_61 rfl lkf_X6_22 (by decide +kernel) ?_
            refine iw_iload_n (i := 2) (pc' := 61) 2 rfl (by decide +kernel) ?_
            refine iw_iload (i := 4) (pc' := 63) 4 rfl (by decide +kernel) ?_
            refine iw_iast (pc' := 64) hf (fun _ => cI_65) (by decide +kernel) (fun m25 hf => ?_)
            refine iw_iinc (i := 2) (d := 1) (pc' := 67) (v := (1 : Int32)) (L1 := fun x26 => [(0, ic_rv κ.1 61), (1, ic_rv κ.1 r1_), (2, .int x26), (3, .int y3_), (4, .int v21)]) hf 2 rfl (fun _ => rfl) (by decide +kernel) (fun x26 hf => ?_)
            obtain rfl := Option.some.inj hf
            exact iw_sub [0, 1, 2, 3] rfl hjq23
set_option maxRecDepth 100000 in
set_option maxHeartbeats 4000000 in
theorem ct_X6_howMany (l : Launch) (κ : ic_K) (sw : Nat) (μ : ic_M) (r1 : Nat) (h1 : ic_isO 106 r1 5) {R : Int32 × ic_M} (hf : fX6_howMany μ r1 = some R) : ic_C l κ MX6_howMany [ic_rv κ.1 61, ic_rv κ.1 r1] 106 (ic_rs sw) μ (some (.int R.1)) 106 (ic_rs sw) R.2 := by
  refine ic_C.of (L := [(0, ic_rv κ.1 61), (1, ic_rv κ.1 r1)]) ⟨ic_cat _ _, ic_cat _ _, trivial⟩ ⟨by decide +kernel, Nat.le_of_ble_eq_true rfl⟩ rfl ?_
  unfold fX6_howMany at hf
  refine iw_iconst (i := 0) (v := (0 : Int32)) (pc' := 1) (by decide +kernel) ?_
  refine iw_istore_n0 (i := 2) (pc' := 2) (L' := [(0, ic_rv κ.1 61), (1, ic_rv κ.1 r1), (2, .int (0 : Int32))]) rfl (by decide +kernel) ?_
  refine iw_iconst (i := 0) (v := (0 : Int32)) (pc' := 3) (by decide +kernel) ?_
  refine iw_istore_n0 (i := 3) (pc' := 4) (L' := [(0, ic_rv κ.1 61), (1, ic_rv κ.1 r1), (2, .int (0 : Int32)), (3, .int (0 : Int32))]) rfl (by decide +kernel) ?_
  obtain ⟨q28, hf, hgq28⟩ := ic_bd hf
  have hjq28 : ic_W l κ MX6_howMany ic_X0 (ic_Z κ MX6_howMany (some (.int R.1)) 106 (ic_rs sw) R.2) 73 [(2, .int q28.1)] [] 106 (ic_rs sw) q28.2 0 0 := by
    have hf := hgq28
    refine iw_iload_n (i := 2) (pc' := 74) 0 rfl (by decide +kernel) ?_
    exact iw_ireturn (ic_q1 (Option.some.inj hf)) rfl (ic_q2 (Option.some.inj hf)) (by decide +kernel)
  exact iw_sub [0, 1, 2, 3] rfl (lpX6_howMany_4_ok l κ sw r1 h1 hjq28 1000 (0 : Int32) (0 : Int32) μ hf)
set_option maxRecDepth 100000 in
set_option maxHeartbeats 4000000 in
theorem ct_X6_least (l : Launch) (κ : ic_K) (sw : Nat) (μ : ic_M) (r1 : Nat) (h1 : ic_isO 106 r1 5) {R : Int32 × ic_M} (hf : fX6_least μ r1 = some R) : ic_C l κ MX6_least [ic_rv κ.1 61, ic_rv κ.1 r1] 106 (ic_rs sw) μ (some (.int R.1)) 106 (ic_rs sw) R.2 := by
  refine ic_C.of (L := [(0, ic_rv κ.1 61), (1, ic_rv κ.1 r1)]) ⟨ic_cat _ _, ic_cat _ _, trivial⟩ ⟨by decide +kernel, Nat.le_of_ble_eq_true rfl⟩ rfl ?_
  unfold fX6_least at hf
  refine iw_aload_n (i := 0) (pc' := 1) 0 rfl (by decide +kernel) ?_
  refine iw_aload_n (i := 1) (pc' := 2) 1 rfl (by decide +kernel) ?_
  obtain ⟨q21, hc, hf⟩ := ic_bd hf
  refine iw_callV (pc' := 5) (S0 := []) (S1 := [.int q21.1]) (c1 := 0) (s1 := 0) (k := 1) (ct_X6_howMany l κ sw μ r1 h1 hc) cO_61 ⟨rfl, rfl⟩ mv_X6_howMany lkm_X6_45 ⟨rfl, rfl⟩ (ic_sum8 trivial (Nat.le_of_ble_eq_true rfl)) (by unfold ic_rm; decide +kernel) ⟨rfl, rfl, rfl⟩ ⟨Nat.le_of_ble_eq_true rfl, Nat.le_of_ble_eq_true rfl⟩ ?_
  obtain ⟨q22, hf, hgq22⟩ := ic_bd hf
  have hjq22 : ic_W l κ MX6_least ic_X0 (ic_Z κ MX6_least (some (.int R.1)) 106 (ic_rs sw) R.2) 18 [] [.int q22] 106 (ic_rs sw) q21.2 0 0 := by
    have hf := hgq22
    exact iw_ireturn (ic_q1 (Option.some.inj hf)) rfl (ic_q2 (Option.some.inj hf)) (by decide +kernel)
  refine iw_if_le (off := 12) (tg := 17) (pc' := 8) hf (by decide +kernel) (fun hf => ?_) (fun hf => ?_)
  · refine iw_iconst (i := (-1)) (v := (-1 : Int32)) (pc' := 18) (by decide +kernel) ?_
    obtain rfl := Option.some.inj hf
    exact iw_sub [] rfl hjq22
  · refine iw_aload_n (i := 0) (pc' := 9) 0 rfl (by decide +kernel) ?_
    refine iw_getr (pc' := 12) (q := 64) ic_fk6 cO_61 rfl lkf_X6_19 (by decide +kernel) ?_
    refine iw_iconst (i := 0) (v := (0 : Int32)) (pc' := 13) (by decide +kernel) ?_
    refine iw_iald (pc' := 14) hf (fun _ => cI_64) (by decide +kernel) (fun v23 hf => ?_)
    refine iw_goto (off := 4) (pc' := 18) (by decide +kernel) ?_
    obtain rfl := Option.some.inj hf
    exact iw_sub [] rfl hjq22
set_option maxRecDepth 100000 in
set_option maxHeartbeats 4000000 in
theorem lpX6_sure_24_ok (l : Launch) (κ : ic_K) (sw : Nat) (μ : ic_M) (x2_ : Int32) {Z : State → List Frame → Array Value → State → Prop} {R : Int32} (hk : ic_W l κ MX6_sure ic_X0 Z 56 [(3, .int R)] [] 106 (ic_rs sw) μ 0 0) : ∀ (fu : Nat) (y3_ : Int32) (y4_ : Int32), lpX6_sure_24 μ x2_ fu y3_ y4_ = some R → ic_W l κ MX6_sure ic_X0 Z 24 [(0, ic_rv κ.1 61), (2, .int x2_), (3, .int y3_), (4, .int y4_)] [] 106 (ic_rs sw) μ 0 0 := by
  intro fu
  induction fu with
  | zero =>
    intro y3_ y4_ hf
    exact absurd hf (by simp [lpX6_sure_24])
  | succ fu ih =>
    intro y3_ y4_ hf
    rw [lpX6_sure_24] at hf
    refine iw_iload (i := 4) (pc' := 26) 3 rfl (by decide +kernel) ?_
    refine iw_iload_n (i := 2) (pc' := 27) 1 rfl (by decide +kernel) ?_
    refine iw_icmp_ge (off := 29) (tg := 56) (pc' := 30) hf (by decide +kernel) (fun hf => ?_) (fun hf => ?_)
    · obtain rfl := Option.some.inj hf
      exact iw_sub [2] rfl hk
    · refine iw_iload (i := 4) (pc' := 32) 3 rfl (by decide +kernel) ?_
      refine iw_aload_n (i := 0) (pc' := 33) 0 rfl (by decide +kernel) ?_
      refine iw_getr (pc' := 36) (q := 64) ic_fk6 cO_61 rfl lkf_X6_19 (by decide +kernel) ?_
      refine iw_alen (pc' := 37) (v := (64 : Int32)) cI_64 rfl (by decide +kernel) ?_
      refine iw_icmp_ge (off := 19) (tg := 56) (pc' := 40) hf (by decide +kernel) (fun hf => ?_) (fun hf => ?_)
      · obtain rfl := Option.some.inj hf
        exact iw_sub [2] rfl hk
      · refine iw_iload_n (i := 3) (pc' := 41) 2 rfl (by decide +kernel) ?_
        refine iw_aload_n (i := 0) (pc' := 42) 0 rfl (by decide +kernel) ?_
        refine iw_getr (pc' := 45) (q := 64) ic_fk6 cO_61 rfl lkf_X6_19 (by decide +kernel) ?_
        refine iw_iload (i := 4) (pc' := 47) 3 rfl (by decide +kernel) ?_
        refine iw_iald (pc' := 48) hf (fun _ => cI_64) (by decide +kernel) (fun v24 hf => ?_)
        refine iw_iand (pc' := 49) (by decide +kernel) ?_
        refine iw_istore_n (i := 3) (pc' := 50) (L1 := fun x25 => [(0, ic_rv κ.1 61), (2, .int x2_), (3, .int x25), (4, .int y4_)]) hf (fun _ => rfl) (by decide +kernel) (fun x25 hf => ?_)
        refine iw_iinc (i := 4) (d := 1) (pc' := 53) (v := (1 : Int32)) (L1 := fun x26 => [(0, ic_rv κ.1 61), (2, .int x2_), (3, .int x25), (4, .int x26)]) hf 3 rfl (fun _ => rfl) (by decide +kernel) (fun x26 hf => ?_)
        refine iw_goto (off := (-29)) (pc' := 24) (by decide +kernel) ?_
        exact iw_sub [0, 1, 2, 3] rfl (ih _ _ hf)
set_option maxRecDepth 100000 in
set_option maxHeartbeats 4000000 in
theorem ct_X6_sure (l : Launch) (κ : ic_K) (sw : Nat) (μ : ic_M) (r1 : Nat) (h1 : ic_isO 106 r1 5) {R : Int32 × ic_M} (hf : fX6_sure μ r1 = some R) : ic_C l κ MX6_sure [ic_rv κ.1 61, ic_rv κ.1 r1] 106 (ic_rs sw) μ (some (.int R.1)) 106 (ic_rs sw) R.2 := by
  refine ic_C.of (L := [(0, ic_rv κ.1 61), (1, ic_rv κ.1 r1)]) ⟨ic_cat _ _, ic_cat _ _, trivial⟩ ⟨by decide +kernel, Nat.le_of_ble_eq_true rfl⟩ rfl ?_
  unfold fX6_sure at hf
  refine iw_aload_n (i := 0) (pc' := 1) 0 rfl (by decide +kernel) ?_
  refine iw_aload_n (i := 1) (pc' := 2) 1 rfl (by decide +kernel) ?_
  obtain ⟨q21, hc, hf⟩ := ic_bd hf
  refine iw_callV (pc' := 5) (S0 := []) (S1 := [.int q21.1]) (c1 := 0) (s1 := 0) (k := 1) (ct_X6_howMany l κ sw μ r1 h1 hc) cO_61 ⟨rfl, rfl⟩ mv_X6_howMany lkm_X6_45 ⟨rfl, rfl⟩ (ic_sum8 trivial (Nat.le_of_ble_eq_true rfl)) (by unfold ic_rm; decide +kernel) ⟨rfl, rfl, rfl⟩ ⟨Nat.le_of_ble_eq_true rfl, Nat.le_of_ble_eq_true rfl⟩ ?_
  refine iw_istore_n0 (i := 2) (pc' := 6) (L' := [(0, ic_rv κ.1 61), (1, ic_rv κ.1 r1), (2, .int q21.1)]) rfl (by decide +kernel) ?_
  refine iw_iload_n (i := 2) (pc' := 7) 2 rfl (by decide +kernel) ?_
  obtain ⟨q22, hf, hgq22⟩ := ic_bd hf
  have hjq22 : ic_W l κ MX6_sure ic_X0 (ic_Z κ MX6_sure (some (.int R.1)) 106 (ic_rs sw) R.2) 20 [(0, ic_rv κ.1 61), (2, .int q21.1)] [.int q22] 106 (ic_rs sw) q21.2 0 0 := by
    have hf := hgq22
    refine iw_istore_n0 (i := 3) (pc' := 21) (L' := [(0, ic_rv κ.1 61), (2, .int q21.1), (3, .int q22)]) rfl (by decide +kernel) ?_
    refine iw_iconst (i := 1) (v := (1 : Int32)) (pc' := 22) (by decide +kernel) ?_
    refine iw_istore0 (i := 4) (pc' := 24) (L' := [(0, ic_rv κ.1 61), (2, .int q21.1), (3, .int q22), (4, .int (1 : Int32))]) rfl (by decide +kernel) ?_
    obtain ⟨q27, hf, hgq27⟩ := ic_bd hf
    have hjq27 : ic_W l κ MX6_sure ic_X0 (ic_Z κ MX6_sure (some (.int R.1)) 106 (ic_rs sw) R.2) 56 [(3, .int q27)] [] 106 (ic_rs sw) q21.2 0 0 := by
      have hf := hgq27
      refine iw_iload_n (i := 3) (pc' := 57) 0 rfl (by decide +kernel) ?_
      exact iw_ireturn (ic_q1 (Option.some.inj hf)) rfl (ic_q2 (Option.some.inj hf)) (by decide +kernel)
    exact iw_sub [0, 1, 2, 3] rfl (lpX6_sure_24_ok l κ sw q21.2 q21.1 hjq27 1000 q22 (1 : Int32) hf)
  refine iw_if_le (off := 12) (tg := 19) (pc' := 10) hf (by decide +kernel) (fun hf => ?_) (fun hf => ?_)
  · refine iw_iconst (i := 0) (v := (0 : Int32)) (pc' := 20) (by decide +kernel) ?_
    obtain rfl := Option.some.inj hf
    exact iw_sub [0, 2] rfl hjq22
  · refine iw_aload_n (i := 0) (pc' := 11) 0 rfl (by decide +kernel) ?_
    refine iw_getr (pc' := 14) (q := 64) ic_fk6 cO_61 rfl lkf_X6_19 (by decide +kernel) ?_
    refine iw_iconst (i := 0) (v := (0 : Int32)) (pc' := 15) (by decide +kernel) ?_
    refine iw_iald (pc' := 16) hf (fun _ => cI_64) (by decide +kernel) (fun v23 hf => ?_)
    refine iw_goto (off := 4) (pc' := 20) (by decide +kernel) ?_
    obtain rfl := Option.some.inj hf
    exact iw_sub [0, 2] rfl hjq22
set_option maxRecDepth 100000 in
set_option maxHeartbeats 4000000 in
theorem lpX6_howManyAbove_5_ok (l : Launch) (κ : ic_K) (sw : Nat) (μ : ic_M) (x1_ : Int32) (x2_ : Int32) {Z : State → List Frame → Array Value → State → Prop} {R : Int32} (hk : ic_W l κ MX6_howManyAbove ic_X0 Z 41 [(3, .int R)] [] 106 (ic_rs sw) μ 0 0) : ∀ (fu : Nat) (y3_ : Int32) (y4_ : Int32), lpX6_howManyAbove_5 μ x1_ x2_ fu y3_ y4_ = some R → ic_W l κ MX6_howManyAbove ic_X0 Z 5 [(0, ic_rv κ.1 61), (1, .int x1_), (2, .int x2_), (3, .int y3_), (4, .int y4_)] [] 106 (ic_rs sw) μ 0 0 := by
  intro fu
  induction fu with
  | zero =>
    intro y3_ y4_ hf
    exact absurd hf (by simp [lpX6_howManyAbove_5])
  | succ fu ih =>
    intro y3_ y4_ hf
    rw [lpX6_howManyAbove_5] at hf
    refine iw_iload (i := 4) (pc' := 7) 4 rfl (by decide +kernel) ?_
    refine iw_iload_n (i := 2) (pc' := 8) 2 rfl (by decide +kernel) ?_
    refine iw_icmp_ge (off := 33) (tg := 41) (pc' := 11) hf (by decide +kernel) (fun hf => ?_) (fun hf => ?_)
    · obtain rfl := Option.some.inj hf
      exact iw_sub [3] rfl hk
    · refine iw_iload (i := 4) (pc' := 13) 4 rfl (by decide +kernel) ?_
      refine iw_aload_n (i := 0) (pc' := 14) 0 rfl (by decide +kernel) ?_
      refine iw_getr (pc' := 17) (q := 65) ic_fk6 cO_61 rfl lkf_X6_22 (by decide +kernel) ?_
      refine iw_alen (pc' := 18) (v := (64 : Int32)) cI_65 rfl (by decide +kernel) ?_
      refine iw_icmp_ge (off := 23) (tg := 41) (pc' := 21) hf (by decide +kernel) (fun hf => ?_) (fun hf => ?_)
      · obtain rfl := Option.some.inj hf
        exact iw_sub [3] rfl hk
      · refine iw_aload_n (i := 0) (pc' := 22) 0 rfl (by decide +kernel) ?_
        refine iw_getr (pc' := 25) (q := 65) ic_fk6 cO_61 rfl lkf_X6_22 (by decide +kernel) ?_
        refine iw_iload (i := 4) (pc' := 27) 4 rfl (by decide +kernel) ?_
        refine iw_iald (pc' := 28) hf (fun _ => cI_65) (by decide +kernel) (fun v21 hf => ?_)
        refine iw_iload_n (i := 1) (pc' := 29) 1 rfl (by decide +kernel) ?_
        obtain ⟨q22, hf, hgq22⟩ := ic_bd hf
        have hjq22 : ic_W l κ MX6_howManyAbove ic_X0 Z 35 [(0, ic_rv κ.1 61), (1, .int x1_), (2, .int x2_), (3, .int q22), (4, .int y4_)] [] 106 (ic_rs sw) μ 0 0 := by
          have hf := hgq22
          refine iw_iinc (i := 4) (d := 1) (pc' := 38) (v := (1 : Int32)) (L1 := fun x24 => [(0, ic_rv κ.1 61), (1, .int x1_), (2, .int x2_), (3, .int q22), (4, .int x24)]) hf 4 rfl (fun _ => rfl) (by decide +kernel) (fun x24 hf => ?_)
          refine iw_goto (off := (-33)) (pc' := 5) (by decide +kernel) ?_
          exact iw_sub [0, 1, 2, 3, 4] rfl (ih _ _ hf)
        refine iw_icmp_le (off := 6) (tg := 35) (pc' := 32) hf (by decide +kernel) (fun hf => ?_) (fun hf => ?_)
        · obtain rfl := Option.some.inj hf
          exact iw_sub [0, 1, 2, 3, 4] rfl hjq22
        · refine iw_iinc (i := 3) (d := 1) (pc' := 35) (v := (1 : Int32)) (L1 := fun x23 => [(0, ic_rv κ.1 61), (1, .int x1_), (2, .int x2_), (3, .int x23), (4, .int y4_)]) hf 3 rfl (fun _ => rfl) (by decide +kernel) (fun x23 hf => ?_)
          obtain rfl := Option.some.inj hf
          exact iw_sub [0, 1, 2, 3, 4] rfl hjq22
set_option maxRecDepth 100000 in
set_option maxHeartbeats 4000000 in
theorem ct_X6_howManyAbove (l : Launch) (κ : ic_K) (sw : Nat) (μ : ic_M) (x1 : Int32) (x2 : Int32) {R : Int32} (hf : fX6_howManyAbove μ x1 x2 = some R) : ic_C l κ MX6_howManyAbove [ic_rv κ.1 61, .int x1, .int x2] 106 (ic_rs sw) μ (some (.int R)) 106 (ic_rs sw) μ := by
  refine ic_C.of (L := [(0, ic_rv κ.1 61), (1, .int x1), (2, .int x2)]) ⟨ic_cat _ _, rfl, rfl, trivial⟩ ⟨by decide +kernel, Nat.le_of_ble_eq_true rfl⟩ rfl ?_
  unfold fX6_howManyAbove at hf
  refine iw_iconst (i := 0) (v := (0 : Int32)) (pc' := 1) (by decide +kernel) ?_
  refine iw_istore_n0 (i := 3) (pc' := 2) (L' := [(0, ic_rv κ.1 61), (1, .int x1), (2, .int x2), (3, .int (0 : Int32))]) rfl (by decide +kernel) ?_
  refine iw_iconst (i := 0) (v := (0 : Int32)) (pc' := 3) (by decide +kernel) ?_
  refine iw_istore0 (i := 4) (pc' := 5) (L' := [(0, ic_rv κ.1 61), (1, .int x1), (2, .int x2), (3, .int (0 : Int32)), (4, .int (0 : Int32))]) rfl (by decide +kernel) ?_
  obtain ⟨q25, hf, hgq25⟩ := ic_bd hf
  have hjq25 : ic_W l κ MX6_howManyAbove ic_X0 (ic_Z κ MX6_howManyAbove (some (.int R)) 106 (ic_rs sw) μ) 41 [(3, .int q25)] [] 106 (ic_rs sw) μ 0 0 := by
    have hf := hgq25
    refine iw_iload_n (i := 3) (pc' := 42) 0 rfl (by decide +kernel) ?_
    exact iw_ireturn (Option.some.inj hf) rfl rfl (by decide +kernel)
  exact iw_sub [0, 1, 2, 3, 4] rfl (lpX6_howManyAbove_5_ok l κ sw μ x1 x2 hjq25 1000 (0 : Int32) (0 : Int32) hf)
set_option maxRecDepth 100000 in
set_option maxHeartbeats 4000000 in
theorem lpX6_bestQuestion_14_ok (l : Launch) (κ : ic_K) (sw : Nat) (μ : ic_M) (r1_ : Nat) (x2_ : Int32) (h1_ : ic_isO 106 r1_ 5) {Z : State → List Frame → Array Value → State → Prop} {R : Int32} (hk : ic_W l κ MX6_bestQuestion ic_X0 Z 66 [(3, .int R)] [] 106 (ic_rs sw) μ 0 0) : ∀ (fu : Nat) (y3_ : Int32) (y4_ : Int32) (y5_ : Int32), lpX6_bestQuestion_14 μ r1_ x2_ fu y3_ y4_ y5_ = some R → ic_W l κ MX6_bestQuestion ic_X0 Z 14 [(0, ic_rv κ.1 61), (1, ic_rv κ.1 r1_), (2, .int x2_), (3, .int y3_), (4, .int y4_), (5, .int y5_)] [] 106 (ic_rs sw) μ 0 0 := by
  intro fu
  induction fu with
  | zero =>
    intro y3_ y4_ y5_ hf
    exact absurd hf (by simp [lpX6_bestQuestion_14])
  | succ fu ih =>
    intro y3_ y4_ y5_ hf
    rw [lpX6_bestQuestion_14] at hf
    refine iw_iload (i := 5) (pc' := 16) 5 rfl (by decide +kernel) ?_
    refine iw_bipush (i := 60) (v := (60 : Int32)) (pc' := 18) (by decide +kernel) ?_
    refine iw_icmp_gt (off := 48) (tg := 66) (pc' := 21) hf (by decide +kernel) (fun hf => ?_) (fun hf => ?_)
    · obtain rfl := Option.some.inj hf
      exact iw_sub [3] rfl hk
    · refine iw_aload_n (i := 0) (pc' := 22) 0 rfl (by decide +kernel) ?_
      refine iw_aload_n (i := 1) (pc' := 23) 1 rfl (by decide +kernel) ?_
      refine iw_geti (pc' := 26) ic_fk5 h1_ lkf_X6_42 (by decide +kernel) ?_
      refine iw_iload (i := 5) (pc' := 28) 5 rfl (by decide +kernel) ?_
      refine iw_imul (pc' := 29) (by decide +kernel) ?_
      refine iw_iload_n (i := 2) (pc' := 30) 2 rfl (by decide +kernel) ?_
      obtain ⟨v22, hc, hf⟩ := ic_bd hf
      refine iw_callV (pc' := 33) (S0 := []) (S1 := [.int v22]) (c1 := 0) (s1 := 0) (k := 2) (ct_X6_howManyAbove l κ sw μ ((μ r1_ 10) * y5_) x2_ hc) cO_61 ⟨rfl, rfl⟩ mv_X6_howManyAbove lkm_X6_49 ⟨rfl, rfl⟩ (ic_sum8 trivial (Nat.le_of_ble_eq_true rfl)) (by unfold ic_rm; decide +kernel) ⟨rfl, rfl, rfl⟩ ⟨Nat.le_of_ble_eq_true rfl, Nat.le_of_ble_eq_true rfl⟩ ?_
      refine iw_istore0 (i := 6) (pc' := 35) (L' := [(0, ic_rv κ.1 61), (1, ic_rv κ.1 r1_), (2, .int x2_), (3, .int y3_), (4, .int y4_), (5, .int y5_), (6, .int v22)]) rfl (by decide +kernel) ?_
      refine iw_iload (i := 6) (pc' := 37) 6 rfl (by decide +kernel) ?_
      refine iw_iload_n (i := 2) (pc' := 38) 2 rfl (by decide +kernel) ?_
      refine iw_iload (i := 6) (pc' := 40) 6 rfl (by decide +kernel) ?_
      refine iw_isub (pc' := 41) (by decide +kernel) ?_
      refine iw_mmax (pc' := 44) lkm_X6_53 (ic_sum8 trivial (Nat.le_of_ble_eq_true rfl)) (by decide +kernel) ?_
      refine iw_istore (i := 7) (pc' := 46) (L1 := fun x23 => [(0, ic_rv κ.1 61), (1, ic_rv κ.1 r1_), (2, .int x2_), (3, .int y3_), (4, .int y4_), (5, .int y5_), (6, .int v22), (7, .int x23)]) hf (fun _ => rfl) (by decide +kernel) (fun x23 hf => ?_)
      refine iw_iload (i := 7) (pc' := 48) 7 rfl (by decide +kernel) ?_
      refine iw_iload (i := 4) (pc' := 50) 4 rfl (by decide +kernel) ?_
      obtain ⟨q24, hf, hgq24⟩ := ic_bd hf
      have hjq24 : ic_W l κ MX6_bestQuestion ic_X0 Z 60 [(0, ic_rv κ.1 61), (1, ic_rv κ.1 r1_), (2, .int x2_), (3, .int q24.1), (4, .int q24.2), (5, .int y5_)] [] 106 (ic_rs sw) μ 0 0 := by
        have hf := hgq24
        refine iw_iinc (i := 5) (d := 1) (pc' := 63) (v := (1 : Int32)) (L1 := fun x25 => [(0, ic_rv κ.1 61), (1, ic_rv κ.1 r1_), (2, .int x2_), (3, .int q24.1), (4, .int q24.2), (5, .int x25)]) hf 5 rfl (fun _ => rfl) (by decide +kernel) (fun x25 hf => ?_)
        refine iw_goto (off := (-49)) (pc' := 14) (by decide +kernel) ?_
        exact iw_sub [0, 1, 2, 3, 4, 5] rfl (ih _ _ _ hf)
      refine iw_icmp_ge (off := 10) (tg := 60) (pc' := 53) hf (by decide +kernel) (fun hf => ?_) (fun hf => ?_)
      · obtain rfl := Option.some.inj hf
        exact iw_sub [0, 1, 2, 3, 4, 5] rfl hjq24
      · refine iw_iload (i := 5) (pc' := 55) 5 rfl (by decide +kernel) ?_
        refine iw_istore_n0 (i := 3) (pc' := 56) (L' := [(0, ic_rv κ.1 61), (1, ic_rv κ.1 r1_), (2, .int x2_), (3, .int y5_), (4, .int y4_), (5, .int y5_), (6, .int v22), (7, .int x23)]) rfl (by decide +kernel) ?_
        refine iw_iload (i := 7) (pc' := 58) 7 rfl (by decide +kernel) ?_
        refine iw_istore0 (i := 4) (pc' := 60) (L' := [(0, ic_rv κ.1 61), (1, ic_rv κ.1 r1_), (2, .int x2_), (3, .int y5_), (4, .int x23), (5, .int y5_), (6, .int v22), (7, .int x23)]) rfl (by decide +kernel) ?_
        obtain rfl := Option.some.inj hf
        exact iw_sub [0, 1, 2, 3, 4, 5] rfl hjq24
set_option maxRecDepth 100000 in
set_option maxHeartbeats 4000000 in
theorem ct_X6_bestQuestion (l : Launch) (κ : ic_K) (sw : Nat) (μ : ic_M) (r1 : Nat) (h1 : ic_isO 106 r1 5) {R : Int32 × ic_M} (hf : fX6_bestQuestion μ r1 = some R) : ic_C l κ MX6_bestQuestion [ic_rv κ.1 61, ic_rv κ.1 r1] 106 (ic_rs sw) μ (some (.int R.1)) 106 (ic_rs sw) R.2 := by
  refine ic_C.of (L := [(0, ic_rv κ.1 61), (1, ic_rv κ.1 r1)]) ⟨ic_cat _ _, ic_cat _ _, trivial⟩ ⟨by decide +kernel, Nat.le_of_ble_eq_true rfl⟩ rfl ?_
  unfold fX6_bestQuestion at hf
  refine iw_aload_n (i := 0) (pc' := 1) 0 rfl (by decide +kernel) ?_
  refine iw_aload_n (i := 1) (pc' := 2) 1 rfl (by decide +kernel) ?_
  obtain ⟨q21, hc, hf⟩ := ic_bd hf
  refine iw_callV (pc' := 5) (S0 := []) (S1 := [.int q21.1]) (c1 := 0) (s1 := 0) (k := 1) (ct_X6_howMany l κ sw μ r1 h1 hc) cO_61 ⟨rfl, rfl⟩ mv_X6_howMany lkm_X6_45 ⟨rfl, rfl⟩ (ic_sum8 trivial (Nat.le_of_ble_eq_true rfl)) (by unfold ic_rm; decide +kernel) ⟨rfl, rfl, rfl⟩ ⟨Nat.le_of_ble_eq_true rfl, Nat.le_of_ble_eq_true rfl⟩ ?_
  refine iw_istore_n0 (i := 2) (pc' := 6) (L' := [(0, ic_rv κ.1 61), (1, ic_rv κ.1 r1), (2, .int q21.1)]) rfl (by decide +kernel) ?_
  refine iw_iconst (i := (-1)) (v := (-1 : Int32)) (pc' := 7) (by decide +kernel) ?_
  refine iw_istore_n0 (i := 3) (pc' := 8) (L' := [(0, ic_rv κ.1 61), (1, ic_rv κ.1 r1), (2, .int q21.1), (3, .int (-1 : Int32))]) rfl (by decide +kernel) ?_
  refine iw_iload_n (i := 2) (pc' := 9) 2 rfl (by decide +kernel) ?_
  refine iw_istore0 (i := 4) (pc' := 11) (L' := [(0, ic_rv κ.1 61), (1, ic_rv κ.1 r1), (2, .int q21.1), (3, .int (-1 : Int32)), (4, .int q21.1)]) rfl (by decide +kernel) ?_
  refine iw_iconst (i := 1) (v := (1 : Int32)) (pc' := 12) (by decide +kernel) ?_
  refine iw_istore0 (i := 5) (pc' := 14) (L' := [(0, ic_rv κ.1 61), (1, ic_rv κ.1 r1), (2, .int q21.1), (3, .int (-1 : Int32)), (4, .int q21.1), (5, .int (1 : Int32))]) rfl (by decide +kernel) ?_
  obtain ⟨q26, hf, hgq26⟩ := ic_bd hf
  have hjq26 : ic_W l κ MX6_bestQuestion ic_X0 (ic_Z κ MX6_bestQuestion (some (.int R.1)) 106 (ic_rs sw) R.2) 66 [(3, .int q26)] [] 106 (ic_rs sw) q21.2 0 0 := by
    have hf := hgq26
    refine iw_iload_n (i := 3) (pc' := 67) 0 rfl (by decide +kernel) ?_
    exact iw_ireturn (ic_q1 (Option.some.inj hf)) rfl (ic_q2 (Option.some.inj hf)) (by decide +kernel)
  exact iw_sub [0, 1, 2, 3, 4, 5] rfl (lpX6_bestQuestion_14_ok l κ sw q21.2 r1 q21.1 h1 hjq26 1000 (-1 : Int32) q21.1 (1 : Int32) hf)
set_option maxRecDepth 100000 in
set_option maxHeartbeats 4000000 in
theorem lpX7_inchesBehind_17_ok (l : Launch) (κ : ic_K) (sw : Nat) (μ : ic_M) (r1_ : Nat) (r2_ : Nat) (x3_ : Int32) (x4_ : Int32) (h1_ : ic_isO 106 r1_ 5) (h2_ : ic_isO 106 r2_ 1) {Z : State → List Frame → Array Value → State → Prop} {R : Int32} (hk : ic_W l κ MX7_inchesBehind ic_X0 Z 73 [(5, .int R)] [] 106 (ic_rs sw) μ 0 0) : ∀ (fu : Nat) (y5_ : Int32) (y6_ : Int32) (y7_ : Int32), lpX7_inchesBehind_17 μ r1_ r2_ x3_ x4_ fu y5_ y6_ y7_ = some R → ic_W l κ MX7_inchesBehind ic_X0 Z 17 [(1, ic_rv κ.1 r1_), (2, ic_rv κ.1 r2_), (3, .int x3_), (4, .int x4_), (5, .int y5_), (6, .int y6_), (7, .int y7_)] [] 106 (ic_rs sw) μ 0 0 := by
  intro fu
  induction fu with
  | zero =>
    intro y5_ y6_ y7_ hf
    exact absurd hf (by simp [lpX7_inchesBehind_17])
  | succ fu ih =>
    intro y5_ y6_ y7_ hf
    rw [lpX7_inchesBehind_17] at hf
    refine iw_iload (i := 7) (pc' := 19) 6 rfl (by decide +kernel) ?_
    refine iw_iload (i := 4) (pc' := 21) 3 rfl (by decide +kernel) ?_
    refine iw_icmp_ge (off := 52) (tg := 73) (pc' := 24) hf (by decide +kernel) (fun hf => ?_) (fun hf => ?_)
    · obtain rfl := Option.some.inj hf
      exact iw_sub [4] rfl hk
    · refine iw_aload_n (i := 1) (pc' := 25) 0 rfl (by decide +kernel) ?_
      refine iw_aload_n (i := 2) (pc' := 26) 1 rfl (by decide +kernel) ?_
      refine iw_geti (pc' := 29) ic_fk1 h2_ lkf_X7_26 (by decide +kernel) ?_
      refine iw_iload (i := 7) (pc' := 31) 6 rfl (by decide +kernel) ?_
      refine iw_iadd (pc' := 32) (by decide +kernel) ?_
      obtain ⟨v23, hc, hf⟩ := ic_bd hf
      refine iw_callV (pc' := 35) (S0 := []) (S1 := [.int v23]) (c1 := 0) (s1 := 0) (k := 1) (ct_X5_coldOf l κ sw μ r1_ h1_ ((μ r2_ 3) + y7_) hc) h1_ ⟨rfl, rfl⟩ mv_X5_coldOf lkm_X7_30 ⟨rfl, rfl⟩ (ic_sum8 trivial (Nat.le_of_ble_eq_true rfl)) (by unfold ic_rm; decide +kernel) ⟨rfl, rfl, rfl⟩ ⟨Nat.le_of_ble_eq_true rfl, Nat.le_of_ble_eq_true rfl⟩ ?_
      refine iw_istore0 (i := 8) (pc' := 37) (L' := [(1, ic_rv κ.1 r1_), (2, ic_rv κ.1 r2_), (3, .int x3_), (4, .int x4_), (5, .int y5_), (6, .int y6_), (7, .int y7_), (8, .int v23)]) rfl (by decide +kernel) ?_
      refine iw_aload_n (i := 1) (pc' := 38) 0 rfl (by decide +kernel) ?_
      refine iw_iload (i := 5) (pc' := 40) 4 rfl (by decide +kernel) ?_
      refine iw_iload_n (i := 3) (pc' := 41) 2 rfl (by decide +kernel) ?_
      refine iw_iload (i := 8) (pc' := 43) 7 rfl (by decide +kernel) ?_
      refine iw_iload (i := 6) (pc' := 45) 5 rfl (by decide +kernel) ?_
      obtain ⟨v24, hc, hf⟩ := ic_bd hf
      refine iw_callV (pc' := 48) (S0 := []) (S1 := [.int v24]) (c1 := 0) (s1 := 0) (k := 4) (ct_X5_inchesAfter l κ sw μ r1_ h1_ y5_ x3_ v23 y6_ hc) h1_ ⟨rfl, rfl⟩ mv_X5_inchesAfter lkm_X7_35 ⟨rfl, rfl⟩ (ic_sum8 trivial (Nat.le_of_ble_eq_true rfl)) (by unfold ic_rm; decide +kernel) ⟨rfl, rfl, rfl⟩ ⟨Nat.le_of_ble_eq_true rfl, Nat.le_of_ble_eq_true rfl⟩ ?_
      refine iw_istore0 (i := 5) (pc' := 50) (L' := [(1, ic_rv κ.1 r1_), (2, ic_rv κ.1 r2_), (3, .int x3_), (4, .int x4_), (5, .int v24), (6, .int y6_), (7, .int y7_), (8, .int v23)]) rfl (by decide +kernel) ?_
      refine iw_iload (i := 6) (pc' := 52) 5 rfl (by decide +kernel) ?_
      obtain ⟨q25, hf, hgq25⟩ := ic_bd hf
      have hjq25 : ic_W l κ MX7_inchesBehind ic_X0 Z 65 [(1, ic_rv κ.1 r1_), (2, ic_rv κ.1 r2_), (3, .int x3_), (4, .int x4_), (5, .int v24), (7, .int y7_)] [.int q25] 106 (ic_rs sw) μ 0 0 := by
        have hf := hgq25
        refine iw_istore0 (i := 6) (pc' := 67) (L' := [(1, ic_rv κ.1 r1_), (2, ic_rv κ.1 r2_), (3, .int x3_), (4, .int x4_), (5, .int v24), (6, .int q25), (7, .int y7_)]) rfl (by decide +kernel) ?_
        refine iw_iinc (i := 7) (d := 1) (pc' := 70) (v := (1 : Int32)) (L1 := fun x26 => [(1, ic_rv κ.1 r1_), (2, ic_rv κ.1 r2_), (3, .int x3_), (4, .int x4_), (5, .int v24), (6, .int q25), (7, .int x26)]) hf 6 rfl (fun _ => rfl) (by decide +kernel) (fun x26 hf => ?_)
        refine iw_goto (off := (-53)) (pc' := 17) (by decide +kernel) ?_
        exact iw_sub [0, 1, 2, 3, 4, 5, 6] rfl (ih _ _ _ hf)
      refine iw_if_eq (off := 12) (tg := 64) (pc' := 55) hf (by decide +kernel) (fun hf => ?_) (fun hf => ?_)
      · refine iw_iconst (i := 0) (v := (0 : Int32)) (pc' := 65) (by decide +kernel) ?_
        obtain rfl := Option.some.inj hf
        exact iw_sub [0, 1, 2, 3, 4, 6] rfl hjq25
      · refine iw_iload (i := 8) (pc' := 57) 7 rfl (by decide +kernel) ?_
        refine iw_if_le (off := 7) (tg := 64) (pc' := 60) hf (by decide +kernel) (fun hf => ?_) (fun hf => ?_)
        · refine iw_iconst (i := 0) (v := (0 : Int32)) (pc' := 65) (by decide +kernel) ?_
          obtain rfl := Option.some.inj hf
          exact iw_sub [0, 1, 2, 3, 4, 6] rfl hjq25
        · refine iw_iconst (i := 1) (v := (1 : Int32)) (pc' := 61) (by decide +kernel) ?_
          refine iw_goto (off := 4) (pc' := 65) (by decide +kernel) ?_
          obtain rfl := Option.some.inj hf
          exact iw_sub [0, 1, 2, 3, 4, 6] rfl hjq25
set_option maxRecDepth 100000 in
set_option maxHeartbeats 4000000 in
theorem ct_X7_inchesBehind (l : Launch) (κ : ic_K) (sw : Nat) (μ : ic_M) (r1 : Nat) (h1 : ic_isO 106 r1 5) (r2 : Nat) (h2 : ic_isO 106 r2 1) (x3 : Int32) (x4 : Int32) {R : Int32} (hf : fX7_inchesBehind μ r1 r2 x3 x4 = some R) : ic_C l κ MX7_inchesBehind [ic_rv κ.1 57, ic_rv κ.1 r1, ic_rv κ.1 r2, .int x3, .int x4] 106 (ic_rs sw) μ (some (.int R)) 106 (ic_rs sw) μ := by
  refine ic_C.of (L := [(0, ic_rv κ.1 57), (1, ic_rv κ.1 r1), (2, ic_rv κ.1 r2), (3, .int x3), (4, .int x4)]) ⟨ic_cat _ _, ic_cat _ _, ic_cat _ _, rfl, rfl, trivial⟩ ⟨by decide +kernel, Nat.le_of_ble_eq_true rfl⟩ rfl ?_
  unfold fX7_inchesBehind at hf
  refine iw_aload_n (i := 2) (pc' := 1) 2 rfl (by decide +kernel) ?_
  refine iw_iload_n (i := 3) (pc' := 2) 3 rfl (by decide +kernel) ?_
  obtain ⟨v21, hc, hf⟩ := ic_bd hf
  refine iw_callV (pc' := 5) (S0 := []) (S1 := [.int v21]) (c1 := 0) (s1 := 0) (k := 1) (ct_X1_inchesOf l κ sw μ r2 h2 x3 hc) h2 ⟨rfl, rfl⟩ mv_X1_inchesOf lkm_X7_18 ⟨rfl, rfl⟩ (ic_sum8 trivial (Nat.le_of_ble_eq_true rfl)) (by unfold ic_rm; decide +kernel) ⟨rfl, rfl, rfl⟩ ⟨Nat.le_of_ble_eq_true rfl, Nat.le_of_ble_eq_true rfl⟩ ?_
  refine iw_istore0 (i := 5) (pc' := 7) (L' := [(0, ic_rv κ.1 57), (1, ic_rv κ.1 r1), (2, ic_rv κ.1 r2), (3, .int x3), (4, .int x4), (5, .int v21)]) rfl (by decide +kernel) ?_
  refine iw_aload_n (i := 2) (pc' := 8) 2 rfl (by decide +kernel) ?_
  refine iw_iload_n (i := 3) (pc' := 9) 3 rfl (by decide +kernel) ?_
  obtain ⟨v22, hc, hf⟩ := ic_bd hf
  refine iw_callV (pc' := 12) (S0 := []) (S1 := [.int v22]) (c1 := 0) (s1 := 0) (k := 1) (ct_X1_isSnowy l κ sw μ r2 h2 x3 hc) h2 ⟨rfl, rfl⟩ mv_X1_isSnowy lkm_X7_22 ⟨rfl, rfl⟩ (ic_sum8 trivial (Nat.le_of_ble_eq_true rfl)) (by unfold ic_rm; decide +kernel) ⟨rfl, rfl, rfl⟩ ⟨Nat.le_of_ble_eq_true rfl, Nat.le_of_ble_eq_true rfl⟩ ?_
  refine iw_istore0 (i := 6) (pc' := 14) (L' := [(0, ic_rv κ.1 57), (1, ic_rv κ.1 r1), (2, ic_rv κ.1 r2), (3, .int x3), (4, .int x4), (5, .int v21), (6, .int v22)]) rfl (by decide +kernel) ?_
  refine iw_iconst (i := 0) (v := (0 : Int32)) (pc' := 15) (by decide +kernel) ?_
  refine iw_istore0 (i := 7) (pc' := 17) (L' := [(0, ic_rv κ.1 57), (1, ic_rv κ.1 r1), (2, ic_rv κ.1 r2), (3, .int x3), (4, .int x4), (5, .int v21), (6, .int v22), (7, .int (0 : Int32))]) rfl (by decide +kernel) ?_
  obtain ⟨q27, hf, hgq27⟩ := ic_bd hf
  have hjq27 : ic_W l κ MX7_inchesBehind ic_X0 (ic_Z κ MX7_inchesBehind (some (.int R)) 106 (ic_rs sw) μ) 73 [(5, .int q27)] [] 106 (ic_rs sw) μ 0 0 := by
    have hf := hgq27
    refine iw_iload (i := 5) (pc' := 75) 0 rfl (by decide +kernel) ?_
    exact iw_ireturn (Option.some.inj hf) rfl rfl (by decide +kernel)
  exact iw_sub [1, 2, 3, 4, 5, 6, 7] rfl (lpX7_inchesBehind_17_ok l κ sw μ r1 r2 x3 x4 h1 h2 hjq27 1000 v21 v22 (0 : Int32) hf)
set_option maxRecDepth 100000 in
set_option maxHeartbeats 4000000 in
theorem lpX7_firstNight_17_ok (l : Launch) (κ : ic_K) (sw : Nat) (μ : ic_M) (r1_ : Nat) (r2_ : Nat) (x3_ : Int32) (x4_ : Int32) (x5_ : Int32) (h1_ : ic_isO 106 r1_ 5) (h2_ : ic_isO 106 r2_ 1) {Rf : Int32} {R : (Unit) ⊕ (Int32)} (hk : ∀ t, R = .inl t → ic_W l κ MX7_firstNight ic_X0 (ic_Z κ MX7_firstNight (some (.int Rf)) 106 (ic_rs sw) μ) 102 [] [] 106 (ic_rs sw) μ 0 0) (hr : ∀ v, R = .inr v → v = Rf) : ∀ (fu : Nat) (y6_ : Int32) (y7_ : Int32) (y8_ : Int32), lpX7_firstNight_17 μ r1_ r2_ x3_ x4_ x5_ fu y6_ y7_ y8_ = some R → ic_W l κ MX7_firstNight ic_X0 (ic_Z κ MX7_firstNight (some (.int Rf)) 106 (ic_rs sw) μ) 17 [(1, ic_rv κ.1 r1_), (2, ic_rv κ.1 r2_), (3, .int x3_), (4, .int x4_), (5, .int x5_), (6, .int y6_), (7, .int y7_), (8, .int y8_)] [] 106 (ic_rs sw) μ 0 0 := by
  intro fu
  induction fu with
  | zero =>
    intro y6_ y7_ y8_ hf
    exact absurd hf (by simp [lpX7_firstNight_17])
  | succ fu ih =>
    intro y6_ y7_ y8_ hf
    rw [lpX7_firstNight_17] at hf
    refine iw_iload (i := 8) (pc' := 19) 7 rfl (by decide +kernel) ?_
    refine iw_bipush (i := 60) (v := (60 : Int32)) (pc' := 21) (by decide +kernel) ?_
    refine iw_icmp_gt (off := 81) (tg := 102) (pc' := 24) hf (by decide +kernel) (fun hf => ?_) (fun hf => ?_)
    · exact iw_sub [] rfl (hk _ (Option.some.inj hf).symm)
    · refine iw_aload_n (i := 1) (pc' := 25) 0 rfl (by decide +kernel) ?_
      refine iw_geti (pc' := 28) ic_fk5 h1_ lkf_X7_39 (by decide +kernel) ?_
      refine iw_iload (i := 6) (pc' := 30) 5 rfl (by decide +kernel) ?_
      refine iw_imul (pc' := 31) (by decide +kernel) ?_
      refine iw_iload (i := 4) (pc' := 33) 3 rfl (by decide +kernel) ?_
      obtain ⟨q23, hf, hgq23⟩ := ic_bd hf
      have hjq23 : ic_W l κ MX7_firstNight ic_X0 (ic_Z κ MX7_firstNight (some (.int Rf)) 106 (ic_rs sw) μ) 41 [(1, ic_rv κ.1 r1_), (2, ic_rv κ.1 r2_), (3, .int x3_), (4, .int x4_), (5, .int x5_), (6, .int y6_), (7, .int y7_), (8, .int y8_)] [.int q23] 106 (ic_rs sw) μ 0 0 := by
        have hf := hgq23
        refine iw_istore0 (i := 9) (pc' := 43) (L' := [(1, ic_rv κ.1 r1_), (2, ic_rv κ.1 r2_), (3, .int x3_), (4, .int x4_), (5, .int x5_), (6, .int y6_), (7, .int y7_), (8, .int y8_), (9, .int q23)]) rfl (by decide +kernel) ?_
        refine iw_iload (i := 9) (pc' := 45) 8 rfl (by decide +kernel) ?_
        refine iw_iload (i := 5) (pc' := 47) 4 rfl (by decide +kernel) ?_
        refine iw_icmp_ne (off := 6) (tg := 53) (pc' := 50) hf (by decide +kernel) (fun hf => ?_) (fun hf => ?_)
        · refine iw_aload_n (i := 1) (pc' := 54) 0 rfl (by decide +kernel) ?_
          refine iw_aload_n (i := 2) (pc' := 55) 1 rfl (by decide +kernel) ?_
          refine iw_geti (pc' := 58) ic_fk1 h2_ lkf_X7_26 (by decide +kernel) ?_
          refine iw_iload (i := 8) (pc' := 60) 7 rfl (by decide +kernel) ?_
          refine iw_iadd (pc' := 61) (by decide +kernel) ?_
          obtain ⟨v24, hc, hf⟩ := ic_bd hf
          refine iw_callV (pc' := 64) (S0 := []) (S1 := [.int v24]) (c1 := 0) (s1 := 0) (k := 1) (ct_X5_coldOf l κ sw μ r1_ h1_ ((μ r2_ 3) + y8_) hc) h1_ ⟨rfl, rfl⟩ mv_X5_coldOf lkm_X7_30 ⟨rfl, rfl⟩ (ic_sum8 trivial (Nat.le_of_ble_eq_true rfl)) (by unfold ic_rm; decide +kernel) ⟨rfl, rfl, rfl⟩ ⟨Nat.le_of_ble_eq_true rfl, Nat.le_of_ble_eq_true rfl⟩ ?_
          refine iw_istore0 (i := 10) (pc' := 66) (L' := [(1, ic_rv κ.1 r1_), (2, ic_rv κ.1 r2_), (3, .int x3_), (4, .int x4_), (5, .int x5_), (6, .int y6_), (7, .int y7_), (8, .int y8_), (9, .int q23), (10, .int v24)]) rfl (by decide +kernel) ?_
          refine iw_aload_n (i := 1) (pc' := 67) 0 rfl (by decide +kernel) ?_
          refine iw_iload (i := 6) (pc' := 69) 5 rfl (by decide +kernel) ?_
          refine iw_iload_n (i := 3) (pc' := 70) 2 rfl (by decide +kernel) ?_
          refine iw_iload (i := 10) (pc' := 72) 9 rfl (by decide +kernel) ?_
          refine iw_iload (i := 7) (pc' := 74) 6 rfl (by decide +kernel) ?_
          obtain ⟨v25, hc, hf⟩ := ic_bd hf
          refine iw_callV (pc' := 77) (S0 := []) (S1 := [.int v25]) (c1 := 0) (s1 := 0) (k := 4) (ct_X5_inchesAfter l κ sw μ r1_ h1_ y6_ x3_ v24 y7_ hc) h1_ ⟨rfl, rfl⟩ mv_X5_inchesAfter lkm_X7_35 ⟨rfl, rfl⟩ (ic_sum8 trivial (Nat.le_of_ble_eq_true rfl)) (by unfold ic_rm; decide +kernel) ⟨rfl, rfl, rfl⟩ ⟨Nat.le_of_ble_eq_true rfl, Nat.le_of_ble_eq_true rfl⟩ ?_
          refine iw_istore0 (i := 6) (pc' := 79) (L' := [(1, ic_rv κ.1 r1_), (2, ic_rv κ.1 r2_), (3, .int x3_), (4, .int x4_), (5, .int x5_), (6, .int v25), (7, .int y7_), (8, .int y8_), (9, .int q23), (10, .int v24)]) rfl (by decide +kernel) ?_
          refine iw_iload (i := 7) (pc' := 81) 6 rfl (by decide +kernel) ?_
          obtain ⟨q26, hf, hgq26⟩ := ic_bd hf
          have hjq26 : ic_W l κ MX7_firstNight ic_X0 (ic_Z κ MX7_firstNight (some (.int Rf)) 106 (ic_rs sw) μ) 94 [(1, ic_rv κ.1 r1_), (2, ic_rv κ.1 r2_), (3, .int x3_), (4, .int x4_), (5, .int x5_), (6, .int v25), (8, .int y8_)] [.int q26] 106 (ic_rs sw) μ 0 0 := by
            have hf := hgq26
            refine iw_istore0 (i := 7) (pc' := 96) (L' := [(1, ic_rv κ.1 r1_), (2, ic_rv κ.1 r2_), (3, .int x3_), (4, .int x4_), (5, .int x5_), (6, .int v25), (7, .int q26), (8, .int y8_)]) rfl (by decide +kernel) ?_
            refine iw_iinc (i := 8) (d := 1) (pc' := 99) (v := (1 : Int32)) (L1 := fun x27 => [(1, ic_rv κ.1 r1_), (2, ic_rv κ.1 r2_), (3, .int x3_), (4, .int x4_), (5, .int x5_), (6, .int v25), (7, .int q26), (8, .int x27)]) hf 7 rfl (fun _ => rfl) (by decide +kernel) (fun x27 hf => ?_)
            refine iw_goto (off := (-82)) (pc' := 17) (by decide +kernel) ?_
            exact iw_sub [0, 1, 2, 3, 4, 5, 6, 7] rfl (ih _ _ _ hf)
          refine iw_if_eq (off := 12) (tg := 93) (pc' := 84) hf (by decide +kernel) (fun hf => ?_) (fun hf => ?_)
          · refine iw_iconst (i := 0) (v := (0 : Int32)) (pc' := 94) (by decide +kernel) ?_
            obtain rfl := Option.some.inj hf
            exact iw_sub [0, 1, 2, 3, 4, 5, 7] rfl hjq26
          · refine iw_iload (i := 10) (pc' := 86) 9 rfl (by decide +kernel) ?_
            refine iw_if_le (off := 7) (tg := 93) (pc' := 89) hf (by decide +kernel) (fun hf => ?_) (fun hf => ?_)
            · refine iw_iconst (i := 0) (v := (0 : Int32)) (pc' := 94) (by decide +kernel) ?_
              obtain rfl := Option.some.inj hf
              exact iw_sub [0, 1, 2, 3, 4, 5, 7] rfl hjq26
            · refine iw_iconst (i := 1) (v := (1 : Int32)) (pc' := 90) (by decide +kernel) ?_
              refine iw_goto (off := 4) (pc' := 94) (by decide +kernel) ?_
              obtain rfl := Option.some.inj hf
              exact iw_sub [0, 1, 2, 3, 4, 5, 7] rfl hjq26
        · refine iw_iload (i := 8) (pc' := 52) 7 rfl (by decide +kernel) ?_
          exact iw_ireturn (hr _ (Option.some.inj hf).symm) rfl rfl (by decide +kernel)
      refine iw_icmp_lt (off := 7) (tg := 40) (pc' := 36) hf (by decide +kernel) (fun hf => ?_) (fun hf => ?_)
      · refine iw_iconst (i := 0) (v := (0 : Int32)) (pc' := 41) (by decide +kernel) ?_
        obtain rfl := Option.some.inj hf
        exact iw_sub [0, 1, 2, 3, 4, 5, 6, 7] rfl hjq23
      · refine iw_iconst (i := 1) (v := (1 : Int32)) (pc' := 37) (by decide +kernel) ?_
        refine iw_goto (off := 4) (pc' := 41) (by decide +kernel) ?_
        obtain rfl := Option.some.inj hf
        exact iw_sub [0, 1, 2, 3, 4, 5, 6, 7] rfl hjq23
set_option maxRecDepth 100000 in
set_option maxHeartbeats 4000000 in
theorem ct_X7_firstNight (l : Launch) (κ : ic_K) (sw : Nat) (μ : ic_M) (r1 : Nat) (h1 : ic_isO 106 r1 5) (r2 : Nat) (h2 : ic_isO 106 r2 1) (x3 : Int32) (x4 : Int32) (x5 : Int32) {R : Int32} (hf : fX7_firstNight μ r1 r2 x3 x4 x5 = some R) : ic_C l κ MX7_firstNight [ic_rv κ.1 57, ic_rv κ.1 r1, ic_rv κ.1 r2, .int x3, .int x4, .int x5] 106 (ic_rs sw) μ (some (.int R)) 106 (ic_rs sw) μ := by
  refine ic_C.of (L := [(0, ic_rv κ.1 57), (1, ic_rv κ.1 r1), (2, ic_rv κ.1 r2), (3, .int x3), (4, .int x4), (5, .int x5)]) ⟨ic_cat _ _, ic_cat _ _, ic_cat _ _, rfl, rfl, rfl, trivial⟩ ⟨by decide +kernel, Nat.le_of_ble_eq_true rfl⟩ rfl ?_
  unfold fX7_firstNight at hf
  refine iw_aload_n (i := 2) (pc' := 1) 2 rfl (by decide +kernel) ?_
  refine iw_iload_n (i := 3) (pc' := 2) 3 rfl (by decide +kernel) ?_
  obtain ⟨v21, hc, hf⟩ := ic_bd hf
  refine iw_callV (pc' := 5) (S0 := []) (S1 := [.int v21]) (c1 := 0) (s1 := 0) (k := 1) (ct_X1_inchesOf l κ sw μ r2 h2 x3 hc) h2 ⟨rfl, rfl⟩ mv_X1_inchesOf lkm_X7_18 ⟨rfl, rfl⟩ (ic_sum8 trivial (Nat.le_of_ble_eq_true rfl)) (by unfold ic_rm; decide +kernel) ⟨rfl, rfl, rfl⟩ ⟨Nat.le_of_ble_eq_true rfl, Nat.le_of_ble_eq_true rfl⟩ ?_
  refine iw_istore0 (i := 6) (pc' := 7) (L' := [(0, ic_rv κ.1 57), (1, ic_rv κ.1 r1), (2, ic_rv κ.1 r2), (3, .int x3), (4, .int x4), (5, .int x5), (6, .int v21)]) rfl (by decide +kernel) ?_
  refine iw_aload_n (i := 2) (pc' := 8) 2 rfl (by decide +kernel) ?_
  refine iw_iload_n (i := 3) (pc' := 9) 3 rfl (by decide +kernel) ?_
  obtain ⟨v22, hc, hf⟩ := ic_bd hf
  refine iw_callV (pc' := 12) (S0 := []) (S1 := [.int v22]) (c1 := 0) (s1 := 0) (k := 1) (ct_X1_isSnowy l κ sw μ r2 h2 x3 hc) h2 ⟨rfl, rfl⟩ mv_X1_isSnowy lkm_X7_22 ⟨rfl, rfl⟩ (ic_sum8 trivial (Nat.le_of_ble_eq_true rfl)) (by unfold ic_rm; decide +kernel) ⟨rfl, rfl, rfl⟩ ⟨Nat.le_of_ble_eq_true rfl, Nat.le_of_ble_eq_true rfl⟩ ?_
  refine iw_istore0 (i := 7) (pc' := 14) (L' := [(0, ic_rv κ.1 57), (1, ic_rv κ.1 r1), (2, ic_rv κ.1 r2), (3, .int x3), (4, .int x4), (5, .int x5), (6, .int v21), (7, .int v22)]) rfl (by decide +kernel) ?_
  refine iw_iconst (i := 0) (v := (0 : Int32)) (pc' := 15) (by decide +kernel) ?_
  refine iw_istore0 (i := 8) (pc' := 17) (L' := [(0, ic_rv κ.1 57), (1, ic_rv κ.1 r1), (2, ic_rv κ.1 r2), (3, .int x3), (4, .int x4), (5, .int x5), (6, .int v21), (7, .int v22), (8, .int (0 : Int32))]) rfl (by decide +kernel) ?_
  obtain ⟨q28, hf, hgq28⟩ := ic_bd hf
  refine iw_sub [1, 2, 3, 4, 5, 6, 7, 8] rfl (lpX7_firstNight_17_ok l κ sw μ r1 r2 x3 x4 x5 h1 h2 (R := q28) (fun t29 e => ?_) (fun v e => ?_) 1000 v21 v22 (0 : Int32) hf)
  · subst e
    simp only [Sum.elim_inl] at hgq28
    have hf := hgq28
    refine iw_iconst (i := (-1)) (v := (-1 : Int32)) (pc' := 103) (by decide +kernel) ?_
    exact iw_ireturn (Option.some.inj hf) rfl rfl (by decide +kernel)
  · subst e
    simp only [Sum.elim_inr] at hgq28
    exact Option.some.inj hgq28
