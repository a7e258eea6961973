def MX9_cells : ic_Md := (yX9_cells, cX9_cells, 1, (some .int), { frames := 0, cells := 0, slots := 0, locals := 0 })
theorem mv_X9_cells : ic_MV MX9_cells := ⟨ic_in 1028 (by decide +kernel), ic_in 37 (by decide +kernel), ic_in 79 (by decide +kernel), ic_in 1029 (by decide +kernel), by decide +kernel, by decide +kernel⟩
def MX9_river : ic_Md := (yX9_river, cX9_river, 2, (some .int), { frames := 5, cells := 0, slots := 0, locals := 108 })
theorem mv_X9_river : ic_MV MX9_river := ⟨ic_in 976 (by decide +kernel), ic_in 977 (by decide +kernel), ic_in 79 (by decide +kernel), ic_in 978 (by decide +kernel), by decide +kernel, by decide +kernel⟩
def MX9_fault : ic_Md := (yX9_fault, cX9_fault, 1, (some .int), { frames := 0, cells := 0, slots := 0, locals := 0 })
theorem mv_X9_fault : ic_MV MX9_fault := ⟨ic_in 1031 (by decide +kernel), ic_in 1032 (by decide +kernel), ic_in 79 (by decide +kernel), ic_in 1033 (by decide +kernel), by decide +kernel, by decide +kernel⟩
def MX9_isRiver : ic_Md := (yX9_isRiver, cX9_isRiver, 1, (some .boolean), { frames := 0, cells := 0, slots := 0, locals := 0 })
theorem mv_X9_isRiver : ic_MV MX9_isRiver := ⟨ic_in 1101 (by decide +kernel), ic_in 50 (by decide +kernel), ic_in 79 (by decide +kernel), ic_in 1102 (by decide +kernel), by decide +kernel, by decide +kernel⟩
def MX9_isCell : ic_Md := (yX9_isCell, cX9_isCell, 2, (some .boolean), { frames := 1, cells := 0, slots := 0, locals := 22 })
theorem mv_X9_isCell : ic_MV MX9_isCell := ⟨ic_in 1080 (by decide +kernel), ic_in 47 (by decide +kernel), ic_in 79 (by decide +kernel), ic_in 1081 (by decide +kernel), by decide +kernel, by decide +kernel⟩
def MX9_isPerson : ic_Md := (yX9_isPerson, cX9_isPerson, 2, (some .boolean), { frames := 1, cells := 0, slots := 0, locals := 22 })
theorem mv_X9_isPerson : ic_MV MX9_isPerson := ⟨ic_in 1093 (by decide +kernel), ic_in 49 (by decide +kernel), ic_in 79 (by decide +kernel), ic_in 1094 (by decide +kernel), by decide +kernel, by decide +kernel⟩
def MX9_areNext : ic_Md := (yX9_areNext, cX9_areNext, 5, (some .boolean), { frames := 0, cells := 0, slots := 0, locals := 0 })
theorem mv_X9_areNext : ic_MV MX9_areNext := ⟨ic_in 1056 (by decide +kernel), ic_in 42 (by decide +kernel), ic_in 79 (by decide +kernel), ic_in 1057 (by decide +kernel), by decide +kernel, by decide +kernel⟩
def MX9_bearsOf : ic_Md := (yX9_bearsOf, cX9_bearsOf, 3, (some .int), { frames := 0, cells := 0, slots := 0, locals := 0 })
theorem mv_X9_bearsOf : ic_MV MX9_bearsOf := ⟨ic_in 1060 (by decide +kernel), ic_in 43 (by decide +kernel), ic_in 79 (by decide +kernel), ic_in 1061 (by decide +kernel), by decide +kernel, by decide +kernel⟩
def MX9_loadOf : ic_Md := (yX9_loadOf, cX9_loadOf, 7, (some .int), { frames := 1, cells := 0, slots := 0, locals := 24 })
theorem mv_X9_loadOf : ic_MV MX9_loadOf := ⟨ic_in 1052 (by decide +kernel), ic_in 41 (by decide +kernel), ic_in 79 (by decide +kernel), ic_in 1053 (by decide +kernel), by decide +kernel, by decide +kernel⟩
def MX9_onCell : ic_Md := (yX9_onCell, cX9_onCell, 5, (some .int), { frames := 0, cells := 0, slots := 0, locals := 0 })
theorem mv_X9_onCell : ic_MV MX9_onCell := ⟨ic_in 1064 (by decide +kernel), ic_in 44 (by decide +kernel), ic_in 79 (by decide +kernel), ic_in 1065 (by decide +kernel), by decide +kernel, by decide +kernel⟩
def MX9_cracks : ic_Md := (yX9_cracks, cX9_cracks, 4, (some .boolean), { frames := 2, cells := 0, slots := 0, locals := 50 })
theorem mv_X9_cracks : ic_MV MX9_cracks := ⟨ic_in 1048 (by decide +kernel), ic_in 40 (by decide +kernel), ic_in 79 (by decide +kernel), ic_in 1049 (by decide +kernel), by decide +kernel, by decide +kernel⟩
def MX9_breaking : ic_Md := (yX9_breaking, cX9_breaking, 4, (some .int), { frames := 2, cells := 0, slots := 0, locals := 50 })
theorem mv_X9_breaking : ic_MV MX9_breaking := ⟨ic_in 1133 (by decide +kernel), ic_in 56 (by decide +kernel), ic_in 79 (by decide +kernel), ic_in 1134 (by decide +kernel), by decide +kernel, by decide +kernel⟩
def MX9_drowns : ic_Md := (yX9_drowns, cX9_drowns, 3, none, { frames := 0, cells := 0, slots := 0, locals := 0 })
theorem mv_X9_drowns : ic_MV MX9_drowns := ⟨ic_in 1140 (by decide +kernel), ic_in 57 (by decide +kernel), ic_in 79 (by decide +kernel), ic_in 1141 (by decide +kernel), by decide +kernel, by decide +kernel⟩
def MX9_owns : ic_Md := (yX9_owns, cX9_owns, 3, none, { frames := 0, cells := 0, slots := 0, locals := 0 })
theorem ms_X9_owns : ic_MS MX9_owns := ⟨ic_in 1136 (by decide +kernel), ic_in 79 (by decide +kernel), ic_in 1137 (by decide +kernel), by decide +kernel, by decide +kernel⟩
def MX9_breaks : ic_Md := (yX9_breaks, cX9_breaks, 7, (some .int), { frames := 3, cells := 0, slots := 0, locals := 73 })
theorem mv_X9_breaks : ic_MV MX9_breaks := ⟨ic_in 1129 (by decide +kernel), ic_in 55 (by decide +kernel), ic_in 79 (by decide +kernel), ic_in 1130 (by decide +kernel), by decide +kernel, by decide +kernel⟩
def MX9_columnOf : ic_Md := (yX9_columnOf, cX9_columnOf, 2, (some .int), { frames := 0, cells := 0, slots := 0, locals := 0 })
theorem mv_X9_columnOf : ic_MV MX9_columnOf := ⟨ic_in 1152 (by decide +kernel), ic_in 59 (by decide +kernel), ic_in 79 (by decide +kernel), ic_in 1153 (by decide +kernel), by decide +kernel, by decide +kernel⟩
def MX9_canGo : ic_Md := (yX9_canGo, cX9_canGo, 5, (some .boolean), { frames := 1, cells := 0, slots := 0, locals := 24 })
theorem mv_X9_canGo : ic_MV MX9_canGo := ⟨ic_in 1148 (by decide +kernel), ic_in 58 (by decide +kernel), ic_in 79 (by decide +kernel), ic_in 1149 (by decide +kernel), by decide +kernel, by decide +kernel⟩
def MX9_steps : ic_Md := (yX9_steps, cX9_steps, 4, (some .int), { frames := 4, cells := 0, slots := 0, locals := 99 })
theorem mv_X9_steps : ic_MV MX9_steps := ⟨ic_in 1156 (by decide +kernel), ic_in 60 (by decide +kernel), ic_in 79 (by decide +kernel), ic_in 1157 (by decide +kernel), by decide +kernel, by decide +kernel⟩
def MX9_coldOf : ic_Md := (yX9_coldOf, cX9_coldOf, 2, (some .int), { frames := 0, cells := 0, slots := 0, locals := 0 })
theorem mv_X9_coldOf : ic_MV MX9_coldOf := ⟨ic_in 1105 (by decide +kernel), ic_in 51 (by decide +kernel), ic_in 79 (by decide +kernel), ic_in 1106 (by decide +kernel), by decide +kernel, by decide +kernel⟩
def MX9_currentOf : ic_Md := (yX9_currentOf, cX9_currentOf, 2, (some .int), { frames := 0, cells := 0, slots := 0, locals := 0 })
theorem mv_X9_currentOf : ic_MV MX9_currentOf := ⟨ic_in 1085 (by decide +kernel), ic_in 48 (by decide +kernel), ic_in 79 (by decide +kernel), ic_in 1086 (by decide +kernel), by decide +kernel, by decide +kernel⟩
theorem lkf_X9_17 : Cond.fieldLink RX9 17 RX9 (TX9 3).2.1 (TX9 3).2.2.1 ∈ ic_tb := ic_in 896 (by decide +kernel)
theorem lkf_X9_13 : Cond.fieldLink RX9 13 RX9 (TX9 2).2.1 (TX9 2).2.2.1 ∈ ic_tb := ic_in 895 (by decide +kernel)
theorem lkm_X9_113 : Cond.methodLink RX9 113 yX9_settles ∈ ic_tb := ic_in 1019 (by decide +kernel)
theorem lkf_X9_20 : Cond.fieldLink RX9 20 RX9 (TX9 4).2.1 (TX9 4).2.2.1 ∈ ic_tb := ic_in 897 (by decide +kernel)
theorem lkf_X9_23 : Cond.fieldLink RX9 23 RX9 (TX9 5).2.1 (TX9 5).2.2.1 ∈ ic_tb := ic_in 898 (by decide +kernel)
theorem lkf_X9_35 : Cond.fieldLink RX9 35 RX9 (TX9 9).2.1 (TX9 9).2.2.1 ∈ ic_tb := ic_in 902 (by decide +kernel)
theorem lkm_X9_120 : Cond.methodLink RX9 120 yX9_cells ∈ ic_tb := ic_in 1026 (by decide +kernel)
theorem lkf_X9_123 : Cond.fieldLink RX9 123 RX9 (TX9 12).2.1 (TX9 12).2.2.1 ∈ ic_tb := ic_in 905 (by decide +kernel)
theorem lkf_X9_126 : Cond.fieldLink RX9 126 RX9 (TX9 18).2.1 (TX9 18).2.2.1 ∈ ic_tb := ic_in 911 (by decide +kernel)
theorem lkf_X9_129 : Cond.fieldLink RX9 129 RX9 (TX9 20).2.1 (TX9 20).2.2.1 ∈ ic_tb := ic_in 913 (by decide +kernel)
theorem lkf_X9_50 : Cond.fieldLink RX9 50 RX9 (TX9 15).2.1 (TX9 15).2.2.1 ∈ ic_tb := ic_in 908 (by decide +kernel)
theorem lkm_X9_116 : Cond.methodLink RX9 116 yX9_copies ∈ ic_tb := ic_in 1023 (by decide +kernel)
theorem lkm_X9_110 : Cond.methodLink RX9 110 yX9_reads ∈ ic_tb := ic_in 987 (by decide +kernel)
theorem lkm_X9_132 : Cond.methodLink RX9 132 yX9_areNext ∈ ic_tb := ic_in 1054 (by decide +kernel)
theorem lkm_X9_140 : Cond.methodLink RX9 140 yX9_bearsOf ∈ ic_tb := ic_in 1058 (by decide +kernel)
theorem lkm_X9_136 : Cond.methodLink RX9 136 yX9_loadOf ∈ ic_tb := ic_in 1050 (by decide +kernel)
theorem lkm_X9_147 : Cond.methodLink RX9 147 yX9_has ∈ ic_tb := ic_in 1124 (by decide +kernel)
theorem lkm_X9_143 : Cond.methodLink RX9 143 yX9_breaking ∈ ic_tb := ic_in 1131 (by decide +kernel)
theorem lkm_X9_150 : Cond.methodLink RX9 150 yX9_owns ∈ ic_tb := ic_in 1135 (by decide +kernel)
theorem lkm_X9_154 : Cond.methodLink RX9 154 yX9_columnOf ∈ ic_tb := ic_in 1150 (by decide +kernel)
theorem lkm_X9_158 : Cond.methodLink RX9 158 yX9_breaks ∈ ic_tb := ic_in 1127 (by decide +kernel)
def fX9_cells (μ : ic_M) : Option (Int32) := ic_ag μ 92 7 (0 : Int32) (fun v21 => ic_ag μ 92 7 (1 : Int32) (fun v22 => some (v21 * v22)))
def lpX9_river_12  : Nat → Int32 → ic_M → Option (ic_M)
  | 0, _, _ => none
  | fu + 1, y1_, μ => (if (36 : Int32) ≤ y1_ then some μ else (if (7 : Int32) = 0 then none else ic_as μ 95 7 (y1_ - y1_ / (7 : Int32) * (7 : Int32)) (0 : Int32) (fun m23 => ic_as m23 96 36 y1_ (0 : Int32) (fun m24 => (if (12 : Int32) = 0 then none else ic_as m24 97 12 (y1_ - y1_ / (12 : Int32) * (12 : Int32)) (0 : Int32) (fun m25 => ic_lt (y1_ + (1 : Int32)) (fun x26 => lpX9_river_12  fu x26 m25)))))))
def lpX9_river_158  : Nat → Int32 → ic_M → Option (ic_M)
  | 0, _, _ => none
  | fu + 1, y1_, μ => (if (28 : Int32) ≤ y1_ then some μ else Option.bind (fX9_cells μ) (fun v39 => Option.bind (if v39 ≤ y1_ then Option.bind (fX9_in μ y1_ (18 : Int32) (23 : Int32)) (fun v41 => (if v41 = 0 then some (0 : Int32) else some (-1 : Int32))) else ic_ag μ 92 7 (4 : Int32) (fun v42 => (if v42 = 0 then none else ic_ag μ 93 36 (y1_ - y1_ / v42 * v42) (fun v43 => some v43)))) (fun q40 => ic_as μ 98 28 y1_ q40 (fun m44 => ic_lt (y1_ + (1 : Int32)) (fun x45 => lpX9_river_158  fu x45 m44)))))
def fX9_river (μ : ic_M) : Option (Int32 × ic_M) := ic_pu μ 90 21 (0 : Int32) (fun m21 => ic_pu m21 90 22 (0 : Int32) (fun m22 => Option.bind (lpX9_river_12  1000 (0 : Int32) m22) (fun q27 => Option.bind (fX9_skips q27) (fun m28 => Option.bind (fX9_reads m28) (fun m29 => ic_pu m29 90 1 (0 : Int32) (fun m30 => Option.bind (if (m30 90 22) = 0 then some (-1 : Int32) else some (m30 90 21)) (fun q31 => ic_pu m30 90 2 q31 (fun m32 => (if (m32 90 22) = 0 then ic_ag m32 95 7 (0 : Int32) (fun v33 => Option.bind (if v33 ≤ 0 then some m32 else Option.bind (fX9_settles m32) (fun m35 => some m35)) (fun q34 => Option.bind (fX9_copies q34 95 (0 : Int32) 92 (0 : Int32) (7 : Int32)) (fun m36 => Option.bind (fX9_copies m36 96 (0 : Int32) 93 (0 : Int32) (36 : Int32)) (fun m37 => Option.bind (fX9_copies m37 97 (0 : Int32) 94 (0 : Int32) (12 : Int32)) (fun m38 => Option.bind (lpX9_river_158  1000 (0 : Int32) m38) (fun q46 => ic_as q46 98 28 (25 : Int32) (-1 : Int32) (fun m47 => ic_pu m47 90 12 (0 : Int32) (fun m48 => ic_pu m48 90 18 (0 : Int32) (fun m49 => ic_pu m49 90 20 (0 : Int32) (fun m50 => ic_az m50 103 2 (0 : Int32) (0 : Int32) (fun m51 => ic_az m51 103 2 (1 : Int32) (0 : Int32) (fun m52 => Option.bind (fX9_cells m52) (fun v53 => some (v53, m52)))))))))))))) else some (((-10 : Int32) - (m32 90 22)), m32))))))))))
def fX9_fault (μ : ic_M) : Option (Int32) := some (μ 90 2)
def fX9_isRiver (μ : ic_M) : Option (Int32) := ic_ag μ 92 7 (0 : Int32) (fun v21 => Option.bind (if v21 ≤ 0 then some (0 : Int32) else some (1 : Int32)) (fun q22 => ic_rz q22 (some q22)))
def fX9_isCell (μ : ic_M) (x1 : Int32) : Option (Int32) := Option.bind (fX9_cells μ) (fun v21 => Option.bind (fX9_in μ x1 (0 : Int32) (v21 - (1 : Int32))) (fun v22 => ic_rz v22 (some v22)))
def fX9_isPerson (μ : ic_M) (x1 : Int32) : Option (Int32) := ic_ag μ 92 7 (3 : Int32) (fun v21 => Option.bind (fX9_in μ x1 (0 : Int32) (v21 - (1 : Int32))) (fun v22 => ic_rz v22 (some v22)))
def fX9_areNext (μ : ic_M) (x1 : Int32) (x2 : Int32) : Option (Int32) := ic_ag μ 92 7 (0 : Int32) (fun v21 => (if v21 = 0 then none else ic_ag μ 92 7 (0 : Int32) (fun v22 => (if v22 = 0 then none else ic_lt (((x1 / v21) - (x2 / v22))) (fun x23 => ic_ag μ 92 7 (0 : Int32) (fun v24 => (if v24 = 0 then none else ic_ag μ 92 7 (0 : Int32) (fun v25 => (if v25 = 0 then none else ic_lt (((x1 - x1 / v24 * v24) - (x2 - x2 / v25 * v25))) (fun x26 => Option.bind (if ((x23 * x23) + (x26 * x26)) = (1 : Int32) then some (1 : Int32) else some (0 : Int32)) (fun q27 => ic_rz q27 (some q27))))))))))))
def fX9_bearsOf (μ : ic_M) (r1 : Nat) (x2 : Int32) : Option (Int32) := ic_ag μ 92 7 (2 : Int32) (fun v21 => ic_ag μ r1 (ic_il 106 r1) x2 (fun v22 => some (v21 * v22)))
def lpX9_loadOf_8 (μ : ic_M) (r1_ : Nat) (x2_ : Int32) : Nat → Int32 → Int32 → Int32 → Option (Int32 × Int32)
  | 0, _, _, _ => none
  | fu + 1, y3_, y4_, y5_ => ic_ag μ 92 7 (3 : Int32) (fun v21 => (if v21 ≤ y5_ then some (y3_, y4_) else ic_ag μ r1_ (ic_il 106 r1_) ((18 : Int32) + y5_) (fun v22 => Option.bind (if v22 = x2_ then ic_ag μ 94 12 (((2 : Int32) * y5_) + (1 : Int32)) (fun v24 => some v24) else some (0 : Int32)) (fun q23 => ic_lt ((y3_ + q23)) (fun x25 => Option.bind (if v22 < 0 then some (0 : Int32) else Option.bind (fX9_areNext μ v22 x2_) (fun v27 => (if v27 = 0 then some (0 : Int32) else ic_ag μ 94 12 (((2 : Int32) * y5_) + (1 : Int32)) (fun v28 => some v28)))) (fun q26 => ic_lt ((y4_ + q26)) (fun x29 => ic_lt (y5_ + (1 : Int32)) (fun x30 => lpX9_loadOf_8 μ r1_ x2_ fu x25 x29 x30))))))))
def fX9_loadOf (μ : ic_M) (r1 : Nat) (x2 : Int32) : Option (Int32) := Option.bind (lpX9_loadOf_8 μ r1 x2 1000 (0 : Int32) (0 : Int32) (0 : Int32)) (fun q31 => (if (2 : Int32) = 0 then none else some (q31.1 + (q31.2 / (2 : Int32)))))
def lpX9_onCell_5 (μ : ic_M) (r1_ : Nat) (x2_ : Int32) : Nat → Int32 → Int32 → Option (Int32)
  | 0, _, _ => none
  | fu + 1, y3_, y4_ => ic_ag μ 92 7 (3 : Int32) (fun v21 => (if v21 ≤ y4_ then some y3_ else ic_ag μ r1_ (ic_il 106 r1_) ((18 : Int32) + y4_) (fun v22 => Option.bind (if v22 = x2_ then some ((1 : Int32) <<< (y4_ &&& 31)) else some (0 : Int32)) (fun q23 => ic_lt ((y3_ ||| q23)) (fun x24 => ic_lt (y4_ + (1 : Int32)) (fun x25 => lpX9_onCell_5 μ r1_ x2_ fu x24 x25))))))
def fX9_onCell (μ : ic_M) (r1 : Nat) (x2 : Int32) : Option (Int32) := Option.bind (lpX9_onCell_5 μ r1 x2 1000 (0 : Int32) (0 : Int32)) (fun q26 => some q26)
def fX9_cracks (μ : ic_M) (r1 : Nat) (x2 : Int32) : Option (Int32) := Option.bind (fX9_loadOf μ r1 x2) (fun v21 => Option.bind (fX9_bearsOf μ r1 x2) (fun v22 => (if (4 : Int32) = 0 then none else Option.bind (if v21 ≤ (((3 : Int32) * v22) / (4 : Int32)) then some (0 : Int32) else Option.bind (fX9_bearsOf μ r1 x2) (fun v24 => (if v24 < v21 then some (0 : Int32) else some (1 : Int32)))) (fun q23 => ic_rz q23 (some q23)))))
def lpX9_breaking_4 (μ : ic_M) (r1_ : Nat) : Nat → Int32 → Int32 → Option (Int32)
  | 0, _, _ => none
  | fu + 1, y2_, y3_ => Option.bind (fX9_cells μ) (fun v21 => (if v21 ≤ y3_ then some y2_ else ic_ag μ r1_ (ic_il 106 r1_) y3_ (fun v22 => Option.bind (if v22 ≤ 0 then some (0 : Int32) else Option.bind (fX9_loadOf μ r1_ y3_) (fun v24 => Option.bind (fX9_bearsOf μ r1_ y3_) (fun v25 => (if v24 ≤ v25 then some (0 : Int32) else some ((1 : Int32) <<< (y3_ &&& 31)))))) (fun q23 => ic_lt ((y2_ ||| q23)) (fun x26 => ic_lt (y3_ + (1 : Int32)) (fun x27 => lpX9_breaking_4 μ r1_ fu x26 x27))))))
def fX9_breaking (μ : ic_M) (r1 : Nat) : Option (Int32) := Option.bind (lpX9_breaking_4 μ r1 1000 (0 : Int32) (0 : Int32)) (fun q28 => some q28)
def lpX9_drowns_2 (r1_ : Nat) : Nat → Int32 → ic_M → Option (ic_M)
  | 0, _, _ => none
  | fu + 1, y2_, μ => ic_ag μ 92 7 (3 : Int32) (fun v21 => (if v21 ≤ y2_ then some μ else ic_ag μ r1_ (ic_il 106 r1_) ((18 : Int32) + y2_) (fun v22 => Option.bind (if v22 < 0 then some μ else ic_ag μ r1_ (ic_il 106 r1_) ((18 : Int32) + y2_) (fun v24 => ic_ag μ r1_ (ic_il 106 r1_) v24 (fun v25 => (if v25 = 0 then ic_as μ r1_ (ic_il 106 r1_) ((18 : Int32) + y2_) (-2 : Int32) (fun m26 => some m26) else some μ)))) (fun q23 => ic_lt (y2_ + (1 : Int32)) (fun x27 => lpX9_drowns_2 r1_ fu x27 q23)))))
def fX9_drowns (μ : ic_M) (r1 : Nat) : Option (ic_M) := Option.bind (lpX9_drowns_2 r1 1000 (0 : Int32) μ) (fun q28 => some q28)
def fX9_owns (μ : ic_M) (r0 : Nat) (x1 : Int32) (x2 : Int32) : Option (ic_M) := ic_ag μ r0 (ic_il 106 r0) (27 : Int32) (fun v21 => ic_as μ r0 (ic_il 106 r0) (27 : Int32) (v21 + x2) (fun m22 => Option.bind (if x2 ≤ 0 then ic_ag m22 r0 (ic_il 106 r0) (25 : Int32) (fun v24 => some v24) else ic_ag m22 r0 (ic_il 106 r0) (25 : Int32) (fun v25 => (if v25 = (-1 : Int32) then some x1 else ic_ag m22 r0 (ic_il 106 r0) (25 : Int32) (fun v26 => some v26)))) (fun q23 => ic_as m22 r0 (ic_il 106 r0) (25 : Int32) q23 (fun m27 => some m27))))
def lpX9_breaks_47 (r1_ : Nat) (x2_ : Int32) (x3_ : Int32) (x4_ : Int32) (x5_ : Int32) : Nat → Int32 → ic_M → Option (ic_M)
  | 0, _, _ => none
  | fu + 1, y6_, μ => ic_ag μ 92 7 (3 : Int32) (fun v27 => (if v27 ≤ y6_ then some μ else ic_ag μ r1_ (ic_il 106 r1_) ((18 : Int32) + y6_) (fun v28 => Option.bind (if v28 = x5_ then some (-2 : Int32) else ic_ag μ r1_ (ic_il 106 r1_) ((18 : Int32) + y6_) (fun v30 => some v30)) (fun q29 => ic_as μ r1_ (ic_il 106 r1_) ((18 : Int32) + y6_) q29 (fun m31 => ic_lt (y6_ + (1 : Int32)) (fun x32 => lpX9_breaks_47 r1_ x2_ x3_ x4_ x5_ fu x32 m31))))))
def lpX9_breaks_17 (r1_ : Nat) (x2_ : Int32) (x4_ : Int32) : Nat → Int32 → Int32 → ic_M → Option (Int32 × ic_M)
  | 0, _, _, _ => none
  | fu + 1, y3_, y5_, μ => Option.bind (fX9_cells μ) (fun v22 => (if v22 ≤ y5_ then some (y3_, μ) else Option.bind (fX9_has μ x4_ y5_) (fun v23 => Option.bind (if v23 = 0 then some (y3_, μ) else ic_as μ r1_ (ic_il 106 r1_) y5_ (0 : Int32) (fun m25 => ic_lt (y3_ + (1 : Int32)) (fun x26 => Option.bind (lpX9_breaks_47 r1_ x2_ x26 x4_ y5_ 1000 (0 : Int32) m25) (fun q33 => some (x26, q33))))) (fun q24 => ic_lt (y5_ + (1 : Int32)) (fun x34 => lpX9_breaks_17 r1_ x2_ x4_ fu q24.1 x34 q24.2)))))
def lpX9_breaks_9 (r1_ : Nat) (x2_ : Int32) : Nat → Int32 → Int32 → ic_M → Option (Int32 × ic_M)
  | 0, _, _, _ => none
  | fu + 1, y3_, y4_, μ => (if y4_ = 0 then some (y3_, μ) else Option.bind (lpX9_breaks_17 r1_ x2_ y4_ 1000 y3_ (0 : Int32) μ) (fun q35 => Option.bind (fX9_breaking q35.2 r1_) (fun v36 => lpX9_breaks_9 r1_ x2_ fu q35.1 v36 q35.2)))
def fX9_breaks (μ : ic_M) (r1 : Nat) (x2 : Int32) : Option (Int32 × ic_M) := Option.bind (fX9_breaking μ r1) (fun v21 => Option.bind (lpX9_breaks_9 r1 x2 1000 (0 : Int32) v21 μ) (fun q37 => Option.bind (fX9_owns q37.2 r1 x2 q37.1) (fun m38 => some (q37.1, m38))))
def fX9_columnOf (μ : ic_M) (x1 : Int32) : Option (Int32) := ic_ag μ 94 12 ((2 : Int32) * x1) (fun v21 => Option.bind (if v21 = 0 then some (0 : Int32) else ic_ag μ 92 7 (0 : Int32) (fun v23 => some (v23 - (1 : Int32)))) (fun q22 => some q22))
def fX9_canGo (μ : ic_M) (r1 : Nat) (x2 : Int32) (x3 : Int32) : Option (Int32) := ic_ag μ r1 (ic_il 106 r1) ((18 : Int32) + x2) (fun v21 => (if v21 = (-2 : Int32) then ic_rz (0 : Int32) (some (0 : Int32)) else (if x3 = (-1 : Int32) then Option.bind (if v21 < 0 then some (0 : Int32) else ic_ag μ 92 7 (0 : Int32) (fun v28 => (if v28 = 0 then none else Option.bind (fX9_columnOf μ x2) (fun v29 => (if (v21 - v21 / v28 * v28) = v29 then some (1 : Int32) else some (0 : Int32)))))) (fun q27 => ic_rz q27 (some q27)) else ic_ag μ r1 (ic_il 106 r1) x3 (fun v22 => Option.bind (if v22 ≤ 0 then some (0 : Int32) else (if v21 = (-1 : Int32) then ic_ag μ 92 7 (0 : Int32) (fun v25 => (if v25 = 0 then none else Option.bind (fX9_columnOf μ x2) (fun v26 => (if (x3 - x3 / v25 * v25) = v26 then some (1 : Int32) else some (0 : Int32))))) else Option.bind (fX9_areNext μ v21 x3) (fun v24 => (if v24 = 0 then some (0 : Int32) else some (1 : Int32))))) (fun q23 => ic_rz q23 (some q23))))))
def fX9_steps (μ : ic_M) (r1 : Nat) (x2 : Int32) (x3 : Int32) : Option (Int32 × ic_M) := ic_as μ r1 (ic_il 106 r1) ((18 : Int32) + x2) x3 (fun m21 => ic_ag m21 94 12 ((2 : Int32) * x2) (fun v22 => Option.bind (fX9_breaks m21 r1 v22) (fun q23 => some (q23.1, q23.2))))
def fX9_coldOf (μ : ic_M) (x1 : Int32) : Option (Int32) := ic_ag μ 92 7 (6 : Int32) (fun v21 => (if v21 = 0 then none else ic_ag μ 93 36 ((24 : Int32) + (x1 - x1 / v21 * v21)) (fun v22 => some (v22 - (10 : Int32)))))
def fX9_currentOf (μ : ic_M) (x1 : Int32) : Option (Int32) := ic_ag μ 92 7 (0 : Int32) (fun v21 => (if v21 = 0 then none else ic_ag μ 92 7 (5 : Int32) (fun v22 => (if v22 = 0 then none else ic_ag μ 93 36 ((18 : Int32) + ((x1 - x1 / v21 * v21) - (x1 - x1 / v21 * v21) / v22 * v22)) (fun v23 => some v23)))))
set_option maxRecDepth 100000 in
set_option maxHeartbeats 4000000 in
theorem ct_X9_cells (l : Launch) (κ : ic_K) (sw : Nat) (μ : ic_M) {R : Int32} (hf : fX9_cells μ = some R) : ic_C l κ MX9_cells [ic_rv κ.1 90] 106 (ic_rs sw) μ (some (.int R)) 106 (ic_rs sw) μ := by
  refine ic_C.of (L := [(0, ic_rv κ.1 90)]) ⟨ic_cat _ _, trivial⟩ ⟨by decide +kernel, Nat.le_of_ble_eq_true rfl⟩ rfl ?_
  unfold fX9_cells at hf
  refine iw_aload_n (i := 0) (pc' := 1) 0 rfl (by decide +kernel) ?_
  refine iw_getr (pc' := 4) (q := 92) ic_fk9 cO_90 rfl lkf_X9_17 (by decide +kernel) ?_
  refine iw_iconst (i := 0) (v := (0 : Int32)) (pc' := 5) (by decide +kernel) ?_
  refine iw_iald (pc' := 6) hf (fun _ => cI_92) (by decide +kernel) (fun v21 hf => ?_)
  refine iw_aload_n (i := 0) (pc' := 7) 0 rfl (by decide +kernel) ?_
  refine iw_getr (pc' := 10) (q := 92) ic_fk9 cO_90 rfl lkf_X9_17 (by decide +kernel) ?_
  refine iw_iconst (i := 1) (v := (1 : Int32)) (pc' := 11) (by decide +kernel) ?_
  refine iw_iald (pc' := 12) hf (fun _ => cI_92) (by decide +kernel) (fun v22 hf => ?_)
  refine iw_imul (pc' := 13) (by decide +kernel) ?_
  exact iw_ireturn (Option.some.inj hf) rfl rfl (by decide +kernel)
set_option maxRecDepth 100000 in
set_option maxHeartbeats 4000000 in
theorem lpX9_river_12_ok (l : Launch) (κ : ic_K) (sw : Nat)  {Z : State → List Frame → Array Value → State → Prop} {R : ic_M} (hk : ic_W l κ MX9_river ic_X0 Z 51 [(0, ic_rv κ.1 90)] [] 106 (ic_rs sw) R 0 0) : ∀ (fu : Nat) (y1_ : Int32) (μ : ic_M), lpX9_river_12  fu y1_ μ = some R → ic_W l κ MX9_river ic_X0 Z 12 [(0, ic_rv κ.1 90), (1, .int y1_)] [] 106 (ic_rs sw) μ 0 0 := by
  intro fu
  induction fu with
  | zero =>
    intro y1_ μ hf
    exact absurd hf (by simp [lpX9_river_12])
  | succ fu ih =>
    intro y1_ μ hf
    rw [lpX9_river_12] at hf
    refine iw_iload_n (i := 1) (pc' := 13) 1 rfl (by decide +kernel) ?_
    refine iw_bipush (i := 36) (v := (36 : Int32)) (pc' := 15) (by decide +kernel) ?_
    refine iw_icmp_ge (off := 36) (tg := 51) (pc' := 18) hf (by decide +kernel) (fun hf => ?_) (fun hf => ?_)
    · obtain rfl := Option.some.inj hf
      exact iw_sub [0] rfl hk
    · refine iw_aload_n (i := 0) (pc' := 19) 0 rfl (by decide +kernel) ?_
      refine iw_getr (pc' := 22) (q := 95) ic_fk9 cO_90 rfl lkf_X9_26 (by decide +kernel) ?_
      refine iw_iload_n (i := 1) (pc' := 23) 1 rfl (by decide +kernel) ?_
      refine iw_bipush (i := 7) (v := (7 : Int32)) (pc' := 25) (by decide +kernel) ?_
      refine iw_irem (pc' := 26) hf (by decide +kernel) (fun hf => ?_)
      refine iw_iconst (i := 0) (v := (0 : Int32)) (pc' := 27) (by decide +kernel) ?_
      refine iw_iast (pc' := 28) hf (fun _ => cI_95) (by decide +kernel) (fun m23 hf => ?_)
      refine iw_aload_n (i := 0) (pc' := 29) 0 rfl (by decide +kernel) ?_
      refine iw_getr (pc' := 32) (q := 96) ic_fk9 cO_90 rfl lkf_X9_29 (by decide +kernel) ?_
      refine iw_iload_n (i := 1) (pc' := 33) 1 rfl (by decide +kernel) ?_
      refine iw_iconst (i := 0) (v := (0 : Int32)) (pc' := 34) (by decide +kernel) ?_
      refine iw_iast (pc' := 35) hf (fun _ => cI_96) (by decide +kernel) (fun m24 hf => ?_)
      refine iw_aload_n (i := 0) (pc' := 36) 0 rfl (by decide +kernel) ?_
      refine iw_getr (pc' := 39) (q := 97) ic_fk9 cO_90 rfl lkf_X9_32 (by decide +kernel) ?_
      refine iw_iload_n (i := 1) (pc' := 40) 1 rfl (by decide +kernel) ?_
      refine iw_bipush (i := 12) (v := (12 : Int32)) (pc' := 42) (by decide +kernel) ?_
      refine iw_irem (pc' := 43) hf (by decide +kernel) (fun hf => ?_)
      refine iw_iconst (i := 0) (v := (0 : Int32)) (pc' := 44) (by decide +kernel) ?_
      refine iw_iast (pc' := 45) hf (fun _ => cI_97) (by decide +kernel) (fun m25 hf => ?_)
      refine iw_iinc (i := 1) (d := 1) (pc' := 48) (v := (1 : Int32)) (L1 := fun x26 => [(0, ic_rv κ.1 90), (1, .int x26)]) hf 1 rfl (fun _ => rfl) (by decide +kernel) (fun x26 hf => ?_)
      refine iw_goto (off := (-36)) (pc' := 12) (by decide +kernel) ?_
      exact iw_sub [0, 1] rfl (ih _ _ hf)
set_option maxRecDepth 100000 in
set_option maxHeartbeats 4000000 in
theorem lpX9_river_158_ok (l : Launch) (κ : ic_K) (sw : Nat)  {Z : State → List Frame → Array Value → State → Prop} {R : ic_M} (hk : ic_W l κ MX9_river ic_X0 Z 216 [(0, ic_rv κ.1 90)] [] 106 (ic_rs sw) R 0 0) : ∀ (fu : Nat) (y1_ : Int32) (μ : ic_M), lpX9_river_158  fu y1_ μ = some R → ic_W l κ MX9_river ic_X0 Z 158 [(0, ic_rv κ.1 90), (1, .int y1_)] [] 106 (ic_rs sw) μ 0 0 := by
  intro fu
  induction fu with
  | zero =>
    intro y1_ μ hf
    exact absurd hf (by simp [lpX9_river_158])
  | succ fu ih =>
    intro y1_ μ hf
    rw [lpX9_river_158] at hf
    refine iw_iload_n (i := 1) (pc' := 159) 1 rfl (by decide +kernel) ?_
    refine iw_bipush (i := 28) (v := (28 : Int32)) (pc' := 161) (by decide +kernel) ?_
    refine iw_icmp_ge (off := 55) (tg := 216) (pc' := 164) hf (by decide +kernel) (fun hf => ?_) (fun hf => ?_)
    · obtain rfl := Option.some.inj hf
      exact iw_sub [0] rfl hk
    · refine iw_aload_n (i := 0) (pc' := 165) 0 rfl (by decide +kernel) ?_
      refine iw_getr (pc' := 168) (q := 98) ic_fk9 cO_90 rfl lkf_X9_35 (by decide +kernel) ?_
      refine iw_iload_n (i := 1) (pc' := 169) 1 rfl (by decide +kernel) ?_
      refine iw_iload_n (i := 1) (pc' := 170) 1 rfl (by decide +kernel) ?_
      refine iw_aload_n (i := 0) (pc' := 171) 0 rfl (by decide +kernel) ?_
      obtain ⟨v39, hc, hf⟩ := ic_bd hf
      refine iw_callV (pc' := 174) (S0 := [.int y1_, .int y1_, ic_rv κ.1 98]) (S1 := [.int v39, .int y1_, .int y1_, ic_rv κ.1 98]) (c1 := 0) (s1 := 0) (k := 0) (ct_X9_cells l κ sw μ hc) cO_90 ⟨rfl, rfl⟩ mv_X9_cells lkm_X9_120 ⟨rfl, rfl⟩ (ic_sum8 ⟨rfl, rfl, ic_cat _ _, trivial⟩ (Nat.le_of_ble_eq_true rfl)) (by unfold ic_rm; decide +kernel) ⟨rfl, rfl, rfl⟩ ⟨Nat.le_of_ble_eq_true rfl, Nat.le_of_ble_eq_true rfl⟩ ?_
      obtain ⟨q40, hf, hgq40⟩ := ic_bd hf
      have hjq40 : ic_W l κ MX9_river ic_X0 Z 209 [(0, ic_rv κ.1 90), (1, .int y1_)] [.int q40, .int y1_, ic_rv κ.1 98] 106 (ic_rs sw) μ 0 0 := by
        have hf := hgq40
        refine iw_iast (pc' := 210) hf (fun _ => cI_98) (by decide +kernel) (fun m44 hf => ?_)
        refine iw_iinc (i := 1) (d := 1) (pc' := 213) (v := (1 : Int32)) (L1 := fun x45 => [(0, ic_rv κ.1 90), (1, .int x45)]) hf 1 rfl (fun _ => rfl) (by decide +kernel) (fun x45 hf => ?_)
        refine iw_goto (off := (-55)) (pc' := 158) (by decide +kernel) ?_
        exact iw_sub [0, 1] rfl (ih _ _ hf)
      refine iw_icmp_ge (off := 19) (tg := 193) (pc' := 177) hf (by decide +kernel) (fun hf => ?_) (fun hf => ?_)
      · refine iw_iload_n (i := 1) (pc' := 194) 1 rfl (by decide +kernel) ?_
        refine iw_bipush (i := 18) (v := (18 : Int32)) (pc' := 196) (by decide +kernel) ?_
        refine iw_bipush (i := 23) (v := (23 : Int32)) (pc' := 198) (by decide +kernel) ?_
        obtain ⟨v41, hc, hf⟩ := ic_bd hf
        refine iw_callS (pc' := 201) (S0 := [.int y1_, ic_rv κ.1 98]) (S1 := [.int v41, .int y1_, ic_rv κ.1 98]) (c1 := 0) (s1 := 0) (k := 3) (ct_X9_in l κ sw μ y1_ (18 : Int32) (23 : Int32) hc) ms_X9_in lkm_X9_63 ⟨rfl, rfl⟩ (ic_sum8 ⟨rfl, ic_cat _ _, trivial⟩ (Nat.le_of_ble_eq_true rfl)) (by unfold ic_rm; decide +kernel) ⟨rfl, rfl, rfl⟩ ⟨Nat.le_of_ble_eq_true rfl, Nat.le_of_ble_eq_true rfl⟩ ?_
        refine iw_if_eq (off := 7) (tg := 208) (pc' := 204) hf (by decide +kernel) (fun hf => ?_) (fun hf => ?_)
        · refine iw_iconst (i := 0) (v := (0 : Int32)) (pc' := 209) (by decide +kernel) ?_
          obtain rfl := Option.some.inj hf
          exact iw_sub [0, 1] rfl hjq40
        · refine iw_iconst (i := (-1)) (v := (-1 : Int32)) (pc' := 205) (by decide +kernel) ?_
          refine iw_goto (off := 4) (pc' := 209) (by decide +kernel) ?_
          obtain rfl := Option.some.inj hf
          exact iw_sub [0, 1] rfl hjq40
      · refine iw_aload_n (i := 0) (pc' := 178) 0 rfl (by decide +kernel) ?_
        refine iw_getr (pc' := 181) (q := 93) ic_fk9 cO_90 rfl lkf_X9_20 (by decide +kernel) ?_
        refine iw_iload_n (i := 1) (pc' := 182) 1 rfl (by decide +kernel) ?_
        refine iw_aload_n (i := 0) (pc' := 183) 0 rfl (by decide +kernel) ?_
        refine iw_getr (pc' := 186) (q := 92) ic_fk9 cO_90 rfl lkf_X9_17 (by decide +kernel) ?_
        refine iw_iconst (i := 4) (v := (4 : Int32)) (pc' := 187) (by decide +kernel) ?_
        refine iw_iald (pc' := 188) hf (fun _ => cI_92) (by decide +kernel) (fun v42 hf => ?_)
        refine iw_irem (pc' := 189) hf (by decide +kernel) (fun hf => ?_)
        refine iw_iald (pc' := 190) hf (fun _ => cI_93) (by decide +kernel) (fun v43 hf => ?_)
        refine iw_goto (off := 19) (pc' := 209) (by decide +kernel) ?_
        obtain rfl := Option.some.inj hf
        exact iw_sub [0, 1] rfl hjq40
set_option maxRecDepth 100000 in
set_option maxHeartbeats 4000000 in
theorem ct_X9_river (l : Launch) (κ : ic_K) (sw : Nat) (μ : ic_M) {R : Int32 × ic_M} (hf : fX9_river μ = some R) : ic_C l κ MX9_river [ic_rv κ.1 90] 106 (ic_rs sw) μ (some (.int R.1)) 106 (ic_rs sw) R.2 := by
  refine ic_C.of (L := [(0, ic_rv κ.1 90)]) ⟨ic_cat _ _, trivial⟩ ⟨by decide +kernel, Nat.le_of_ble_eq_true rfl⟩ rfl ?_
  unfold fX9_river at hf
  refine iw_aload_n (i := 0) (pc' := 1) 0 rfl (by decide +kernel) ?_
  refine iw_iconst (i := 0) (v := (0 : Int32)) (pc' := 2) (by decide +kernel) ?_
  refine iw_put (pc' := 5) hf ic_fk9 cO_90 lkf_X9_72 (by decide +kernel) (fun m21 hf => ?_)
  refine iw_aload_n (i := 0) (pc' := 6) 0 rfl (by decide +kernel) ?_
  refine iw_iconst (i := 0) (v := (0 : Int32)) (pc' := 7) (by decide +kernel) ?_
  refine iw_put (pc' := 10) hf ic_fk9 cO_90 lkf_X9_75 (by decide +kernel) (fun m22 hf => ?_)
  refine iw_iconst (i := 0) (v := (0 : Int32)) (pc' := 11) (by decide +kernel) ?_
  refine iw_istore_n0 (i := 1) (pc' := 12) (L' := [(0, ic_rv κ.1 90), (1, .int (0 : Int32))]) rfl (by decide +kernel) ?_
  obtain ⟨q27, hf, hgq27⟩ := ic_bd hf
  have hjq27 : ic_W l κ MX9_river ic_X0 (ic_Z κ MX9_river (some (.int R.1)) 106 (ic_rs sw) R.2) 51 [(0, ic_rv κ.1 90)] [] 106 (ic_rs sw) q27 0 0 := by
    have hf := hgq27
    refine iw_aload_n (i := 0) (pc' := 52) 0 rfl (by decide +kernel) ?_
    obtain ⟨m28, hc, hf⟩ := ic_bd hf
    refine iw_callV (pc' := 55) (S0 := []) (S1 := []) (c1 := 0) (s1 := 0) (k := 0) (ct_X9_skips l κ sw q27 hc) cO_90 ⟨rfl, rfl⟩ mv_X9_skips lkm_X9_82 ⟨rfl, rfl⟩ (ic_sum8 trivial (Nat.le_of_ble_eq_true rfl)) (by unfold ic_rm; decide +kernel) ⟨rfl, rfl, rfl⟩ ⟨Nat.le_of_ble_eq_true rfl, Nat.le_of_ble_eq_true rfl⟩ ?_
    refine iw_aload_n (i := 0) (pc' := 56) 0 rfl (by decide +kernel) ?_
    obtain ⟨m29, hc, hf⟩ := ic_bd hf
    refine iw_callV (pc' := 59) (S0 := []) (S1 := []) (c1 := 0) (s1 := 0) (k := 0) (ct_X9_reads l κ sw m28 hc) cO_90 ⟨rfl, rfl⟩ mv_X9_reads lkm_X9_110 ⟨rfl, rfl⟩ (ic_sum8 trivial (Nat.le_of_ble_eq_true rfl)) (by unfold ic_rm; decide +kernel) ⟨rfl, rfl, rfl⟩ ⟨Nat.le_of_ble_eq_true rfl, Nat.le_of_ble_eq_true rfl⟩ ?_
    refine iw_aload_n (i := 0) (pc' := 60) 0 rfl (by decide +kernel) ?_
    refine iw_iconst (i := 0) (v := (0 : Int32)) (pc' := 61) (by decide +kernel) ?_
    refine iw_put (pc' := 64) hf ic_fk9 cO_90 lkf_X9_68 (by decide +kernel) (fun m30 hf => ?_)
    refine iw_aload_n (i := 0) (pc' := 65) 0 rfl (by decide +kernel) ?_
    refine iw_aload_n (i := 0) (pc' := 66) 0 rfl (by decide +kernel) ?_
    refine iw_geti (pc' := 69) ic_fk9 cO_90 lkf_X9_75 (by decide +kernel) ?_
    obtain ⟨q31, hf, hgq31⟩ := ic_bd hf
    have hjq31 : ic_W l κ MX9_river ic_X0 (ic_Z κ MX9_river (some (.int R.1)) 106 (ic_rs sw) R.2) 80 [(0, ic_rv κ.1 90)] [.int q31, ic_rv κ.1 90] 106 (ic_rs sw) m30 0 0 := by
      have hf := hgq31
      refine iw_put (pc' := 83) hf ic_fk9 cO_90 lkf_X9_13 (by decide +kernel) (fun m32 hf => ?_)
      refine iw_aload_n (i := 0) (pc' := 84) 0 rfl (by decide +kernel) ?_
      refine iw_geti (pc' := 87) ic_fk9 cO_90 lkf_X9_75 (by decide +kernel) ?_
      refine iw_if_eq (off := 11) (tg := 98) (pc' := 90) hf (by decide +kernel) (fun hf => ?_) (fun hf => ?_)
      · refine iw_aload_n (i := 0) (pc' := 99) 0 rfl (by decide +kernel) ?_
        refine iw_getr (pc' := 102) (q := 95) ic_fk9 cO_90 rfl lkf_X9_26 (by decide +kernel) ?_
        refine iw_iconst (i := 0) (v := (0 : Int32)) (pc' := 103) (by decide +kernel) ?_
        refine iw_iald (pc' := 104) hf (fun _ => cI_95) (by decide +kernel) (fun v33 hf => ?_)
        obtain ⟨q34, hf, hgq34⟩ := ic_bd hf
        have hjq34 : ic_W l κ MX9_river ic_X0 (ic_Z κ MX9_river (some (.int R.1)) 106 (ic_rs sw) R.2) 111 [(0, ic_rv κ.1 90)] [] 106 (ic_rs sw) q34 0 0 := by
          have hf := hgq34
          refine iw_aload_n (i := 0) (pc' := 112) 0 rfl (by decide +kernel) ?_
          refine iw_getr (pc' := 115) (q := 95) ic_fk9 cO_90 rfl lkf_X9_26 (by decide +kernel) ?_
          refine iw_iconst (i := 0) (v := (0 : Int32)) (pc' := 116) (by decide +kernel) ?_
          refine iw_aload_n (i := 0) (pc' := 117) 0 rfl (by decide +kernel) ?_
          refine iw_getr (pc' := 120) (q := 92) ic_fk9 cO_90 rfl lkf_X9_17 (by decide +kernel) ?_
          refine iw_iconst (i := 0) (v := (0 : Int32)) (pc' := 121) (by decide +kernel) ?_
          refine iw_bipush (i := 7) (v := (7 : Int32)) (pc' := 123) (by decide +kernel) ?_
          obtain ⟨m36, hc, hf⟩ := ic_bd hf
          refine iw_callS (pc' := 126) (S0 := []) (S1 := []) (c1 := 0) (s1 := 0) (k := 5) (ct_X9_copies l κ sw q34 95 (0 : Int32) 92 (0 : Int32) (7 : Int32) hc) ms_X9_copies lkm_X9_116 ⟨rfl, rfl⟩ (ic_sum8 trivial (Nat.le_of_ble_eq_true rfl)) (by unfold ic_rm; decide +kernel) ⟨rfl, rfl, rfl⟩ ⟨Nat.le_of_ble_eq_true rfl, Nat.le_of_ble_eq_true rfl⟩ ?_
          refine iw_aload_n (i := 0) (pc' := 127) 0 rfl (by decide +kernel) ?_
          refine iw_getr (pc' := 130) (q := 96) ic_fk9 cO_90 rfl lkf_X9_29 (by decide +kernel) ?_
          refine iw_iconst (i := 0) (v := (0 : Int32)) (pc' := 131) (by decide +kernel) ?_
          refine iw_aload_n (i := 0) (pc' := 132) 0 rfl (by decide +kernel) ?_
          refine iw_getr (pc' := 135) (q := 93) ic_fk9 cO_90 rfl lkf_X9_20 (by decide +kernel) ?_
          refine iw_iconst (i := 0) (v := (0 : Int32)) (pc' := 136) (by decide +kernel) ?_
          refine iw_bipush (i := 36) (v := (36 : Int32)) (pc' := 138) (by decide +kernel) ?_
          obtain ⟨m37, hc, hf⟩ := ic_bd hf
          refine iw_callS (pc' := 141) (S0 := []) (S1 := []) (c1 := 0) (s1 := 0) (k := 5) (ct_X9_copies l κ sw m36 96 (0 : Int32) 93 (0 : Int32) (36 : Int32) hc) ms_X9_copies lkm_X9_116 ⟨rfl, rfl⟩ (ic_sum8 trivial (Nat.le_of_ble_eq_true rfl)) (by unfold ic_rm; decide +kernel) ⟨rfl, rfl, rfl⟩ ⟨Nat.le_of_ble_eq_true rfl, Nat.le_of_ble_eq_true rfl⟩ ?_
          refine iw_aload_n (i := 0) (pc' := 142) 0 rfl (by decide +kernel) ?_
          refine iw_getr (pc' := 145) (q := 97) ic_fk9 cO_90 rfl lkf_X9_32 (by decide +kernel) ?_
          refine iw_iconst (i := 0) (v := (0 : Int32)) (pc' := 146) (by decide +kernel) ?_
          refine iw_aload_n (i := 0) (pc' := 147) 0 rfl (by decide +kernel) ?_
          refine iw_getr (pc' := 150) (q := 94) ic_fk9 cO_90 rfl lkf_X9_23 (by decide +kernel) ?_
          refine iw_iconst (i := 0) (v := (0 : Int32)) (pc' := 151) (by decide +kernel) ?_
          refine iw_bipush (i := 12) (v := (12 : Int32)) (pc' := 153) (by decide +kernel) ?_
          obtain ⟨m38, hc, hf⟩ := ic_bd hf
          refine iw_callS (pc' := 156) (S0 := []) (S1 := []) (c1 := 0) (s1 := 0) (k := 5) (ct_X9_copies l κ sw m37 97 (0 : Int32) 94 (0 : Int32) (12 : Int32) hc) ms_X9_copies lkm_X9_116 ⟨rfl, rfl⟩ (ic_sum8 trivial (Nat.le_of_ble_eq_true rfl)) (by unfold ic_rm; decide +kernel) ⟨rfl, rfl, rfl⟩ ⟨Nat.le_of_ble_eq_true rfl, Nat.le_of_ble_eq_true rfl⟩ ?_
          refine iw_iconst (i := 0) (v := (0 : Int32)) (pc' := 157) (by decide +kernel) ?_
          refine iw_istore_n0 (i := 1) (pc' := 158) (L' := [(0, ic_rv κ.1 90), (1, .int (0 : Int32))]) rfl (by decide +kernel) ?_
          obtain ⟨q46, hf, hgq46⟩ := ic_bd hf
          have hjq46 : ic_W l κ MX9_river ic_X0 (ic_Z κ MX9_river (some (.int R.1)) 106 (ic_rs sw) R.2) 216 [(0, ic_rv κ.1 90)] [] 106 (ic_rs sw) q46 0 0 := by
            have hf := hgq46
            refine iw_aload_n (i := 0) (pc' := 217) 0 rfl (by decide +kernel) ?_
            refine iw_getr (pc' := 220) (q := 98) ic_fk9 cO_90 rfl lkf_X9_35 (by decide +kernel) ?_
            refine iw_bipush (i := 25) (v := (25 : Int32)) (pc' := 222) (by decide +kernel) ?_
            refine iw_iconst (i := (-1)) (v := (-1 : Int32)) (pc' := 223) (by decide +kernel) ?_
            refine iw_iast (pc' := 224) hf (fun _ => cI_98) (by decide +kernel) (fun m47 hf => ?_)
            refine iw_aload_n (i := 0) (pc' := 225) 0 rfl (by decide +kernel) ?_
            refine iw_iconst (i := 0) (v := (0 : Int32)) (pc' := 226) (by decide +kernel) ?_
            refine iw_put (pc' := 229) hf ic_fk9 cO_90 lkf_X9_123 (by decide +kernel) (fun m48 hf => ?_)
            refine iw_aload_n (i := 0) (pc' := 230) 0 rfl (by decide +kernel) ?_
            refine iw_iconst (i := 0) (v := (0 : Int32)) (pc' := 231) (by decide +kernel) ?_
            refine iw_put (pc' := 234) hf ic_fk9 cO_90 lkf_X9_126 (by decide +kernel) (fun m49 hf => ?_)
            refine iw_aload_n (i := 0) (pc' := 235) 0 rfl (by decide +kernel) ?_
            refine iw_iconst (i := 0) (v := (0 : Int32)) (pc' := 236) (by decide +kernel) ?_
            refine iw_put (pc' := 239) hf ic_fk9 cO_90 lkf_X9_129 (by decide +kernel) (fun m50 hf => ?_)
            refine iw_aload_n (i := 0) (pc' := 240) 0 rfl (by decide +kernel) ?_
            refine iw_getr (pc' := 243) (q := 103) ic_fk9 cO_90 rfl lkf_X9_50 (by decide +kernel) ?_
            refine iw_iconst (i := 0) (v := (0 : Int32)) (pc' := 244) (by decide +kernel) ?_
            refine iw_iconst (i := 0) (v := (0 : Int32)) (pc' := 245) (by decide +kernel) ?_
            refine iw_zast (pc' := 246) hf cZ_103 (by decide +kernel) (fun m51 hf => ?_)
            refine iw_aload_n (i := 0) (pc' := 247) 0 rfl (by decide +kernel) ?_
            refine iw_getr (pc' := 250) (q := 103) ic_fk9 cO_90 rfl lkf_X9_50 (by decide +kernel) ?_
            refine iw_iconst (i := 1) (v := (1 : Int32)) (pc' := 251) (by decide +kernel) ?_
            refine iw_iconst (i := 0) (v := (0 : Int32)) (pc' := 252) (by decide +kernel) ?_
            refine iw_zast (pc' := 253) hf cZ_103 (by decide +kernel) (fun m52 hf => ?_)
            refine iw_aload_n (i := 0) (pc' := 254) 0 rfl (by decide +kernel) ?_
            obtain ⟨v53, hc, hf⟩ := ic_bd hf
            refine iw_callV (pc' := 257) (S0 := []) (S1 := [.int v53]) (c1 := 0) (s1 := 0) (k := 0) (ct_X9_cells l κ sw m52 hc) cO_90 ⟨rfl, rfl⟩ mv_X9_cells lkm_X9_120 ⟨rfl, rfl⟩ (ic_sum8 trivial (Nat.le_of_ble_eq_true rfl)) (by unfold ic_rm; decide +kernel) ⟨rfl, rfl, rfl⟩ ⟨Nat.le_of_ble_eq_true rfl, Nat.le_of_ble_eq_true rfl⟩ ?_
            exact iw_ireturn (ic_q1 (Option.some.inj hf)) rfl (ic_q2 (Option.some.inj hf)) (by decide +kernel)
          exact iw_sub [0, 1] rfl (lpX9_river_158_ok l κ sw  hjq46 1000 (0 : Int32) m38 hf)
        refine iw_if_le (off := 7) (tg := 111) (pc' := 107) hf (by decide +kernel) (fun hf => ?_) (fun hf => ?_)
        · obtain rfl := Option.some.inj hf
          exact iw_sub [0] rfl hjq34
        · refine iw_aload_n (i := 0) (pc' := 108) 0 rfl (by decide +kernel) ?_
          obtain ⟨m35, hc, hf⟩ := ic_bd hf
          refine iw_callV (pc' := 111) (S0 := []) (S1 := []) (c1 := 0) (s1 := 0) (k := 0) (ct_X9_settles l κ sw m32 hc) cO_90 ⟨rfl, rfl⟩ mv_X9_settles lkm_X9_113 ⟨rfl, rfl⟩ (ic_sum8 trivial (Nat.le_of_ble_eq_true rfl)) (by unfold ic_rm; decide +kernel) ⟨rfl, rfl, rfl⟩ ⟨Nat.le_of_ble_eq_true rfl, Nat.le_of_ble_eq_true rfl⟩ ?_
          obtain rfl := Option.some.inj hf
          exact iw_sub [0] rfl hjq34
      · refine iw_bipush (i := (-10)) (v := (-10 : Int32)) (pc' := 92) (by decide +kernel) ?_
        refine iw_aload_n (i := 0) (pc' := 93) 0 rfl (by decide +kernel) ?_
        refine iw_geti (pc' := 96) ic_fk9 cO_90 lkf_X9_75 (by decide +kernel) ?_
        refine iw_isub (pc' := 97) (by decide +kernel) ?_
        exact iw_ireturn (ic_q1 (Option.some.inj hf)) rfl (ic_q2 (Option.some.inj hf)) (by decide +kernel)
    refine iw_if_ne (off := 7) (tg := 76) (pc' := 72) hf (by decide +kernel) (fun hf => ?_) (fun hf => ?_)
    · refine iw_aload_n (i := 0) (pc' := 77) 0 rfl (by decide +kernel) ?_
      refine iw_geti (pc' := 80) ic_fk9 cO_90 lkf_X9_72 (by decide +kernel) ?_
      obtain rfl := Option.some.inj hf
      exact iw_sub [0] rfl hjq31
    · refine iw_iconst (i := (-1)) (v := (-1 : Int32)) (pc' := 73) (by decide +kernel) ?_
      refine iw_goto (off := 7) (pc' := 80) (by decide +kernel) ?_
      obtain rfl := Option.some.inj hf
      exact iw_sub [0] rfl hjq31
  exact iw_sub [0, 1] rfl (lpX9_river_12_ok l κ sw  hjq27 1000 (0 : Int32) m22 hf)
set_option maxRecDepth 100000 in
set_option maxHeartbeats 4000000 in
theorem ct_X9_fault (l : Launch) (κ : ic_K) (sw : Nat) (μ : ic_M) {R : Int32} (hf : fX9_fault μ = some R) : ic_C l κ MX9_fault [ic_rv κ.1 90] 106 (ic_rs sw) μ (some (.int R)) 106 (ic_rs sw) μ := by
  refine ic_C.of (L := [(0, ic_rv κ.1 90)]) ⟨ic_cat _ _, trivial⟩ ⟨by decide +kernel, Nat.le_of_ble_eq_true rfl⟩ rfl ?_
  unfold fX9_fault at hf
  refine iw_aload_n (i := 0) (pc' := 1) 0 rfl (by decide +kernel) ?_
  refine iw_geti (pc' := 4) ic_fk9 cO_90 lkf_X9_13 (by decide +kernel) ?_
  exact iw_ireturn (Option.some.inj hf) rfl rfl (by decide +kernel)
set_option maxRecDepth 100000 in
set_option maxHeartbeats 4000000 in
theorem ct_X9_isRiver (l : Launch) (κ : ic_K) (sw : Nat) (μ : ic_M) {R : Int32} (hf : fX9_isRiver μ = some R) : ic_C l κ MX9_isRiver [ic_rv κ.1 90] 106 (ic_rs sw) μ (some (.int R)) 106 (ic_rs sw) μ := by
  refine ic_C.of (L := [(0, ic_rv κ.1 90)]) ⟨ic_cat _ _, trivial⟩ ⟨by decide +kernel, Nat.le_of_ble_eq_true rfl⟩ rfl ?_
  unfold fX9_isRiver at hf
  refine iw_aload_n (i := 0) (pc' := 1) 0 rfl (by decide +kernel) ?_
  refine iw_getr (pc' := 4) (q := 92) ic_fk9 cO_90 rfl lkf_X9_17 (by decide +kernel) ?_
  refine iw_iconst (i := 0) (v := (0 : Int32)) (pc' := 5) (by decide +kernel) ?_
  refine iw_iald (pc' := 6) hf (fun _ => cI_92) (by decide +kernel) (fun v21 hf => ?_)
  obtain ⟨q22, hf, hgq22⟩ := ic_bd hf
  have hjq22 : ic_W l κ MX9_isRiver ic_X0 (ic_Z κ MX9_isRiver (some (.int R)) 106 (ic_rs sw) μ) 14 [] [.int q22] 106 (ic_rs sw) μ 0 0 := by
    have hf := hgq22
    obtain ⟨hb, hf⟩ := ic_rz_of hf
    exact iw_zreturn hb (Option.some.inj hf) rfl rfl (by decide +kernel)
  refine iw_if_le (off := 7) (tg := 13) (pc' := 9) hf (by decide +kernel) (fun hf => ?_) (fun hf => ?_)
  · refine iw_iconst (i := 0) (v := (0 : Int32)) (pc' := 14) (by decide +kernel) ?_
    obtain rfl := Option.some.inj hf
    exact iw_sub [] rfl hjq22
  · refine iw_iconst (i := 1) (v := (1 : Int32)) (pc' := 10) (by decide +kernel) ?_
    refine iw_goto (off := 4) (pc' := 14) (by decide +kernel) ?_
    obtain rfl := Option.some.inj hf
    exact iw_sub [] rfl hjq22
set_option maxRecDepth 100000 in
set_option maxHeartbeats 4000000 in
theorem ct_X9_isCell (l : Launch) (κ : ic_K) (sw : Nat) (μ : ic_M) (x1 : Int32) {R : Int32} (hf : fX9_isCell μ x1 = some R) : ic_C l κ MX9_isCell [ic_rv κ.1 90, .int x1] 106 (ic_rs sw) μ (some (.int R)) 106 (ic_rs sw) μ := by
  refine ic_C.of (L := [(0, ic_rv κ.1 90), (1, .int x1)]) ⟨ic_cat _ _, rfl, trivial⟩ ⟨by decide +kernel, Nat.le_of_ble_eq_true rfl⟩ rfl ?_
  unfold fX9_isCell at hf
  refine iw_iload_n (i := 1) (pc' := 1) 1 rfl (by decide +kernel) ?_
  refine iw_iconst (i := 0) (v := (0 : Int32)) (pc' := 2) (by decide +kernel) ?_
  refine iw_aload_n (i := 0) (pc' := 3) 0 rfl (by decide +kernel) ?_
  obtain ⟨v21, hc, hf⟩ := ic_bd hf
  refine iw_callV (pc' := 6) (S0 := [.int (0 : Int32), .int x1]) (S1 := [.int v21, .int (0 : Int32), .int x1]) (c1 := 0) (s1 := 0) (k := 0) (ct_X9_cells l κ sw μ hc) cO_90 ⟨rfl, rfl⟩ mv_X9_cells lkm_X9_120 ⟨rfl, rfl⟩ (ic_sum8 ⟨rfl, rfl, trivial⟩ (Nat.le_of_ble_eq_true rfl)) (by unfold ic_rm; decide +kernel) ⟨rfl, rfl, rfl⟩ ⟨Nat.le_of_ble_eq_true rfl, Nat.le_of_ble_eq_true rfl⟩ ?_
  refine iw_iconst (i := 1) (v := (1 : Int32)) (pc' := 7) (by decide +kernel) ?_
  refine iw_isub (pc' := 8) (by decide +kernel) ?_
  obtain ⟨v22, hc, hf⟩ := ic_bd hf
  refine iw_callS (pc' := 11) (S0 := []) (S1 := [.int v22]) (c1 := 0) (s1 := 0) (k := 3) (ct_X9_in l κ sw μ x1 (0 : Int32) (v21 - (1 : Int32)) hc) ms_X9_in lkm_X9_63 ⟨rfl, rfl⟩ (ic_sum8 trivial (Nat.le_of_ble_eq_true rfl)) (by unfold ic_rm; decide +kernel) ⟨rfl, rfl, rfl⟩ ⟨Nat.le_of_ble_eq_true rfl, Nat.le_of_ble_eq_true rfl⟩ ?_
  obtain ⟨hb, hf⟩ := ic_rz_of hf
  exact iw_zreturn hb (Option.some.inj hf) rfl rfl (by decide +kernel)
set_option maxRecDepth 100000 in
set_option maxHeartbeats 4000000 in
theorem ct_X9_isPerson (l : Launch) (κ : ic_K) (sw : Nat) (μ : ic_M) (x1 : Int32) {R : Int32} (hf : fX9_isPerson μ x1 = some R) : ic_C l κ MX9_isPerson [ic_rv κ.1 90, .int x1] 106 (ic_rs sw) μ (some (.int R)) 106 (ic_rs sw) μ := by
  refine ic_C.of (L := [(0, ic_rv κ.1 90), (1, .int x1)]) ⟨ic_cat _ _, rfl, trivial⟩ ⟨by decide +kernel, Nat.le_of_ble_eq_true rfl⟩ rfl ?_
  unfold fX9_isPerson at hf
  refine iw_iload_n (i := 1) (pc' := 1) 1 rfl (by decide +kernel) ?_
  refine iw_iconst (i := 0) (v := (0 : Int32)) (pc' := 2) (by decide +kernel) ?_
  refine iw_aload_n (i := 0) (pc' := 3) 0 rfl (by decide +kernel) ?_
  refine iw_getr (pc' := 6) (q := 92) ic_fk9 cO_90 rfl lkf_X9_17 (by decide +kernel) ?_
  refine iw_iconst (i := 3) (v := (3 : Int32)) (pc' := 7) (by decide +kernel) ?_
  refine iw_iald (pc' := 8) hf (fun _ => cI_92) (by decide +kernel) (fun v21 hf => ?_)
  refine iw_iconst (i := 1) (v := (1 : Int32)) (pc' := 9) (by decide +kernel) ?_
  refine iw_isub (pc' := 10) (by decide +kernel) ?_
  obtain ⟨v22, hc, hf⟩ := ic_bd hf
  refine iw_callS (pc' := 13) (S0 := []) (S1 := [.int v22]) (c1 := 0) (s1 := 0) (k := 3) (ct_X9_in l κ sw μ x1 (0 : Int32) (v21 - (1 : Int32)) hc) ms_X9_in lkm_X9_63 ⟨rfl, rfl⟩ (ic_sum8 trivial (Nat.le_of_ble_eq_true rfl)) (by unfold ic_rm; decide +kernel) ⟨rfl, rfl, rfl⟩ ⟨Nat.le_of_ble_eq_true rfl, Nat.le_of_ble_eq_true rfl⟩ ?_
  obtain ⟨hb, hf⟩ := ic_rz_of hf
  exact iw_zreturn hb (Option.some.inj hf) rfl rfl (by decide +kernel)
set_option maxRecDepth 100000 in
set_option maxHeartbeats 4000000 in
theorem ct_X9_areNext (l : Launch) (κ : ic_K) (sw : Nat) (μ : ic_M) (x1 : Int32) (x2 : Int32) {R : Int32} (hf : fX9_areNext μ x1 x2 = some R) : ic_C l κ MX9_areNext [ic_rv κ.1 90, .int x1, .int x2] 106 (ic_rs sw) μ (some (.int R)) 106 (ic_rs sw) μ := by
  refine ic_C.of (L := [(0, ic_rv κ.1 90), (1, .int x1), (2, .int x2)]) ⟨ic_cat _ _, rfl, rfl, trivial⟩ ⟨by decide +kernel, Nat.le_of_ble_eq_true rfl⟩ rfl ?_
  unfold fX9_areNext at hf
  refine iw_iload_n (i := 1) (pc' := 1) 1 rfl (by decide +kernel) ?_
  refine iw_aload_n (i := 0) (pc' := 2) 0 rfl (by decide +kernel) ?_
  refine iw_getr (pc' := 5) (q := 92) ic_fk9 cO_90 rfl lkf_X9_17 (by decide +kernel) ?_
  refine iw_iconst (i := 0) (v := (0 : Int32)) (pc' := 6) (by decide +kernel) ?_
  refine iw_iald (pc' := 7) hf (fun _ => cI_92) (by decide +kernel) (fun v21 hf => ?_)
  refine iw_idiv (pc' := 8) hf (by decide +kernel) (fun hf => ?_)
  refine iw_iload_n (i := 2) (pc' := 9) 2 rfl (by decide +kernel) ?_
  refine iw_aload_n (i := 0) (pc' := 10) 0 rfl (by decide +kernel) ?_
  refine iw_getr (pc' := 13) (q := 92) ic_fk9 cO_90 rfl lkf_X9_17 (by decide +kernel) ?_
  refine iw_iconst (i := 0) (v := (0 : Int32)) (pc' := 14) (by decide +kernel) ?_
  refine iw_iald (pc' := 15) hf (fun _ => cI_92) (by decide +kernel) (fun v22 hf => ?_)
  refine iw_idiv (pc' := 16) hf (by decide +kernel) (fun hf => ?_)
  refine iw_isub (pc' := 17) (by decide +kernel) ?_
  refine iw_istore_n (i := 3) (pc' := 18) (L1 := fun x23 => [(0, ic_rv κ.1 90), (1, .int x1), (2, .int x2), (3, .int x23)]) hf (fun _ => rfl) (by decide +kernel) (fun x23 hf => ?_)
  refine iw_iload_n (i := 1) (pc' := 19) 1 rfl (by decide +kernel) ?_
  refine iw_aload_n (i := 0) (pc' := 20) 0 rfl (by decide +kernel) ?_
  refine iw_getr (pc' := 23) (q := 92) ic_fk9 cO_90 rfl lkf_X9_17 (by decide +kernel) ?_
  refine iw_iconst (i := 0) (v := (0 : Int32)) (pc' := 24) (by decide +kernel) ?_
  refine iw_iald (pc' := 25) hf (fun _ => cI_92) (by decide +kernel) (fun v24 hf => ?_)
  refine iw_irem (pc' := 26) hf (by decide +kernel) (fun hf => ?_)
  refine iw_iload_n (i := 2) (pc' := 27) 2 rfl (by decide +kernel) ?_
  refine iw_aload_n (i := 0) (pc' := 28) 0 rfl (by decide +kernel) ?_
  refine iw_getr (pc' := 31) (q := 92) ic_fk9 cO_90 rfl lkf_X9_17 (by decide +kernel) ?_
  refine iw_iconst (i := 0) (v := (0 : Int32)) (pc' := 32) (by decide +kernel) ?_
  refine iw_iald (pc' := 33) hf (fun _ => cI_92) (by decide +kernel) (fun v25 hf => ?_)
  refine iw_irem (pc' := 34) hf (by decide +kernel) (fun hf => ?_)
  refine iw_isub (pc' := 35) (by decide +kernel) ?_
  refine iw_istore (i := 4) (pc' := 37) (L1 := fun x26 => [(0, ic_rv κ.1 90), (1, .int x1), (2, .int x2), (3, .int x23), (4, .int x26)]) hf (fun _ => rfl) (by decide +kernel) (fun x26 hf => ?_)
  refine iw_iload_n (i := 3) (pc' := 38) 3 rfl (by decide +kernel) ?_
  refine iw_iload_n (i := 3) (pc' := 39) 3 rfl (by decide +kernel) ?_
  refine iw_imul (pc' := 40) (by decide +kernel) ?_
  refine iw_iload (i := 4) (pc' := 42) 4 rfl (by decide +kernel) ?_
  refine iw_iload (i := 4) (pc' := 44) 4 rfl (by decide +kernel) ?_
  refine iw_imul (pc' := 45) (by decide +kernel) ?_
  refine iw_iadd (pc' := 46) (by decide +kernel) ?_
  refine iw_iconst (i := 1) (v := (1 : Int32)) (pc' := 47) (by decide +kernel) ?_
  obtain ⟨q27, hf, hgq27⟩ := ic_bd hf
  have hjq27 : ic_W l κ MX9_areNext ic_X0 (ic_Z κ MX9_areNext (some (.int R)) 106 (ic_rs sw) μ) 55 [] [.int q27] 106 (ic_rs sw) μ 0 0 := by
    have hf := hgq27
    obtain ⟨hb, hf⟩ := ic_rz_of hf
    exact iw_zreturn hb (Option.some.inj hf) rfl rfl (by decide +kernel)
  refine iw_icmp_ne (off := 7) (tg := 54) (pc' := 50) hf (by decide +kernel) (fun hf => ?_) (fun hf => ?_)
  · refine iw_iconst (i := 0) (v := (0 : Int32)) (pc' := 55) (by decide +kernel) ?_
    obtain rfl := Option.some.inj hf
    exact iw_sub [] rfl hjq27
  · refine iw_iconst (i := 1) (v := (1 : Int32)) (pc' := 51) (by decide +kernel) ?_
    refine iw_goto (off := 4) (pc' := 55) (by decide +kernel) ?_
    obtain rfl := Option.some.inj hf
    exact iw_sub [] rfl hjq27
set_option maxRecDepth 100000 in
set_option maxHeartbeats 4000000 in
theorem ct_X9_bearsOf (l : Launch) (κ : ic_K) (sw : Nat) (μ : ic_M) (r1 : Nat) (x2 : Int32) {R : Int32} (hf : fX9_bearsOf μ r1 x2 = some R) : ic_C l κ MX9_bearsOf [ic_rv κ.1 90, ic_rv κ.1 r1, .int x2] 106 (ic_rs sw) μ (some (.int R)) 106 (ic_rs sw) μ := by
  refine ic_C.of (L := [(0, ic_rv κ.1 90), (1, ic_rv κ.1 r1), (2, .int x2)]) ⟨ic_cat _ _, ic_cat _ _, rfl, trivial⟩ ⟨by decide +kernel, Nat.le_of_ble_eq_true rfl⟩ rfl ?_
  unfold fX9_bearsOf at hf
  refine iw_aload_n (i := 0) (pc' := 1) 0 rfl (by decide +kernel) ?_
  refine iw_getr (pc' := 4) (q := 92) ic_fk9 cO_90 rfl lkf_X9_17 (by decide +kernel) ?_
  refine iw_iconst (i := 2) (v := (2 : Int32)) (pc' := 5) (by decide +kernel) ?_
  refine iw_iald (pc' := 6) hf (fun _ => cI_92) (by decide +kernel) (fun v21 hf => ?_)
  refine iw_aload_n (i := 1) (pc' := 7) 1 rfl (by decide +kernel) ?_
  refine iw_iload_n (i := 2) (pc' := 8) 2 rfl (by decide +kernel) ?_
  refine iw_iald (pc' := 9) hf (fun h => ic_il_is h) (by decide +kernel) (fun v22 hf => ?_)
  refine iw_imul (pc' := 10) (by decide +kernel) ?_
  exact iw_ireturn (Option.some.inj hf) rfl rfl (by decide +kernel)
set_option maxRecDepth 100000 in
set_option maxHeartbeats 4000000 in
theorem lpX9_loadOf_8_ok (l : Launch) (κ : ic_K) (sw : Nat) (μ : ic_M) (r1_ : Nat) (x2_ : Int32) {Z : State → List Frame → Array Value → State → Prop} {R : Int32 × Int32} (hk : ic_W l κ MX9_loadOf ic_X0 Z 93 [(3, .int R.1), (4, .int R.2)] [] 106 (ic_rs sw) μ 0 0) : ∀ (fu : Nat) (y3_ : Int32) (y4_ : Int32) (y5_ : Int32), lpX9_loadOf_8 μ r1_ x2_ fu y3_ y4_ y5_ = some R → ic_W l κ MX9_loadOf ic_X0 Z 8 [(0, ic_rv κ.1 90), (1, ic_rv κ.1 r1_), (2, .int x2_), (3, .int y3_), (4, .int y4_), (5, .int y5_)] [] 106 (ic_rs sw) μ 0 0 := by
  intro fu
  induction fu with
  | zero =>
    intro y3_ y4_ y5_ hf
    exact absurd hf (by simp [lpX9_loadOf_8])
  | succ fu ih =>
    intro y3_ y4_ y5_ hf
    rw [lpX9_loadOf_8] at hf
    refine iw_iload (i := 5) (pc' := 10) 5 rfl (by decide +kernel) ?_
    refine iw_aload_n (i := 0) (pc' := 11) 0 rfl (by decide +kernel) ?_
    refine iw_getr (pc' := 14) (q := 92) ic_fk9 cO_90 rfl lkf_X9_17 (by decide +kernel) ?_
    refine iw_iconst (i := 3) (v := (3 : Int32)) (pc' := 15) (by decide +kernel) ?_
    refine iw_iald (pc' := 16) hf (fun _ => cI_92) (by decide +kernel) (fun v21 hf => ?_)
    refine iw_icmp_ge (off := 77) (tg := 93) (pc' := 19) hf (by decide +kernel) (fun hf => ?_) (fun hf => ?_)
    · obtain rfl := Option.some.inj hf
      exact iw_sub [3, 4] rfl hk
    · refine iw_aload_n (i := 1) (pc' := 20) 1 rfl (by decide +kernel) ?_
      refine iw_bipush (i := 18) (v := (18 : Int32)) (pc' := 22) (by decide +kernel) ?_
      refine iw_iload (i := 5) (pc' := 24) 5 rfl (by decide +kernel) ?_
      refine iw_iadd (pc' := 25) (by decide +kernel) ?_
      refine iw_iald (pc' := 26) hf (fun h => ic_il_is h) (by decide +kernel) (fun v22 hf => ?_)
      refine iw_istore0 (i := 6) (pc' := 28) (L' := [(0, ic_rv κ.1 90), (1, ic_rv κ.1 r1_), (2, .int x2_), (3, .int y3_), (4, .int y4_), (5, .int y5_), (6, .int v22)]) rfl (by decide +kernel) ?_
      refine iw_iload_n (i := 3) (pc' := 29) 3 rfl (by decide +kernel) ?_
      refine iw_iload (i := 6) (pc' := 31) 6 rfl (by decide +kernel) ?_
      refine iw_iload_n (i := 2) (pc' := 32) 2 rfl (by decide +kernel) ?_
      obtain ⟨q23, hf, hgq23⟩ := ic_bd hf
      have hjq23 : ic_W l κ MX9_loadOf ic_X0 Z 50 [(0, ic_rv κ.1 90), (1, ic_rv κ.1 r1_), (2, .int x2_), (4, .int y4_), (5, .int y5_), (6, .int v22)] [.int q23, .int y3_] 106 (ic_rs sw) μ 0 0 := by
        have hf := hgq23
        refine iw_iadd (pc' := 51) (by decide +kernel) ?_
        refine iw_istore_n (i := 3) (pc' := 52) (L1 := fun x25 => [(0, ic_rv κ.1 90), (1, ic_rv κ.1 r1_), (2, .int x2_), (3, .int x25), (4, .int y4_), (5, .int y5_), (6, .int v22)]) hf (fun _ => rfl) (by decide +kernel) (fun x25 hf => ?_)
        refine iw_iload (i := 4) (pc' := 54) 4 rfl (by decide +kernel) ?_
        refine iw_iload (i := 6) (pc' := 56) 6 rfl (by decide +kernel) ?_
        obtain ⟨q26, hf, hgq26⟩ := ic_bd hf
        have hjq26 : ic_W l κ MX9_loadOf ic_X0 Z 84 [(0, ic_rv κ.1 90), (1, ic_rv κ.1 r1_), (2, .int x2_), (3, .int x25), (5, .int y5_)] [.int q26, .int y4_] 106 (ic_rs sw) μ 0 0 := by
          have hf := hgq26
          refine iw_iadd (pc' := 85) (by decide +kernel) ?_
          refine iw_istore (i := 4) (pc' := 87) (L1 := fun x29 => [(0, ic_rv κ.1 90), (1, ic_rv κ.1 r1_), (2, .int x2_), (3, .int x25), (4, .int x29), (5, .int y5_)]) hf (fun _ => rfl) (by decide +kernel) (fun x29 hf => ?_)
          refine iw_iinc (i := 5) (d := 1) (pc' := 90) (v := (1 : Int32)) (L1 := fun x30 => [(0, ic_rv κ.1 90), (1, ic_rv κ.1 r1_), (2, .int x2_), (3, .int x25), (4, .int x29), (5, .int x30)]) hf 5 rfl (fun _ => rfl) (by decide +kernel) (fun x30 hf => ?_)
          refine iw_goto (off := (-82)) (pc' := 8) (by decide +kernel) ?_
          exact iw_sub [0, 1, 2, 3, 4, 5] rfl (ih _ _ _ hf)
        refine iw_if_lt (off := 27) (tg := 83) (pc' := 59) hf (by decide +kernel) (fun hf => ?_) (fun hf => ?_)
        · refine iw_iconst (i := 0) (v := (0 : Int32)) (pc' := 84) (by decide +kernel) ?_
          obtain rfl := Option.some.inj hf
          exact iw_sub [0, 1, 2, 3, 5] rfl hjq26
        · refine iw_aload_n (i := 0) (pc' := 60) 0 rfl (by decide +kernel) ?_
          refine iw_iload (i := 6) (pc' := 62) 6 rfl (by decide +kernel) ?_
          refine iw_iload_n (i := 2) (pc' := 63) 2 rfl (by decide +kernel) ?_
          obtain ⟨v27, hc, hf⟩ := ic_bd hf
          refine iw_callV (pc' := 66) (S0 := [.int y4_]) (S1 := [.int v27, .int y4_]) (c1 := 0) (s1 := 0) (k := 2) (ct_X9_areNext l κ sw μ v22 x2_ hc) cO_90 ⟨rfl, rfl⟩ mv_X9_areNext lkm_X9_132 ⟨rfl, rfl⟩ (ic_sum8 ⟨rfl, trivial⟩ (Nat.le_of_ble_eq_true rfl)) (by unfold ic_rm; decide +kernel) ⟨rfl, rfl, rfl⟩ ⟨Nat.le_of_ble_eq_true rfl, Nat.le_of_ble_eq_true rfl⟩ ?_
          refine iw_if_eq (off := 17) (tg := 83) (pc' := 69) hf (by decide +kernel) (fun hf => ?_) (fun hf => ?_)
          · refine iw_iconst (i := 0) (v := (0 : Int32)) (pc' := 84) (by decide +kernel) ?_
            obtain rfl := Option.some.inj hf
            exact iw_sub [0, 1, 2, 3, 5] rfl hjq26
          · refine iw_aload_n (i := 0) (pc' := 70) 0 rfl (by decide +kernel) ?_
            refine iw_getr (pc' := 73) (q := 94) ic_fk9 cO_90 rfl lkf_X9_23 (by decide +kernel) ?_
            refine iw_iconst (i := 2) (v := (2 : Int32)) (pc' := 74) (by decide +kernel) ?_
            refine iw_iload (i := 5) (pc' := 76) 5 rfl (by decide +kernel) ?_
            refine iw_imul (pc' := 77) (by decide +kernel) ?_
            refine iw_iconst (i := 1) (v := (1 : Int32)) (pc' := 78) (by decide +kernel) ?_
            refine iw_iadd (pc' := 79) (by decide +kernel) ?_
            refine iw_iald (pc' := 80) hf (fun _ => cI_94) (by decide +kernel) (fun v28 hf => ?_)
            refine iw_goto (off := 4) (pc' := 84) (by decide +kernel) ?_
            obtain rfl := Option.some.inj hf
            exact iw_sub [0, 1, 2, 3, 5] rfl hjq26
      refine iw_icmp_ne (off := 17) (tg := 49) (pc' := 35) hf (by decide +kernel) (fun hf => ?_) (fun hf => ?_)
      · refine iw_iconst (i := 0) (v := (0 : Int32)) (pc' := 50) (by decide +kernel) ?_
        obtain rfl := Option.some.inj hf
        exact iw_sub [0, 1, 2, 4, 5, 6] rfl hjq23
      · refine iw_aload_n (i := 0) (pc' := 36) 0 rfl (by decide +kernel) ?_
        refine iw_getr (pc' := 39) (q := 94) ic_fk9 cO_90 rfl lkf_X9_23 (by decide +kernel) ?_
        refine iw_iconst (i := 2) (v := (2 : Int32)) (pc' := 40) (by decide +kernel) ?_
        refine iw_iload (i := 5) (pc' := 42) 5 rfl (by decide +kernel) ?_
        refine iw_imul (pc' := 43) (by decide +kernel) ?_
        refine iw_iconst (i := 1) (v := (1 : Int32)) (pc' := 44) (by decide +kernel) ?_
        refine iw_iadd (pc' := 45) (by decide +kernel) ?_
        refine iw_iald (pc' := 46) hf (fun _ => cI_94) (by decide +kernel) (fun v24 hf => ?_)
        refine iw_goto (off := 4) (pc' := 50) (by decide +kernel) ?_
        obtain rfl := Option.some.inj hf
        exact iw_sub [0, 1, 2, 4, 5, 6] rfl hjq23
set_option maxRecDepth 100000 in
set_option maxHeartbeats 4000000 in
theorem ct_X9_loadOf (l : Launch) (κ : ic_K) (sw : Nat) (μ : ic_M) (r1 : Nat) (x2 : Int32) {R : Int32} (hf : fX9_loadOf μ r1 x2 = some R) : ic_C l κ MX9_loadOf [ic_rv κ.1 90, ic_rv κ.1 r1, .int x2] 106 (ic_rs sw) μ (some (.int R)) 106 (ic_rs sw) μ := by
  refine ic_C.of (L := [(0, ic_rv κ.1 90), (1, ic_rv κ.1 r1), (2, .int x2)]) ⟨ic_cat _ _, ic_cat _ _, rfl, trivial⟩ ⟨by decide +kernel, Nat.le_of_ble_eq_true rfl⟩ rfl ?_
  unfold fX9_loadOf at hf
  refine iw_iconst (i := 0) (v := (0 : Int32)) (pc' := 1) (by decide +kernel) ?_
  refine iw_istore_n0 (i := 3) (pc' := 2) (L' := [(0, ic_rv κ.1 90), (1, ic_rv κ.1 r1), (2, .int x2), (3, .int (0 : Int32))]) rfl (by decide +kernel) ?_
  refine iw_iconst (i := 0) (v := (0 : Int32)) (pc' := 3) (by decide +kernel) ?_
  refine iw_istore0 (i := 4) (pc' := 5) (L' := [(0, ic_rv κ.1 90), (1, ic_rv κ.1 r1), (2, .int x2), (3, .int (0 : Int32)), (4, .int (0 : Int32))]) rfl (by decide +kernel) ?_
  refine iw_iconst (i := 0) (v := (0 : Int32)) (pc' := 6) (by decide +kernel) ?_
  refine iw_istore0 (i := 5) (pc' := 8) (L' := [(0, ic_rv κ.1 90), (1, ic_rv κ.1 r1), (2, .int x2), (3, .int (0 : Int32)), (4, .int (0 : Int32)), (5, .int (0 : Int32))]) rfl (by decide +kernel) ?_
  obtain ⟨q31, hf, hgq31⟩ := ic_bd hf
  have hjq31 : ic_W l κ MX9_loadOf ic_X0 (ic_Z κ MX9_loadOf (some (.int R)) 106 (ic_rs sw) μ) 93 [(3, .int q31.1), (4, .int q31.2)] [] 106 (ic_rs sw) μ 0 0 := by
    have hf := hgq31
    refine iw_iload_n (i := 3) (pc' := 94) 0 rfl (by decide +kernel) ?_
    refine iw_iload (i := 4) (pc' := 96) 1 rfl (by decide +kernel) ?_
    refine iw_iconst (i := 2) (v := (2 : Int32)) (pc' := 97) (by decide +kernel) ?_
    refine iw_idiv (pc' := 98) hf (by decide +kernel) (fun hf => ?_)
    refine iw_iadd (pc' := 99) (by decide +kernel) ?_
    exact iw_ireturn (Option.some.inj hf) rfl rfl (by decide +kernel)
  exact iw_sub [0, 1, 2, 3, 4, 5] rfl (lpX9_loadOf_8_ok l κ sw μ r1 x2 hjq31 1000 (0 : Int32) (0 : Int32) (0 : Int32) hf)
set_option maxRecDepth 100000 in
set_option maxHeartbeats 4000000 in
theorem lpX9_onCell_5_ok (l : Launch) (κ : ic_K) (sw : Nat) (μ : ic_M) (r1_ : Nat) (x2_ : Int32) {Z : State → List Frame → Array Value → State → Prop} {R : Int32} (hk : ic_W l κ MX9_onCell ic_X0 Z 44 [(3, .int R)] [] 106 (ic_rs sw) μ 0 0) : ∀ (fu : Nat) (y3_ : Int32) (y4_ : Int32), lpX9_onCell_5 μ r1_ x2_ fu y3_ y4_ = some R → ic_W l κ MX9_onCell ic_X0 Z 5 [(0, ic_rv κ.1 90), (1, ic_rv κ.1 r1_), (2, .int x2_), (3, .int y3_), (4, .int y4_)] [] 106 (ic_rs sw) μ 0 0 := by
  intro fu
  induction fu with
  | zero =>
    intro y3_ y4_ hf
    exact absurd hf (by simp [lpX9_onCell_5])
  | succ fu ih =>
    intro y3_ y4_ hf
    rw [lpX9_onCell_5] at hf
    refine iw_iload (i := 4) (pc' := 7) 4 rfl (by decide +kernel) ?_
    refine iw_aload_n (i := 0) (pc' := 8) 0 rfl (by decide +kernel) ?_
    refine iw_getr (pc' := 11) (q := 92) ic_fk9 cO_90 rfl lkf_X9_17 (by decide +kernel) ?_
    refine iw_iconst (i := 3) (v := (3 : Int32)) (pc' := 12) (by decide +kernel) ?_
    refine iw_iald (pc' := 13) hf (fun _ => cI_92) (by decide +kernel) (fun v21 hf => ?_)
    refine iw_icmp_ge (off := 31) (tg := 44) (pc' := 16) hf (by decide +kernel) (fun hf => ?_) (fun hf => ?_)
    · obtain rfl := Option.some.inj hf
      exact iw_sub [3] rfl hk
    · refine iw_iload_n (i := 3) (pc' := 17) 3 rfl (by decide +kernel) ?_
      refine iw_aload_n (i := 1) (pc' := 18) 1 rfl (by decide +kernel) ?_
      refine iw_bipush (i := 18) (v := (18 : Int32)) (pc' := 20) (by decide +kernel) ?_
      refine iw_iload (i := 4) (pc' := 22) 4 rfl (by decide +kernel) ?_
      refine iw_iadd (pc' := 23) (by decide +kernel) ?_
      refine iw_iald (pc' := 24) hf (fun h => ic_il_is h) (by decide +kernel) (fun v22 hf => ?_)
      refine iw_iload_n (i := 2) (pc' := 25) 2 rfl (by decide +kernel) ?_
      obtain ⟨q23, hf, hgq23⟩ := ic_bd hf
      have hjq23 : ic_W l κ MX9_onCell ic_X0 Z 36 [(0, ic_rv κ.1 90), (1, ic_rv κ.1 r1_), (2, .int x2_), (4, .int y4_)] [.int q23, .int y3_] 106 (ic_rs sw) μ 0 0 := by
        have hf := hgq23
        refine iw_ior (pc' := 37) (by decide +kernel) ?_
        refine iw_istore_n (i := 3) (pc' := 38) (L1 := fun x24 => [(0, ic_rv κ.1 90), (1, ic_rv κ.1 r1_), (2, .int x2_), (3, .int x24), (4, .int y4_)]) hf (fun _ => rfl) (by decide +kernel) (fun x24 hf => ?_)
        refine iw_iinc (i := 4) (d := 1) (pc' := 41) (v := (1 : Int32)) (L1 := fun x25 => [(0, ic_rv κ.1 90), (1, ic_rv κ.1 r1_), (2, .int x2_), (3, .int x24), (4, .int x25)]) hf 4 rfl (fun _ => rfl) (by decide +kernel) (fun x25 hf => ?_)
        refine iw_goto (off := (-36)) (pc' := 5) (by decide +kernel) ?_
        exact iw_sub [0, 1, 2, 3, 4] rfl (ih _ _ hf)
      refine iw_icmp_ne (off := 10) (tg := 35) (pc' := 28) hf (by decide +kernel) (fun hf => ?_) (fun hf => ?_)
      · refine iw_iconst (i := 0) (v := (0 : Int32)) (pc' := 36) (by decide +kernel) ?_
        obtain rfl := Option.some.inj hf
        exact iw_sub [0, 1, 2, 4] rfl hjq23
      · refine iw_iconst (i := 1) (v := (1 : Int32)) (pc' := 29) (by decide +kernel) ?_
        refine iw_iload (i := 4) (pc' := 31) 4 rfl (by decide +kernel) ?_
        refine iw_ishl (pc' := 32) (by decide +kernel) ?_
        refine iw_goto (off := 4) (pc' := 36) (by decide +kernel) ?_
        obtain rfl := Option.some.inj hf
        exact iw_sub [0, 1, 2, 4] rfl hjq23
set_option maxRecDepth 100000 in
set_option maxHeartbeats 4000000 in
theorem ct_X9_onCell (l : Launch) (κ : ic_K) (sw : Nat) (μ : ic_M) (r1 : Nat) (x2 : Int32) {R : Int32} (hf : fX9_onCell μ r1 x2 = some R) : ic_C l κ MX9_onCell [ic_rv κ.1 90, ic_rv κ.1 r1, .int x2] 106 (ic_rs sw) μ (some (.int R)) 106 (ic_rs sw) μ := by
  refine ic_C.of (L := [(0, ic_rv κ.1 90), (1, ic_rv κ.1 r1), (2, .int x2)]) ⟨ic_cat _ _, ic_cat _ _, rfl, trivial⟩ ⟨by decide +kernel, Nat.le_of_ble_eq_true rfl⟩ rfl ?_
  unfold fX9_onCell at hf
  refine iw_iconst (i := 0) (v := (0 : Int32)) (pc' := 1) (by decide +kernel) ?_
  refine iw_istore_n0 (i := 3) (pc' := 2) (L' := [(0, ic_rv κ.1 90), (1, ic_rv κ.1 r1), (2, .int x2), (3, .int (0 : Int32))]) rfl (by decide +kernel) ?_
  refine iw_iconst (i := 0) (v := (0 : Int32)) (pc' := 3) (by decide +kernel) ?_
  refine iw_istore0 (i := 4) (pc' := 5) (L' := [(0, ic_rv κ.1 90), (1, ic_rv κ.1 r1), (2, .int x2), (3, .int (0 : Int32)), (4, .int (0 : Int32))]) rfl (by decide +kernel) ?_
  obtain ⟨q26, hf, hgq26⟩ := ic_bd hf
  have hjq26 : ic_W l κ MX9_onCell ic_X0 (ic_Z κ MX9_onCell (some (.int R)) 106 (ic_rs sw) μ) 44 [(3, .int q26)] [] 106 (ic_rs sw) μ 0 0 := by
    have hf := hgq26
    refine iw_iload_n (i := 3) (pc' := 45) 0 rfl (by decide +kernel) ?_
    exact iw_ireturn (Option.some.inj hf) rfl rfl (by decide +kernel)
  exact iw_sub [0, 1, 2, 3, 4] rfl (lpX9_onCell_5_ok l κ sw μ r1 x2 hjq26 1000 (0 : Int32) (0 : Int32) hf)
set_option maxRecDepth 100000 in
set_option maxHeartbeats 4000000 in
theorem ct_X9_cracks (l : Launch) (κ : ic_K) (sw : Nat) (μ : ic_M) (r1 : Nat) (x2 : Int32) {R : Int32} (hf : fX9_cracks μ r1 x2 = some R) : ic_C l κ MX9_cracks [ic_rv κ.1 90, ic_rv κ.1 r1, .int x2] 106 (ic_rs sw) μ (some (.int R)) 106 (ic_rs sw) μ := by
  refine ic_C.of (L := [(0, ic_rv κ.1 90), (1, ic_rv κ.1 r1), (2, .int x2)]) ⟨ic_cat _ _, ic_cat _ _, rfl, trivial⟩ ⟨by decide +kernel, Nat.le_of_ble_eq_true rfl⟩ rfl ?_
  unfold fX9_cracks at hf
  refine iw_aload_n (i := 0) (pc' := 1) 0 rfl (by decide +kernel) ?_
  refine iw_aload_n (i := 1) (pc' := 2) 1 rfl (by decide +kernel) ?_
  refine iw_iload_n (i := 2) (pc' := 3) 2 rfl (by decide +kernel) ?_
  obtain ⟨v21, hc, hf⟩ := ic_bd hf
  refine iw_callV (pc' := 6) (S0 := []) (S1 := [.int v21]) (c1 := 0) (s1 := 0) (k := 2) (ct_X9_loadOf l κ sw μ r1 x2 hc) cO_90 ⟨rfl, rfl⟩ mv_X9_loadOf lkm_X9_136 ⟨rfl, rfl⟩ (ic_sum8 trivial (Nat.le_of_ble_eq_true rfl)) (by unfold ic_rm; decide +kernel) ⟨rfl, rfl, rfl⟩ ⟨Nat.le_of_ble_eq_true rfl, Nat.le_of_ble_eq_true rfl⟩ ?_
  refine iw_istore_n0 (i := 3) (pc' := 7) (L' := [(0, ic_rv κ.1 90), (1, ic_rv κ.1 r1), (2, .int x2), (3, .int v21)]) rfl (by decide +kernel) ?_
  refine iw_iload_n (i := 3) (pc' := 8) 3 rfl (by decide +kernel) ?_
  refine iw_iconst (i := 3) (v := (3 : Int32)) (pc' := 9) (by decide +kernel) ?_
  refine iw_aload_n (i := 0) (pc' := 10) 0 rfl (by decide +kernel) ?_
  refine iw_aload_n (i := 1) (pc' := 11) 1 rfl (by decide +kernel) ?_
  refine iw_iload_n (i := 2) (pc' := 12) 2 rfl (by decide +kernel) ?_
  obtain ⟨v22, hc, hf⟩ := ic_bd hf
  refine iw_callV (pc' := 15) (S0 := [.int (3 : Int32), .int v21]) (S1 := [.int v22, .int (3 : Int32), .int v21]) (c1 := 0) (s1 := 0) (k := 2) (ct_X9_bearsOf l κ sw μ r1 x2 hc) cO_90 ⟨rfl, rfl⟩ mv_X9_bearsOf lkm_X9_140 ⟨rfl, rfl⟩ (ic_sum8 ⟨rfl, rfl, trivial⟩ (Nat.le_of_ble_eq_true rfl)) (by unfold ic_rm; decide +kernel) ⟨rfl, rfl, rfl⟩ ⟨Nat.le_of_ble_eq_true rfl, Nat.le_of_ble_eq_true rfl⟩ ?_
  refine iw_imul (pc' := 16) (by decide +kernel) ?_
  refine iw_iconst (i := 4) (v := (4 : Int32)) (pc' := 17) (by decide +kernel) ?_
  refine iw_idiv (pc' := 18) hf (by decide +kernel) (fun hf => ?_)
  obtain ⟨q23, hf, hgq23⟩ := ic_bd hf
  have hjq23 : ic_W l κ MX9_cracks ic_X0 (ic_Z κ MX9_cracks (some (.int R)) 106 (ic_rs sw) μ) 36 [] [.int q23] 106 (ic_rs sw) μ 0 0 := by
    have hf := hgq23
    obtain ⟨hb, hf⟩ := ic_rz_of hf
    exact iw_zreturn hb (Option.some.inj hf) rfl rfl (by decide +kernel)
  refine iw_icmp_le (off := 17) (tg := 35) (pc' := 21) hf (by decide +kernel) (fun hf => ?_) (fun hf => ?_)
  · refine iw_iconst (i := 0) (v := (0 : Int32)) (pc' := 36) (by decide +kernel) ?_
    obtain rfl := Option.some.inj hf
    exact iw_sub [] rfl hjq23
  · refine iw_iload_n (i := 3) (pc' := 22) 3 rfl (by decide +kernel) ?_
    refine iw_aload_n (i := 0) (pc' := 23) 0 rfl (by decide +kernel) ?_
    refine iw_aload_n (i := 1) (pc' := 24) 1 rfl (by decide +kernel) ?_
    refine iw_iload_n (i := 2) (pc' := 25) 2 rfl (by decide +kernel) ?_
    obtain ⟨v24, hc, hf⟩ := ic_bd hf
    refine iw_callV (pc' := 28) (S0 := [.int v21]) (S1 := [.int v24, .int v21]) (c1 := 0) (s1 := 0) (k := 2) (ct_X9_bearsOf l κ sw μ r1 x2 hc) cO_90 ⟨rfl, rfl⟩ mv_X9_bearsOf lkm_X9_140 ⟨rfl, rfl⟩ (ic_sum8 ⟨rfl, trivial⟩ (Nat.le_of_ble_eq_true rfl)) (by unfold ic_rm; decide +kernel) ⟨rfl, rfl, rfl⟩ ⟨Nat.le_of_ble_eq_true rfl, Nat.le_of_ble_eq_true rfl⟩ ?_
    refine iw_icmp_gt (off := 7) (tg := 35) (pc' := 31) hf (by decide +kernel) (fun hf => ?_) (fun hf => ?_)
    · refine iw_iconst (i := 0) (v := (0 : Int32)) (pc' := 36) (by decide +kernel) ?_
      obtain rfl := Option.some.inj hf
      exact iw_sub [] rfl hjq23
    · refine iw_iconst (i := 1) (v := (1 : Int32)) (pc' := 32) (by decide +kernel) ?_
      refine iw_goto (off := 4) (pc' := 36) (by decide +kernel) ?_
      obtain rfl := Option.some.inj hf
      exact iw_sub [] rfl hjq23
set_option maxRecDepth 100000 in
set_option maxHeartbeats 4000000 in
theorem lpX9_breaking_4_ok (l : Launch) (κ : ic_K) (sw : Nat) (μ : ic_M) (r1_ : Nat) {Z : State → List Frame → Array Value → State → Prop} {R : Int32} (hk : ic_W l κ MX9_breaking ic_X0 Z 49 [(2, .int R)] [] 106 (ic_rs sw) μ 0 0) : ∀ (fu : Nat) (y2_ : Int32) (y3_ : Int32), lpX9_breaking_4 μ r1_ fu y2_ y3_ = some R → ic_W l κ MX9_breaking ic_X0 Z 4 [(0, ic_rv κ.1 90), (1, ic_rv κ.1 r1_), (2, .int y2_), (3, .int y3_)] [] 106 (ic_rs sw) μ 0 0 := by
  intro fu
  induction fu with
  | zero =>
    intro y2_ y3_ hf
    exact absurd hf (by simp [lpX9_breaking_4])
  | succ fu ih =>
    intro y2_ y3_ hf
    rw [lpX9_breaking_4] at hf
    refine iw_iload_n (i := 3) (pc' := 5) 3 rfl (by decide +kernel) ?_
    refine iw_aload_n (i := 0) (pc' := 6) 0 rfl (by decide +kernel) ?_
    obtain ⟨v21, hc, hf⟩ := ic_bd hf
    refine iw_callV (pc' := 9) (S0 := [.int y3_]) (S1 := [.int v21, .int y3_]) (c1 := 0) (s1 := 0) (k := 0) (ct_X9_cells l κ sw μ hc) cO_90 ⟨rfl, rfl⟩ mv_X9_cells lkm_X9_120 ⟨rfl, rfl⟩ (ic_sum8 ⟨rfl, trivial⟩ (Nat.le_of_ble_eq_true rfl)) (by unfold ic_rm; decide +kernel) ⟨rfl, rfl, rfl⟩ ⟨Nat.le_of_ble_eq_true rfl, Nat.le_of_ble_eq_true rfl⟩ ?_
    refine iw_icmp_ge (off := 40) (tg := 49) (pc' := 12) hf (by decide +kernel) (fun hf => ?_) (fun hf => ?_)
    · obtain rfl := Option.some.inj hf
      exact iw_sub [2] rfl hk
    · refine iw_iload_n (i := 2) (pc' := 13) 2 rfl (by decide +kernel) ?_
      refine iw_aload_n (i := 1) (pc' := 14) 1 rfl (by decide +kernel) ?_
      refine iw_iload_n (i := 3) (pc' := 15) 3 rfl (by decide +kernel) ?_
      refine iw_iald (pc' := 16) hf (fun h => ic_il_is h) (by decide +kernel) (fun v22 hf => ?_)
      obtain ⟨q23, hf, hgq23⟩ := ic_bd hf
      have hjq23 : ic_W l κ MX9_breaking ic_X0 Z 41 [(0, ic_rv κ.1 90), (1, ic_rv κ.1 r1_), (3, .int y3_)] [.int q23, .int y2_] 106 (ic_rs sw) μ 0 0 := by
        have hf := hgq23
        refine iw_ior (pc' := 42) (by decide +kernel) ?_
        refine iw_istore_n (i := 2) (pc' := 43) (L1 := fun x26 => [(0, ic_rv κ.1 90), (1, ic_rv κ.1 r1_), (2, .int x26), (3, .int y3_)]) hf (fun _ => rfl) (by decide +kernel) (fun x26 hf => ?_)
        refine iw_iinc (i := 3) (d := 1) (pc' := 46) (v := (1 : Int32)) (L1 := fun x27 => [(0, ic_rv κ.1 90), (1, ic_rv κ.1 r1_), (2, .int x26), (3, .int x27)]) hf 3 rfl (fun _ => rfl) (by decide +kernel) (fun x27 hf => ?_)
        refine iw_goto (off := (-42)) (pc' := 4) (by decide +kernel) ?_
        exact iw_sub [0, 1, 2, 3] rfl (ih _ _ hf)
      refine iw_if_le (off := 24) (tg := 40) (pc' := 19) hf (by decide +kernel) (fun hf => ?_) (fun hf => ?_)
      · refine iw_iconst (i := 0) (v := (0 : Int32)) (pc' := 41) (by decide +kernel) ?_
        obtain rfl := Option.some.inj hf
        exact iw_sub [0, 1, 3] rfl hjq23
      · refine iw_aload_n (i := 0) (pc' := 20) 0 rfl (by decide +kernel) ?_
        refine iw_aload_n (i := 1) (pc' := 21) 1 rfl (by decide +kernel) ?_
        refine iw_iload_n (i := 3) (pc' := 22) 3 rfl (by decide +kernel) ?_
        obtain ⟨v24, hc, hf⟩ := ic_bd hf
        refine iw_callV (pc' := 25) (S0 := [.int y2_]) (S1 := [.int v24, .int y2_]) (c1 := 0) (s1 := 0) (k := 2) (ct_X9_loadOf l κ sw μ r1_ y3_ hc) cO_90 ⟨rfl, rfl⟩ mv_X9_loadOf lkm_X9_136 ⟨rfl, rfl⟩ (ic_sum8 ⟨rfl, trivial⟩ (Nat.le_of_ble_eq_true rfl)) (by unfold ic_rm; decide +kernel) ⟨rfl, rfl, rfl⟩ ⟨Nat.le_of_ble_eq_true rfl, Nat.le_of_ble_eq_true rfl⟩ ?_
        refine iw_aload_n (i := 0) (pc' := 26) 0 rfl (by decide +kernel) ?_
        refine iw_aload_n (i := 1) (pc' := 27) 1 rfl (by decide +kernel) ?_
        refine iw_iload_n (i := 3) (pc' := 28) 3 rfl (by decide +kernel) ?_
        obtain ⟨v25, hc, hf⟩ := ic_bd hf
        refine iw_callV (pc' := 31) (S0 := [.int v24, .int y2_]) (S1 := [.int v25, .int v24, .int y2_]) (c1 := 0) (s1 := 0) (k := 2) (ct_X9_bearsOf l κ sw μ r1_ y3_ hc) cO_90 ⟨rfl, rfl⟩ mv_X9_bearsOf lkm_X9_140 ⟨rfl, rfl⟩ (ic_sum8 ⟨rfl, rfl, trivial⟩ (Nat.le_of_ble_eq_true rfl)) (by unfold ic_rm; decide +kernel) ⟨rfl, rfl, rfl⟩ ⟨Nat.le_of_ble_eq_true rfl, Nat.le_of_ble_eq_true rfl⟩ ?_
        refine iw_icmp_le (off := 9) (tg := 40) (pc' := 34) hf (by decide +kernel) (fun hf => ?_) (fun hf => ?_)
        · refine iw_iconst (i := 0) (v := (0 : Int32)) (pc' := 41) (by decide +kernel) ?_
          obtain rfl := Option.some.inj hf
          exact iw_sub [0, 1, 3] rfl hjq23
        · refine iw_iconst (i := 1) (v := (1 : Int32)) (pc' := 35) (by decide +kernel) ?_
          refine iw_iload_n (i := 3) (pc' := 36) 3 rfl (by decide +kernel) ?_
          refine iw_ishl (pc' := 37) (by decide +kernel) ?_
          refine iw_goto (off := 4) (pc' := 41) (by decide +kernel) ?_
          obtain rfl := Option.some.inj hf
          exact iw_sub [0, 1, 3] rfl hjq23
set_option maxRecDepth 100000 in
set_option maxHeartbeats 4000000 in
theorem ct_X9_breaking (l : Launch) (κ : ic_K) (sw : Nat) (μ : ic_M) (r1 : Nat) {R : Int32} (hf : fX9_breaking μ r1 = some R) : ic_C l κ MX9_breaking [ic_rv κ.1 90, ic_rv κ.1 r1] 106 (ic_rs sw) μ (some (.int R)) 106 (ic_rs sw) μ := by
  refine ic_C.of (L := [(0, ic_rv κ.1 90), (1, ic_rv κ.1 r1)]) ⟨ic_cat _ _, ic_cat _ _, trivial⟩ ⟨by decide +kernel, Nat.le_of_ble_eq_true rfl⟩ rfl ?_
  unfold fX9_breaking at hf
  refine iw_iconst (i := 0) (v := (0 : Int32)) (pc' := 1) (by decide +kernel) ?_
  refine iw_istore_n0 (i := 2) (pc' := 2) (L' := [(0, ic_rv κ.1 90), (1, ic_rv κ.1 r1), (2, .int (0 : Int32))]) rfl (by decide +kernel) ?_
  refine iw_iconst (i := 0) (v := (0 : Int32)) (pc' := 3) (by decide +kernel) ?_
  refine iw_istore_n0 (i := 3) (pc' := 4) (L' := [(0, ic_rv κ.1 90), (1, ic_rv κ.1 r1), (2, .int (0 : Int32)), (3, .int (0 : Int32))]) rfl (by decide +kernel) ?_
  obtain ⟨q28, hf, hgq28⟩ := ic_bd hf
  have hjq28 : ic_W l κ MX9_breaking ic_X0 (ic_Z κ MX9_breaking (some (.int R)) 106 (ic_rs sw) μ) 49 [(2, .int q28)] [] 106 (ic_rs sw) μ 0 0 := by
    have hf := hgq28
    refine iw_iload_n (i := 2) (pc' := 50) 0 rfl (by decide +kernel) ?_
    exact iw_ireturn (Option.some.inj hf) rfl rfl (by decide +kernel)
  exact iw_sub [0, 1, 2, 3] rfl (lpX9_breaking_4_ok l κ sw μ r1 hjq28 1000 (0 : Int32) (0 : Int32) hf)
set_option maxRecDepth 100000 in
set_option maxHeartbeats 4000000 in
theorem lpX9_drowns_2_ok (l : Launch) (κ : ic_K) (sw : Nat) (r1_ : Nat) {Z : State → List Frame → Array Value → State → Prop} {R : ic_M} (hk : ic_W l κ MX9_drowns ic_X0 Z 46 [] [] 106 (ic_rs sw) R 0 0) : ∀ (fu : Nat) (y2_ : Int32) (μ : ic_M), lpX9_drowns_2 r1_ fu y2_ μ = some R → ic_W l κ MX9_drowns ic_X0 Z 2 [(0, ic_rv κ.1 90), (1, ic_rv κ.1 r1_), (2, .int y2_)] [] 106 (ic_rs sw) μ 0 0 := by
  intro fu
  induction fu with
  | zero =>
    intro y2_ μ hf
    exact absurd hf (by simp [lpX9_drowns_2])
  | succ fu ih =>
    intro y2_ μ hf
    rw [lpX9_drowns_2] at hf
    refine iw_iload_n (i := 2) (pc' := 3) 2 rfl (by decide +kernel) ?_
    refine iw_aload_n (i := 0) (pc' := 4) 0 rfl (by decide +kernel) ?_
    refine iw_getr (pc' := 7) (q := 92) ic_fk9 cO_90 rfl lkf_X9_17 (by decide +kernel) ?_
    refine iw_iconst (i := 3) (v := (3 : Int32)) (pc' := 8) (by decide +kernel) ?_
    refine iw_iald (pc' := 9) hf (fun _ => cI_92) (by decide +kernel) (fun v21 hf => ?_)
    refine iw_icmp_ge (off := 37) (tg := 46) (pc' := 12) hf (by decide +kernel) (fun hf => ?_) (fun hf => ?_)
    · obtain rfl := Option.some.inj hf
      exact iw_sub [] rfl hk
    · refine iw_aload_n (i := 1) (pc' := 13) 1 rfl (by decide +kernel) ?_
      refine iw_bipush (i := 18) (v := (18 : Int32)) (pc' := 15) (by decide +kernel) ?_
      refine iw_iload_n (i := 2) (pc' := 16) 2 rfl (by decide +kernel) ?_
      refine iw_iadd (pc' := 17) (by decide +kernel) ?_
      refine iw_iald (pc' := 18) hf (fun h => ic_il_is h) (by decide +kernel) (fun v22 hf => ?_)
      obtain ⟨q23, hf, hgq23⟩ := ic_bd hf
      have hjq23 : ic_W l κ MX9_drowns ic_X0 Z 40 [(0, ic_rv κ.1 90), (1, ic_rv κ.1 r1_), (2, .int y2_)] [] 106 (ic_rs sw) q23 0 0 := by
        have hf := hgq23
        refine iw_iinc (i := 2) (d := 1) (pc' := 43) (v := (1 : Int32)) (L1 := fun x27 => [(0, ic_rv κ.1 90), (1, ic_rv κ.1 r1_), (2, .int x27)]) hf 2 rfl (fun _ => rfl) (by decide +kernel) (fun x27 hf => ?_)
        refine iw_goto (off := (-41)) (pc' := 2) (by decide +kernel) ?_
        exact iw_sub [0, 1, 2] rfl (ih _ _ hf)
      refine iw_if_lt (off := 22) (tg := 40) (pc' := 21) hf (by decide +kernel) (fun hf => ?_) (fun hf => ?_)
      · obtain rfl := Option.some.inj hf
        exact iw_sub [0, 1, 2] rfl hjq23
      · refine iw_aload_n (i := 1) (pc' := 22) 1 rfl (by decide +kernel) ?_
        refine iw_aload_n (i := 1) (pc' := 23) 1 rfl (by decide +kernel) ?_
        refine iw_bipush (i := 18) (v := (18 : Int32)) (pc' := 25) (by decide +kernel) ?_
        refine iw_iload_n (i := 2) (pc' := 26) 2 rfl (by decide +kernel) ?_
        refine iw_iadd (pc' := 27) (by decide +kernel) ?_
        refine iw_iald (pc' := 28) hf (fun h => ic_il_is h) (by decide +kernel) (fun v24 hf => ?_)
        refine iw_iald (pc' := 29) hf (fun h => ic_il_is h) (by decide +kernel) (fun v25 hf => ?_)
        refine iw_if_ne (off := 11) (tg := 40) (pc' := 32) hf (by decide +kernel) (fun hf => ?_) (fun hf => ?_)
        · obtain rfl := Option.some.inj hf
          exact iw_sub [0, 1, 2] rfl hjq23
        · refine iw_aload_n (i := 1) (pc' := 33) 1 rfl (by decide +kernel) ?_
          refine iw_bipush (i := 18) (v := (18 : Int32)) (pc' := 35) (by decide +kernel) ?_
          refine iw_iload_n (i := 2) (pc' := 36) 2 rfl (by decide +kernel) ?_
          refine iw_iadd (pc' := 37) (by decide +kernel) ?_
          refine iw_bipush (i := (-2)) (v := (-2 : Int32)) (pc' := 39) (by decide +kernel) ?_
          refine iw_iast (pc' := 40) hf (fun h => ic_il_is h) (by decide +kernel) (fun m26 hf => ?_)
          obtain rfl := Option.some.inj hf
          exact iw_sub [0, 1, 2] rfl hjq23
set_option maxRecDepth 100000 in
set_option maxHeartbeats 4000000 in
theorem ct_X9_drowns (l : Launch) (κ : ic_K) (sw : Nat) (μ : ic_M) (r1 : Nat) {R : ic_M} (hf : fX9_drowns μ r1 = some R) : ic_C l κ MX9_drowns [ic_rv κ.1 90, ic_rv κ.1 r1] 106 (ic_rs sw) μ none 106 (ic_rs sw) R := by
  refine ic_C.of (L := [(0, ic_rv κ.1 90), (1, ic_rv κ.1 r1)]) ⟨ic_cat _ _, ic_cat _ _, trivial⟩ ⟨by decide +kernel, Nat.le_of_ble_eq_true rfl⟩ rfl ?_
  unfold fX9_drowns at hf
  refine iw_iconst (i := 0) (v := (0 : Int32)) (pc' := 1) (by decide +kernel) ?_
  refine iw_istore_n0 (i := 2) (pc' := 2) (L' := [(0, ic_rv κ.1 90), (1, ic_rv κ.1 r1), (2, .int (0 : Int32))]) rfl (by decide +kernel) ?_
  obtain ⟨q28, hf, hgq28⟩ := ic_bd hf
  have hjq28 : ic_W l κ MX9_drowns ic_X0 (ic_Z κ MX9_drowns none 106 (ic_rs sw) R) 46 [] [] 106 (ic_rs sw) q28 0 0 := by
    have hf := hgq28
    exact iw_vreturn rfl (Option.some.inj hf) (by decide +kernel)
  exact iw_sub [0, 1, 2] rfl (lpX9_drowns_2_ok l κ sw r1 hjq28 1000 (0 : Int32) μ hf)
set_option maxRecDepth 100000 in
set_option maxHeartbeats 4000000 in
theorem ct_X9_owns (l : Launch) (κ : ic_K) (sw : Nat) (μ : ic_M) (r0 : Nat) (x1 : Int32) (x2 : Int32) {R : ic_M} (hf : fX9_owns μ r0 x1 x2 = some R) : ic_C l κ MX9_owns [ic_rv κ.1 r0, .int x1, .int x2] 106 (ic_rs sw) μ none 106 (ic_rs sw) R := by
  refine ic_C.of (L := [(0, ic_rv κ.1 r0), (1, .int x1), (2, .int x2)]) ⟨ic_cat _ _, rfl, rfl, trivial⟩ ⟨by decide +kernel, Nat.le_of_ble_eq_true rfl⟩ rfl ?_
  unfold fX9_owns at hf
  refine iw_aload_n (i := 0) (pc' := 1) 0 rfl (by decide +kernel) ?_
  refine iw_bipush (i := 27) (v := (27 : Int32)) (pc' := 3) (by decide +kernel) ?_
  refine iw_dup2 (pc' := 4) rfl (ic_cat _ _) (by decide +kernel) ?_
  refine iw_iald (pc' := 5) hf (fun h => ic_il_is h) (by decide +kernel) (fun v21 hf => ?_)
  refine iw_iload_n (i := 2) (pc' := 6) 2 rfl (by decide +kernel) ?_
  refine iw_iadd (pc' := 7) (by decide +kernel) ?_
  refine iw_iast (pc' := 8) hf (fun h => ic_il_is h) (by decide +kernel) (fun m22 hf => ?_)
  refine iw_aload_n (i := 0) (pc' := 9) 0 rfl (by decide +kernel) ?_
  refine iw_bipush (i := 25) (v := (25 : Int32)) (pc' := 11) (by decide +kernel) ?_
  refine iw_iload_n (i := 2) (pc' := 12) 2 rfl (by decide +kernel) ?_
  obtain ⟨q23, hf, hgq23⟩ := ic_bd hf
  have hjq23 : ic_W l κ MX9_owns ic_X0 (ic_Z κ MX9_owns none 106 (ic_rs sw) R) 31 [] [.int q23, .int (25 : Int32), ic_rv κ.1 r0] 106 (ic_rs sw) m22 0 0 := by
    have hf := hgq23
    refine iw_iast (pc' := 32) hf (fun h => ic_il_is h) (by decide +kernel) (fun m27 hf => ?_)
    exact iw_vreturn rfl (Option.some.inj hf) (by decide +kernel)
  refine iw_if_le (off := 15) (tg := 27) (pc' := 15) hf (by decide +kernel) (fun hf => ?_) (fun hf => ?_)
  · refine iw_aload_n (i := 0) (pc' := 28) 0 rfl (by decide +kernel) ?_
    refine iw_bipush (i := 25) (v := (25 : Int32)) (pc' := 30) (by decide +kernel) ?_
    refine iw_iald (pc' := 31) hf (fun h => ic_il_is h) (by decide +kernel) (fun v24 hf => ?_)
    obtain rfl := Option.some.inj hf
    exact iw_sub [] rfl hjq23
  · refine iw_aload_n (i := 0) (pc' := 16) 0 rfl (by decide +kernel) ?_
    refine iw_bipush (i := 25) (v := (25 : Int32)) (pc' := 18) (by decide +kernel) ?_
    refine iw_iald (pc' := 19) hf (fun h => ic_il_is h) (by decide +kernel) (fun v25 hf => ?_)
    refine iw_iconst (i := (-1)) (v := (-1 : Int32)) (pc' := 20) (by decide +kernel) ?_
    refine iw_icmp_ne (off := 7) (tg := 27) (pc' := 23) hf (by decide +kernel) (fun hf => ?_) (fun hf => ?_)
    · refine iw_aload_n (i := 0) (pc' := 28) 0 rfl (by decide +kernel) ?_
      refine iw_bipush (i := 25) (v := (25 : Int32)) (pc' := 30) (by decide +kernel) ?_
      refine iw_iald (pc' := 31) hf (fun h => ic_il_is h) (by decide +kernel) (fun v26 hf => ?_)
      obtain rfl := Option.some.inj hf
      exact iw_sub [] rfl hjq23
    · refine iw_iload_n (i := 1) (pc' := 24) 1 rfl (by decide +kernel) ?_
      refine iw_goto (off := 7) (pc' := 31) (by decide +kernel) ?_
      obtain rfl := Option.some.inj hf
      exact iw_sub [] rfl hjq23
set_option maxRecDepth 100000 in
set_option maxHeartbeats 4000000 in
theorem lpX9_breaks_47_ok (l : Launch) (κ : ic_K) (sw : Nat) (r1_ : Nat) (x2_ : Int32) (x3_ : Int32) (x4_ : Int32) (x5_ : Int32) {Z : State → List Frame → Array Value → State → Prop} {R : ic_M} (hk : ic_W l κ MX9_breaks ic_X0 Z 95 [(0, ic_rv κ.1 90), (1, ic_rv κ.1 r1_), (2, .int x2_), (3, .int x3_), (4, .int x4_), (5, .int x5_)] [] 106 (ic_rs sw) R 0 0) : ∀ (fu : Nat) (y6_ : Int32) (μ : ic_M), lpX9_breaks_47 r1_ x2_ x3_ x4_ x5_ fu y6_ μ = some R → ic_W l κ MX9_breaks ic_X0 Z 47 [(0, ic_rv κ.1 90), (1, ic_rv κ.1 r1_), (2, .int x2_), (3, .int x3_), (4, .int x4_), (5, .int x5_), (6, .int y6_)] [] 106 (ic_rs sw) μ 0 0 := by
  intro fu
  induction fu with
  | zero =>
    intro y6_ μ hf
    exact absurd hf (by simp [lpX9_breaks_47])
  | succ fu ih =>
    intro y6_ μ hf
    rw [lpX9_breaks_47] at hf
    refine iw_iload (i := 6) (pc' := 49) 6 rfl (by decide +kernel) ?_
    refine iw_aload_n (i := 0) (pc' := 50) 0 rfl (by decide +kernel) ?_
    refine iw_getr (pc' := 53) (q := 92) ic_fk9 cO_90 rfl lkf_X9_17 (by decide +kernel) ?_
    refine iw_iconst (i := 3) (v := (3 : Int32)) (pc' := 54) (by decide +kernel) ?_
    refine iw_iald (pc' := 55) hf (fun _ => cI_92) (by decide +kernel) (fun v27 hf => ?_)
    refine iw_icmp_ge (off := 40) (tg := 95) (pc' := 58) hf (by decide +kernel) (fun hf => ?_) (fun hf => ?_)
    · obtain rfl := Option.some.inj hf
      exact iw_sub [0, 1, 2, 3, 4, 5] rfl hk
    · refine iw_aload_n (i := 1) (pc' := 59) 1 rfl (by decide +kernel) ?_
      refine iw_bipush (i := 18) (v := (18 : Int32)) (pc' := 61) (by decide +kernel) ?_
      refine iw_iload (i := 6) (pc' := 63) 6 rfl (by decide +kernel) ?_
      refine iw_iadd (pc' := 64) (by decide +kernel) ?_
      refine iw_aload_n (i := 1) (pc' := 65) 1 rfl (by decide +kernel) ?_
      refine iw_bipush (i := 18) (v := (18 : Int32)) (pc' := 67) (by decide +kernel) ?_
      refine iw_iload (i := 6) (pc' := 69) 6 rfl (by decide +kernel) ?_
      refine iw_iadd (pc' := 70) (by decide +kernel) ?_
      refine iw_iald (pc' := 71) hf (fun h => ic_il_is h) (by decide +kernel) (fun v28 hf => ?_)
      refine iw_iload (i := 5) (pc' := 73) 5 rfl (by decide +kernel) ?_
      obtain ⟨q29, hf, hgq29⟩ := ic_bd hf
      have hjq29 : ic_W l κ MX9_breaks ic_X0 Z 88 [(0, ic_rv κ.1 90), (1, ic_rv κ.1 r1_), (2, .int x2_), (3, .int x3_), (4, .int x4_), (5, .int x5_), (6, .int y6_)] [.int q29, .int ((18 : Int32) + y6_), ic_rv κ.1 r1_] 106 (ic_rs sw) μ 0 0 := by
        have hf := hgq29
        refine iw_iast (pc' := 89) hf (fun h => ic_il_is h) (by decide +kernel) (fun m31 hf => ?_)
        refine iw_iinc (i := 6) (d := 1) (pc' := 92) (v := (1 : Int32)) (L1 := fun x32 => [(0, ic_rv κ.1 90), (1, ic_rv κ.1 r1_), (2, .int x2_), (3, .int x3_), (4, .int x4_), (5, .int x5_), (6, .int x32)]) hf 6 rfl (fun _ => rfl) (by decide +kernel) (fun x32 hf => ?_)
        refine iw_goto (off := (-45)) (pc' := 47) (by decide +kernel) ?_
        exact iw_sub [0, 1, 2, 3, 4, 5, 6] rfl (ih _ _ hf)
      refine iw_icmp_ne (off := 8) (tg := 81) (pc' := 76) hf (by decide +kernel) (fun hf => ?_) (fun hf => ?_)
      · refine iw_aload_n (i := 1) (pc' := 82) 1 rfl (by decide +kernel) ?_
        refine iw_bipush (i := 18) (v := (18 : Int32)) (pc' := 84) (by decide +kernel) ?_
        refine iw_iload (i := 6) (pc' := 86) 6 rfl (by decide +kernel) ?_
        refine iw_iadd (pc' := 87) (by decide +kernel) ?_
        refine iw_iald (pc' := 88) hf (fun h => ic_il_is h) (by decide +kernel) (fun v30 hf => ?_)
        obtain rfl := Option.some.inj hf
        exact iw_sub [0, 1, 2, 3, 4, 5, 6] rfl hjq29
      · refine iw_bipush (i := (-2)) (v := (-2 : Int32)) (pc' := 78) (by decide +kernel) ?_
        refine iw_goto (off := 10) (pc' := 88) (by decide +kernel) ?_
        obtain rfl := Option.some.inj hf
        exact iw_sub [0, 1, 2, 3, 4, 5, 6] rfl hjq29
set_option maxRecDepth 100000 in
set_option maxHeartbeats 4000000 in
theorem lpX9_breaks_17_ok (l : Launch) (κ : ic_K) (sw : Nat) (r1_ : Nat) (x2_ : Int32) (x4_ : Int32) {Z : State → List Frame → Array Value → State → Prop} {R : Int32 × ic_M} (hk : ic_W l κ MX9_breaks ic_X0 Z 101 [(0, ic_rv κ.1 90), (1, ic_rv κ.1 r1_), (2, .int x2_), (3, .int R.1)] [] 106 (ic_rs sw) R.2 0 0) : ∀ (fu : Nat) (y3_ : Int32) (y5_ : Int32) (μ : ic_M), lpX9_breaks_17 r1_ x2_ x4_ fu y3_ y5_ μ = some R → ic_W l κ MX9_breaks ic_X0 Z 17 [(0, ic_rv κ.1 90), (1, ic_rv κ.1 r1_), (2, .int x2_), (3, .int y3_), (4, .int x4_), (5, .int y5_)] [] 106 (ic_rs sw) μ 0 0 := by
  intro fu
  induction fu with
  | zero =>
    intro y3_ y5_ μ hf
    exact absurd hf (by simp [lpX9_breaks_17])
  | succ fu ih =>
    intro y3_ y5_ μ hf
    rw [lpX9_breaks_17] at hf
    refine iw_iload (i := 5) (pc' := 19) 5 rfl (by decide +kernel) ?_
    refine iw_aload_n (i := 0) (pc' := 20) 0 rfl (by decide +kernel) ?_
    obtain ⟨v22, hc, hf⟩ := ic_bd hf
    refine iw_callV (pc' := 23) (S0 := [.int y5_]) (S1 := [.int v22, .int y5_]) (c1 := 0) (s1 := 0) (k := 0) (ct_X9_cells l κ sw μ hc) cO_90 ⟨rfl, rfl⟩ mv_X9_cells lkm_X9_120 ⟨rfl, rfl⟩ (ic_sum8 ⟨rfl, trivial⟩ (Nat.le_of_ble_eq_true rfl)) (by unfold ic_rm; decide +kernel) ⟨rfl, rfl, rfl⟩ ⟨Nat.le_of_ble_eq_true rfl, Nat.le_of_ble_eq_true rfl⟩ ?_
    refine iw_icmp_ge (off := 78) (tg := 101) (pc' := 26) hf (by decide +kernel) (fun hf => ?_) (fun hf => ?_)
    · obtain rfl := Option.some.inj hf
      exact iw_sub [0, 1, 2, 3] rfl hk
    · refine iw_iload (i := 4) (pc' := 28) 4 rfl (by decide +kernel) ?_
      refine iw_iload (i := 5) (pc' := 30) 5 rfl (by decide +kernel) ?_
      obtain ⟨v23, hc, hf⟩ := ic_bd hf
      refine iw_callS (pc' := 33) (S0 := []) (S1 := [.int v23]) (c1 := 0) (s1 := 0) (k := 2) (ct_X9_has l κ sw μ x4_ y5_ hc) ms_X9_has lkm_X9_147 ⟨rfl, rfl⟩ (ic_sum8 trivial (Nat.le_of_ble_eq_true rfl)) (by unfold ic_rm; decide +kernel) ⟨rfl, rfl, rfl⟩ ⟨Nat.le_of_ble_eq_true rfl, Nat.le_of_ble_eq_true rfl⟩ ?_
      obtain ⟨q24, hf, hgq24⟩ := ic_bd hf
      have hjq24 : ic_W l κ MX9_breaks ic_X0 Z 95 [(0, ic_rv κ.1 90), (1, ic_rv κ.1 r1_), (2, .int x2_), (3, .int q24.1), (4, .int x4_), (5, .int y5_)] [] 106 (ic_rs sw) q24.2 0 0 := by
        have hf := hgq24
        refine iw_iinc (i := 5) (d := 1) (pc' := 98) (v := (1 : Int32)) (L1 := fun x34 => [(0, ic_rv κ.1 90), (1, ic_rv κ.1 r1_), (2, .int x2_), (3, .int q24.1), (4, .int x4_), (5, .int x34)]) hf 5 rfl (fun _ => rfl) (by decide +kernel) (fun x34 hf => ?_)
        refine iw_goto (off := (-81)) (pc' := 17) (by decide +kernel) ?_
        exact iw_sub [0, 1, 2, 3, 4, 5] rfl (ih _ _ _ hf)
      refine iw_if_eq (off := 62) (tg := 95) (pc' := 36) hf (by decide +kernel) (fun hf => ?_) (fun hf => ?_)
      · obtain rfl := Option.some.inj hf
        exact iw_sub [0, 1, 2, 3, 4, 5] rfl hjq24
      · refine iw_aload_n (i := 1) (pc' := 37) 1 rfl (by decide +kernel) ?_
        refine iw_iload (i := 5) (pc' := 39) 5 rfl (by decide +kernel) ?_
        refine iw_iconst (i := 0) (v := (0 : Int32)) (pc' := 40) (by decide +kernel) ?_
        refine iw_iast (pc' := 41) hf (fun h => ic_il_is h) (by decide +kernel) (fun m25 hf => ?_)
        refine iw_iinc (i := 3) (d := 1) (pc' := 44) (v := (1 : Int32)) (L1 := fun x26 => [(0, ic_rv κ.1 90), (1, ic_rv κ.1 r1_), (2, .int x2_), (3, .int x26), (4, .int x4_), (5, .int y5_)]) hf 3 rfl (fun _ => rfl) (by decide +kernel) (fun x26 hf => ?_)
        refine iw_iconst (i := 0) (v := (0 : Int32)) (pc' := 45) (by decide +kernel) ?_
        refine iw_istore0 (i := 6) (pc' := 47) (L' := [(0, ic_rv κ.1 90), (1, ic_rv κ.1 r1_), (2, .int x2_), (3, .int x26), (4, .int x4_), (5, .int y5_), (6, .int (0 : Int32))]) rfl (by decide +kernel) ?_
        obtain ⟨q33, hf, hgq33⟩ := ic_bd hf
        have hjq33 : ic_W l κ MX9_breaks ic_X0 Z 95 [(0, ic_rv κ.1 90), (1, ic_rv κ.1 r1_), (2, .int x2_), (3, .int x26), (4, .int x4_), (5, .int y5_)] [] 106 (ic_rs sw) q33 0 0 := by
          have hf := hgq33
          obtain rfl := Option.some.inj hf
          exact iw_sub [0, 1, 2, 3, 4, 5] rfl hjq24
        exact iw_sub [0, 1, 2, 3, 4, 5, 6] rfl (lpX9_breaks_47_ok l κ sw r1_ x2_ x26 x4_ y5_ hjq33 1000 (0 : Int32) m25 hf)
set_option maxRecDepth 100000 in
set_option maxHeartbeats 4000000 in
theorem lpX9_breaks_9_ok (l : Launch) (κ : ic_K) (sw : Nat) (r1_ : Nat) (x2_ : Int32) {Z : State → List Frame → Array Value → State → Prop} {R : Int32 × ic_M} (hk : ic_W l κ MX9_breaks ic_X0 Z 111 [(1, ic_rv κ.1 r1_), (2, .int x2_), (3, .int R.1)] [] 106 (ic_rs sw) R.2 0 0) : ∀ (fu : Nat) (y3_ : Int32) (y4_ : Int32) (μ : ic_M), lpX9_breaks_9 r1_ x2_ fu y3_ y4_ μ = some R → ic_W l κ MX9_breaks ic_X0 Z 9 [(0, ic_rv κ.1 90), (1, ic_rv κ.1 r1_), (2, .int x2_), (3, .int y3_), (4, .int y4_)] [] 106 (ic_rs sw) μ 0 0 := by
  intro fu
  induction fu with
  | zero =>
    intro y3_ y4_ μ hf
    exact absurd hf (by simp [lpX9_breaks_9])
  | succ fu ih =>
    intro y3_ y4_ μ hf
    rw [lpX9_breaks_9] at hf
    refine iw_iload (i := 4) (pc' := 11) 4 rfl (by decide +kernel) ?_
    refine iw_if_eq (off := 100) (tg := 111) (pc' := 14) hf (by decide +kernel) (fun hf => ?_) (fun hf => ?_)
    · obtain rfl := Option.some.inj hf
      exact iw_sub [1, 2, 3] rfl hk
    · refine iw_iconst (i := 0) (v := (0 : Int32)) (pc' := 15) (by decide +kernel) ?_
      refine iw_istore0 (i := 5) (pc' := 17) (L' := [(0, ic_rv κ.1 90), (1, ic_rv κ.1 r1_), (2, .int x2_), (3, .int y3_), (4, .int y4_), (5, .int (0 : Int32))]) rfl (by decide +kernel) ?_
      obtain ⟨q35, hf, hgq35⟩ := ic_bd hf
      have hjq35 : ic_W l κ MX9_breaks ic_X0 Z 101 [(0, ic_rv κ.1 90), (1, ic_rv κ.1 r1_), (2, .int x2_), (3, .int q35.1)] [] 106 (ic_rs sw) q35.2 0 0 := by
        have hf := hgq35
        refine iw_aload_n (i := 0) (pc' := 102) 0 rfl (by decide +kernel) ?_
        refine iw_aload_n (i := 1) (pc' := 103) 1 rfl (by decide +kernel) ?_
        obtain ⟨v36, hc, hf⟩ := ic_bd hf
        refine iw_callV (pc' := 106) (S0 := []) (S1 := [.int v36]) (c1 := 0) (s1 := 0) (k := 1) (ct_X9_breaking l κ sw q35.2 r1_ hc) cO_90 ⟨rfl, rfl⟩ mv_X9_breaking lkm_X9_143 ⟨rfl, rfl⟩ (ic_sum8 trivial (Nat.le_of_ble_eq_true rfl)) (by unfold ic_rm; decide +kernel) ⟨rfl, rfl, rfl⟩ ⟨Nat.le_of_ble_eq_true rfl, Nat.le_of_ble_eq_true rfl⟩ ?_
        refine iw_istore0 (i := 4) (pc' := 108) (L' := [(0, ic_rv κ.1 90), (1, ic_rv κ.1 r1_), (2, .int x2_), (3, .int q35.1), (4, .int v36)]) rfl (by decide +kernel) ?_
        refine iw_goto (off := (-99)) (pc' := 9) (by decide +kernel) ?_
        exact iw_sub [0, 1, 2, 3, 4] rfl (ih _ _ _ hf)
      exact iw_sub [0, 1, 2, 3, 4, 5] rfl (lpX9_breaks_17_ok l κ sw r1_ x2_ y4_ hjq35 1000 y3_ (0 : Int32) μ hf)
set_option maxRecDepth 100000 in
set_option maxHeartbeats 4000000 in
theorem ct_X9_breaks (l : Launch) (κ : ic_K) (sw : Nat) (μ : ic_M) (r1 : Nat) (x2 : Int32) {R : Int32 × ic_M} (hf : fX9_breaks μ r1 x2 = some R) : ic_C l κ MX9_breaks [ic_rv κ.1 90, ic_rv κ.1 r1, .int x2] 106 (ic_rs sw) μ (some (.int R.1)) 106 (ic_rs sw) R.2 := by
  refine ic_C.of (L := [(0, ic_rv κ.1 90), (1, ic_rv κ.1 r1), (2, .int x2)]) ⟨ic_cat _ _, ic_cat _ _, rfl, trivial⟩ ⟨by decide +kernel, Nat.le_of_ble_eq_true rfl⟩ rfl ?_
  unfold fX9_breaks at hf
  refine iw_iconst (i := 0) (v := (0 : Int32)) (pc' := 1) (by decide +kernel) ?_
  refine iw_istore_n0 (i := 3) (pc' := 2) (L' := [(0, ic_rv κ.1 90), (1, ic_rv κ.1 r1), (2, .int x2), (3, .int (0 : Int32))]) rfl (by decide +kernel) ?_
  refine iw_aload_n (i := 0) (pc' := 3) 0 rfl (by decide +kernel) ?_
  refine iw_aload_n (i := 1) (pc' := 4) 1 rfl (by decide +kernel) ?_
  obtain ⟨v21, hc, hf⟩ := ic_bd hf
  refine iw_callV (pc' := 7) (S0 := []) (S1 := [.int v21]) (c1 := 0) (s1 := 0) (k := 1) (ct_X9_breaking l κ sw μ r1 hc) cO_90 ⟨rfl, rfl⟩ mv_X9_breaking lkm_X9_143 ⟨rfl, rfl⟩ (ic_sum8 trivial (Nat.le_of_ble_eq_true rfl)) (by unfold ic_rm; decide +kernel) ⟨rfl, rfl, rfl⟩ ⟨Nat.le_of_ble_eq_true rfl, Nat.le_of_ble_eq_true rfl⟩ ?_
  refine iw_istore0 (i := 4) (pc' := 9) (L' := [(0, ic_rv κ.1 90), (1, ic_rv κ.1 r1), (2, .int x2), (3, .int (0 : Int32)), (4, .int v21)]) rfl (by decide +kernel) ?_
  obtain ⟨q37, hf, hgq37⟩ := ic_bd hf
  have hjq37 : ic_W l κ MX9_breaks ic_X0 (ic_Z κ MX9_breaks (some (.int R.1)) 106 (ic_rs sw) R.2) 111 [(1, ic_rv κ.1 r1), (2, .int x2), (3, .int q37.1)] [] 106 (ic_rs sw) q37.2 0 0 := by
    have hf := hgq37
    refine iw_aload_n (i := 1) (pc' := 112) 0 rfl (by decide +kernel) ?_
    refine iw_iload_n (i := 2) (pc' := 113) 1 rfl (by decide +kernel) ?_
    refine iw_iload_n (i := 3) (pc' := 114) 2 rfl (by decide +kernel) ?_
    obtain ⟨m38, hc, hf⟩ := ic_bd hf
    refine iw_callS (pc' := 117) (S0 := []) (S1 := []) (c1 := 0) (s1 := 0) (k := 3) (ct_X9_owns l κ sw q37.2 r1 x2 q37.1 hc) ms_X9_owns lkm_X9_150 ⟨rfl, rfl⟩ (ic_sum8 trivial (Nat.le_of_ble_eq_true rfl)) (by unfold ic_rm; decide +kernel) ⟨rfl, rfl, rfl⟩ ⟨Nat.le_of_ble_eq_true rfl, Nat.le_of_ble_eq_true rfl⟩ ?_
    refine iw_iload_n (i := 3) (pc' := 118) 2 rfl (by decide +kernel) ?_
    exact iw_ireturn (ic_q1 (Option.some.inj hf)) rfl (ic_q2 (Option.some.inj hf)) (by decide +kernel)
  exact iw_sub [0, 1, 2, 3, 4] rfl (lpX9_breaks_9_ok l κ sw r1 x2 hjq37 1000 (0 : Int32) v21 μ hf)
set_option maxRecDepth 100000 in
set_option maxHeartbeats 4000000 in
theorem ct_X9_columnOf (l : Launch) (κ : ic_K) (sw : Nat) (μ : ic_M) (x1 : Int32) {R : Int32} (hf : fX9_columnOf μ x1 = some R) : ic_C l κ MX9_columnOf [ic_rv κ.1 90, .int x1] 106 (ic_rs sw) μ (some (.int R)) 106 (ic_rs sw) μ := by
  refine ic_C.of (L := [(0, ic_rv κ.1 90), (1, .int x1)]) ⟨ic_cat _ _, rfl, trivial⟩ ⟨by decide +kernel, Nat.le_of_ble_eq_true rfl⟩ rfl ?_
  unfold fX9_columnOf at hf
  refine iw_aload_n (i := 0) (pc' := 1) 0 rfl (by decide +kernel) ?_
  refine iw_getr (pc' := 4) (q := 94) ic_fk9 cO_90 rfl lkf_X9_23 (by decide +kernel) ?_
  refine iw_iconst (i := 2) (v := (2 : Int32)) (pc' := 5) (by decide +kernel) ?_
  refine iw_iload_n (i := 1) (pc' := 6) 1 rfl (by decide +kernel) ?_
  refine iw_imul (pc' := 7) (by decide +kernel) ?_
  refine iw_iald (pc' := 8) hf (fun _ => cI_94) (by decide +kernel) (fun v21 hf => ?_)
  obtain ⟨q22, hf, hgq22⟩ := ic_bd hf
  have hjq22 : ic_W l κ MX9_columnOf ic_X0 (ic_Z κ MX9_columnOf (some (.int R)) 106 (ic_rs sw) μ) 23 [] [.int q22] 106 (ic_rs sw) μ 0 0 := by
    have hf := hgq22
    exact iw_ireturn (Option.some.inj hf) rfl rfl (by decide +kernel)
  refine iw_if_ne (off := 7) (tg := 15) (pc' := 11) hf (by decide +kernel) (fun hf => ?_) (fun hf => ?_)
  · refine iw_aload_n (i := 0) (pc' := 16) 0 rfl (by decide +kernel) ?_
    refine iw_getr (pc' := 19) (q := 92) ic_fk9 cO_90 rfl lkf_X9_17 (by decide +kernel) ?_
    refine iw_iconst (i := 0) (v := (0 : Int32)) (pc' := 20) (by decide +kernel) ?_
    refine iw_iald (pc' := 21) hf (fun _ => cI_92) (by decide +kernel) (fun v23 hf => ?_)
    refine iw_iconst (i := 1) (v := (1 : Int32)) (pc' := 22) (by decide +kernel) ?_
    refine iw_isub (pc' := 23) (by decide +kernel) ?_
    obtain rfl := Option.some.inj hf
    exact iw_sub [] rfl hjq22
  · refine iw_iconst (i := 0) (v := (0 : Int32)) (pc' := 12) (by decide +kernel) ?_
    refine iw_goto (off := 11) (pc' := 23) (by decide +kernel) ?_
    obtain rfl := Option.some.inj hf
    exact iw_sub [] rfl hjq22
set_option maxRecDepth 100000 in
set_option maxHeartbeats 4000000 in
theorem ct_X9_canGo (l : Launch) (κ : ic_K) (sw : Nat) (μ : ic_M) (r1 : Nat) (x2 : Int32) (x3 : Int32) {R : Int32} (hf : fX9_canGo μ r1 x2 x3 = some R) : ic_C l κ MX9_canGo [ic_rv κ.1 90, ic_rv κ.1 r1, .int x2, .int x3] 106 (ic_rs sw) μ (some (.int R)) 106 (ic_rs sw) μ := by
  refine ic_C.of (L := [(0, ic_rv κ.1 90), (1, ic_rv κ.1 r1), (2, .int x2), (3, .int x3)]) ⟨ic_cat _ _, ic_cat _ _, rfl, rfl, trivial⟩ ⟨by decide +kernel, Nat.le_of_ble_eq_true rfl⟩ rfl ?_
  unfold fX9_canGo at hf
  refine iw_aload_n (i := 1) (pc' := 1) 1 rfl (by decide +kernel) ?_
  refine iw_bipush (i := 18) (v := (18 : Int32)) (pc' := 3) (by decide +kernel) ?_
  refine iw_iload_n (i := 2) (pc' := 4) 2 rfl (by decide +kernel) ?_
  refine iw_iadd (pc' := 5) (by decide +kernel) ?_
  refine iw_iald (pc' := 6) hf (fun h => ic_il_is h) (by decide +kernel) (fun v21 hf => ?_)
  refine iw_istore0 (i := 4) (pc' := 8) (L' := [(0, ic_rv κ.1 90), (1, ic_rv κ.1 r1), (2, .int x2), (3, .int x3), (4, .int v21)]) rfl (by decide +kernel) ?_
  refine iw_iload (i := 4) (pc' := 10) 4 rfl (by decide +kernel) ?_
  refine iw_bipush (i := (-2)) (v := (-2 : Int32)) (pc' := 12) (by decide +kernel) ?_
  refine iw_icmp_ne (off := 5) (tg := 17) (pc' := 15) hf (by decide +kernel) (fun hf => ?_) (fun hf => ?_)
  · refine iw_iload_n (i := 3) (pc' := 18) 3 rfl (by decide +kernel) ?_
    refine iw_iconst (i := (-1)) (v := (-1 : Int32)) (pc' := 19) (by decide +kernel) ?_
    refine iw_icmp_ne (off := 31) (tg := 50) (pc' := 22) hf (by decide +kernel) (fun hf => ?_) (fun hf => ?_)
    · refine iw_aload_n (i := 1) (pc' := 51) 1 rfl (by decide +kernel) ?_
      refine iw_iload_n (i := 3) (pc' := 52) 3 rfl (by decide +kernel) ?_
      refine iw_iald (pc' := 53) hf (fun h => ic_il_is h) (by decide +kernel) (fun v22 hf => ?_)
      obtain ⟨q23, hf, hgq23⟩ := ic_bd hf
      have hjq23 : ic_W l κ MX9_canGo ic_X0 (ic_Z κ MX9_canGo (some (.int R)) 106 (ic_rs sw) μ) 96 [] [.int q23] 106 (ic_rs sw) μ 0 0 := by
        have hf := hgq23
        obtain ⟨hb, hf⟩ := ic_rz_of hf
        exact iw_zreturn hb (Option.some.inj hf) rfl rfl (by decide +kernel)
      refine iw_if_le (off := 42) (tg := 95) (pc' := 56) hf (by decide +kernel) (fun hf => ?_) (fun hf => ?_)
      · refine iw_iconst (i := 0) (v := (0 : Int32)) (pc' := 96) (by decide +kernel) ?_
        obtain rfl := Option.some.inj hf
        exact iw_sub [] rfl hjq23
      · refine iw_iload (i := 4) (pc' := 58) 4 rfl (by decide +kernel) ?_
        refine iw_iconst (i := (-1)) (v := (-1 : Int32)) (pc' := 59) (by decide +kernel) ?_
        refine iw_icmp_ne (off := 22) (tg := 81) (pc' := 62) hf (by decide +kernel) (fun hf => ?_) (fun hf => ?_)
        · refine iw_aload_n (i := 0) (pc' := 82) 0 rfl (by decide +kernel) ?_
          refine iw_iload (i := 4) (pc' := 84) 4 rfl (by decide +kernel) ?_
          refine iw_iload_n (i := 3) (pc' := 85) 3 rfl (by decide +kernel) ?_
          obtain ⟨v24, hc, hf⟩ := ic_bd hf
          refine iw_callV (pc' := 88) (S0 := []) (S1 := [.int v24]) (c1 := 0) (s1 := 0) (k := 2) (ct_X9_areNext l κ sw μ v21 x3 hc) cO_90 ⟨rfl, rfl⟩ mv_X9_areNext lkm_X9_132 ⟨rfl, rfl⟩ (ic_sum8 trivial (Nat.le_of_ble_eq_true rfl)) (by unfold ic_rm; decide +kernel) ⟨rfl, rfl, rfl⟩ ⟨Nat.le_of_ble_eq_true rfl, Nat.le_of_ble_eq_true rfl⟩ ?_
          refine iw_if_eq (off := 7) (tg := 95) (pc' := 91) hf (by decide +kernel) (fun hf => ?_) (fun hf => ?_)
          · refine iw_iconst (i := 0) (v := (0 : Int32)) (pc' := 96) (by decide +kernel) ?_
            obtain rfl := Option.some.inj hf
            exact iw_sub [] rfl hjq23
          · refine iw_iconst (i := 1) (v := (1 : Int32)) (pc' := 92) (by decide +kernel) ?_
            refine iw_goto (off := 4) (pc' := 96) (by decide +kernel) ?_
            obtain rfl := Option.some.inj hf
            exact iw_sub [] rfl hjq23
        · refine iw_iload_n (i := 3) (pc' := 63) 3 rfl (by decide +kernel) ?_
          refine iw_aload_n (i := 0) (pc' := 64) 0 rfl (by decide +kernel) ?_
          refine iw_getr (pc' := 67) (q := 92) ic_fk9 cO_90 rfl lkf_X9_17 (by decide +kernel) ?_
          refine iw_iconst (i := 0) (v := (0 : Int32)) (pc' := 68) (by decide +kernel) ?_
          refine iw_iald (pc' := 69) hf (fun _ => cI_92) (by decide +kernel) (fun v25 hf => ?_)
          refine iw_irem (pc' := 70) hf (by decide +kernel) (fun hf => ?_)
          refine iw_aload_n (i := 0) (pc' := 71) 0 rfl (by decide +kernel) ?_
          refine iw_iload_n (i := 2) (pc' := 72) 2 rfl (by decide +kernel) ?_
          obtain ⟨v26, hc, hf⟩ := ic_bd hf
          refine iw_callV (pc' := 75) (S0 := [.int (x3 - x3 / v25 * v25)]) (S1 := [.int v26, .int (x3 - x3 / v25 * v25)]) (c1 := 0) (s1 := 0) (k := 1) (ct_X9_columnOf l κ sw μ x2 hc) cO_90 ⟨rfl, rfl⟩ mv_X9_columnOf lkm_X9_154 ⟨rfl, rfl⟩ (ic_sum8 ⟨rfl, trivial⟩ (Nat.le_of_ble_eq_true rfl)) (by unfold ic_rm; decide +kernel) ⟨rfl, rfl, rfl⟩ ⟨Nat.le_of_ble_eq_true rfl, Nat.le_of_ble_eq_true rfl⟩ ?_
          refine iw_icmp_ne (off := 20) (tg := 95) (pc' := 78) hf (by decide +kernel) (fun hf => ?_) (fun hf => ?_)
          · refine iw_iconst (i := 0) (v := (0 : Int32)) (pc' := 96) (by decide +kernel) ?_
            obtain rfl := Option.some.inj hf
            exact iw_sub [] rfl hjq23
          · refine iw_goto (off := 13) (pc' := 91) (by decide +kernel) ?_
            refine iw_iconst (i := 1) (v := (1 : Int32)) (pc' := 92) (by decide +kernel) ?_
            refine iw_goto (off := 4) (pc' := 96) (by decide +kernel) ?_
            obtain rfl := Option.some.inj hf
            exact iw_sub [] rfl hjq23
    · refine iw_iload (i := 4) (pc' := 24) 4 rfl (by decide +kernel) ?_
      obtain ⟨q27, hf, hgq27⟩ := ic_bd hf
      have hjq27 : ic_W l κ MX9_canGo ic_X0 (ic_Z κ MX9_canGo (some (.int R)) 106 (ic_rs sw) μ) 49 [] [.int q27] 106 (ic_rs sw) μ 0 0 := by
        have hf := hgq27
        obtain ⟨hb, hf⟩ := ic_rz_of hf
        exact iw_zreturn hb (Option.some.inj hf) rfl rfl (by decide +kernel)
      refine iw_if_lt (off := 24) (tg := 48) (pc' := 27) hf (by decide +kernel) (fun hf => ?_) (fun hf => ?_)
      · refine iw_iconst (i := 0) (v := (0 : Int32)) (pc' := 49) (by decide +kernel) ?_
        obtain rfl := Option.some.inj hf
        exact iw_sub [] rfl hjq27
      · refine iw_iload (i := 4) (pc' := 29) 4 rfl (by decide +kernel) ?_
        refine iw_aload_n (i := 0) (pc' := 30) 0 rfl (by decide +kernel) ?_
        refine iw_getr (pc' := 33) (q := 92) ic_fk9 cO_90 rfl lkf_X9_17 (by decide +kernel) ?_
        refine iw_iconst (i := 0) (v := (0 : Int32)) (pc' := 34) (by decide +kernel) ?_
        refine iw_iald (pc' := 35) hf (fun _ => cI_92) (by decide +kernel) (fun v28 hf => ?_)
        refine iw_irem (pc' := 36) hf (by decide +kernel) (fun hf => ?_)
        refine iw_aload_n (i := 0) (pc' := 37) 0 rfl (by decide +kernel) ?_
        refine iw_iload_n (i := 2) (pc' := 38) 2 rfl (by decide +kernel) ?_
        obtain ⟨v29, hc, hf⟩ := ic_bd hf
        refine iw_callV (pc' := 41) (S0 := [.int (v21 - v21 / v28 * v28)]) (S1 := [.int v29, .int (v21 - v21 / v28 * v28)]) (c1 := 0) (s1 := 0) (k := 1) (ct_X9_columnOf l κ sw μ x2 hc) cO_90 ⟨rfl, rfl⟩ mv_X9_columnOf lkm_X9_154 ⟨rfl, rfl⟩ (ic_sum8 ⟨rfl, trivial⟩ (Nat.le_of_ble_eq_true rfl)) (by unfold ic_rm; decide +kernel) ⟨rfl, rfl, rfl⟩ ⟨Nat.le_of_ble_eq_true rfl, Nat.le_of_ble_eq_true rfl⟩ ?_
        refine iw_icmp_ne (off := 7) (tg := 48) (pc' := 44) hf (by decide +kernel) (fun hf => ?_) (fun hf => ?_)
        · refine iw_iconst (i := 0) (v := (0 : Int32)) (pc' := 49) (by decide +kernel) ?_
          obtain rfl := Option.some.inj hf
          exact iw_sub [] rfl hjq27
        · refine iw_iconst (i := 1) (v := (1 : Int32)) (pc' := 45) (by decide +kernel) ?_
          refine iw_goto (off := 4) (pc' := 49) (by decide +kernel) ?_
          obtain rfl := Option.some.inj hf
          exact iw_sub [] rfl hjq27
  · refine iw_iconst (i := 0) (v := (0 : Int32)) (pc' := 16) (by decide +kernel) ?_
    obtain ⟨hb, hf⟩ := ic_rz_of hf
    exact iw_zreturn hb (Option.some.inj hf) rfl rfl (by decide +kernel)
set_option maxRecDepth 100000 in
set_option maxHeartbeats 4000000 in
theorem ct_X9_steps (l : Launch) (κ : ic_K) (sw : Nat) (μ : ic_M) (r1 : Nat) (x2 : Int32) (x3 : Int32) {R : Int32 × ic_M} (hf : fX9_steps μ r1 x2 x3 = some R) : ic_C l κ MX9_steps [ic_rv κ.1 90, ic_rv κ.1 r1, .int x2, .int x3] 106 (ic_rs sw) μ (some (.int R.1)) 106 (ic_rs sw) R.2 := by
  refine ic_C.of (L := [(0, ic_rv κ.1 90), (1, ic_rv κ.1 r1), (2, .int x2), (3, .int x3)]) ⟨ic_cat _ _, ic_cat _ _, rfl, rfl, trivial⟩ ⟨by decide +kernel, Nat.le_of_ble_eq_true rfl⟩ rfl ?_
  unfold fX9_steps at hf
  refine iw_aload_n (i := 1) (pc' := 1) 1 rfl (by decide +kernel) ?_
  refine iw_bipush (i := 18) (v := (18 : Int32)) (pc' := 3) (by decide +kernel) ?_
  refine iw_iload_n (i := 2) (pc' := 4) 2 rfl (by decide +kernel) ?_
  refine iw_iadd (pc' := 5) (by decide +kernel) ?_
  refine iw_iload_n (i := 3) (pc' := 6) 3 rfl (by decide +kernel) ?_
  refine iw_iast (pc' := 7) hf (fun h => ic_il_is h) (by decide +kernel) (fun m21 hf => ?_)
  refine iw_aload_n (i := 0) (pc' := 8) 0 rfl (by decide +kernel) ?_
  refine iw_aload_n (i := 1) (pc' := 9) 1 rfl (by decide +kernel) ?_
  refine iw_aload_n (i := 0) (pc' := 10) 0 rfl (by decide +kernel) ?_
  refine iw_getr (pc' := 13) (q := 94) ic_fk9 cO_90 rfl lkf_X9_23 (by decide +kernel) ?_
  refine iw_iconst (i := 2) (v := (2 : Int32)) (pc' := 14) (by decide +kernel) ?_
  refine iw_iload_n (i := 2) (pc' := 15) 2 rfl (by decide +kernel) ?_
  refine iw_imul (pc' := 16) (by decide +kernel) ?_
  refine iw_iald (pc' := 17) hf (fun _ => cI_94) (by decide +kernel) (fun v22 hf => ?_)
  obtain ⟨q23, hc, hf⟩ := ic_bd hf
  refine iw_callV (pc' := 20) (S0 := []) (S1 := [.int q23.1]) (c1 := 0) (s1 := 0) (k := 2) (ct_X9_breaks l κ sw m21 r1 v22 hc) cO_90 ⟨rfl, rfl⟩ mv_X9_breaks lkm_X9_158 ⟨rfl, rfl⟩ (ic_sum8 trivial (Nat.le_of_ble_eq_true rfl)) (by unfold ic_rm; decide +kernel) ⟨rfl, rfl, rfl⟩ ⟨Nat.le_of_ble_eq_true rfl, Nat.le_of_ble_eq_true rfl⟩ ?_
  exact iw_ireturn (ic_q1 (Option.some.inj hf)) rfl (ic_q2 (Option.some.inj hf)) (by decide +kernel)
set_option maxRecDepth 100000 in
set_option maxHeartbeats 4000000 in
theorem ct_X9_coldOf (l : Launch) (κ : ic_K) (sw : Nat) (μ : ic_M) (x1 : Int32) {R : Int32} (hf : fX9_coldOf μ x1 = some R) : ic_C l κ MX9_coldOf [ic_rv κ.1 90, .int x1] 106 (ic_rs sw) μ (some (.int R)) 106 (ic_rs sw) μ := by
  refine ic_C.of (L := [(0, ic_rv κ.1 90), (1, .int x1)]) ⟨ic_cat _ _, rfl, trivial⟩ ⟨by decide +kernel, Nat.le_of_ble_eq_true rfl⟩ rfl ?_
  unfold fX9_coldOf at hf
  refine iw_aload_n (i := 0) (pc' := 1) 0 rfl (by decide +kernel) ?_
  refine iw_getr (pc' := 4) (q := 93) ic_fk9 cO_90 rfl lkf_X9_20 (by decide +kernel) ?_
  refine iw_bipush (i := 24) (v := (24 : Int32)) (pc' := 6) (by decide +kernel) ?_
  refine iw_iload_n (i := 1) (pc' := 7) 1 rfl (by decide +kernel) ?_
  refine iw_aload_n (i := 0) (pc' := 8) 0 rfl (by decide +kernel) ?_
  refine iw_getr (pc' := 11) (q := 92) ic_fk9 cO_90 rfl lkf_X9_17 (by decide +kernel) ?_
  refine iw_bipush (i := 6) (v := (6 : Int32)) (pc' := 13) (by decide +kernel) ?_
  refine iw_iald (pc' := 14) hf (fun _ => cI_92) (by decide +kernel) (fun v21 hf => ?_)
  refine iw_irem (pc' := 15) hf (by decide +kernel) (fun hf => ?_)
  refine iw_iadd (pc' := 16) (by decide +kernel) ?_
  refine iw_iald (pc' := 17) hf (fun _ => cI_93) (by decide +kernel) (fun v22 hf => ?_)
  refine iw_bipush (i := 10) (v := (10 : Int32)) (pc' := 19) (by decide +kernel) ?_
  refine iw_isub (pc' := 20) (by decide +kernel) ?_
  exact iw_ireturn (Option.some.inj hf) rfl rfl (by decide +kernel)
set_option maxRecDepth 100000 in
set_option maxHeartbeats 4000000 in
theorem ct_X9_currentOf (l : Launch) (κ : ic_K) (sw : Nat) (μ : ic_M) (x1 : Int32) {R : Int32} (hf : fX9_currentOf μ x1 = some R) : ic_C l κ MX9_currentOf [ic_rv κ.1 90, .int x1] 106 (ic_rs sw) μ (some (.int R)) 106 (ic_rs sw) μ := by
  refine ic_C.of (L := [(0, ic_rv κ.1 90), (1, .int x1)]) ⟨ic_cat _ _, rfl, trivial⟩ ⟨by decide +kernel, Nat.le_of_ble_eq_true rfl⟩ rfl ?_
  unfold fX9_currentOf at hf
  refine iw_aload_n (i := 0) (pc' := 1) 0 rfl (by decide +kernel) ?_
  refine iw_getr (pc' := 4) (q := 93) ic_fk9 cO_90 rfl lkf_X9_20 (by decide +kernel) ?_
  refine iw_bipush (i := 18) (v := (18 : Int32)) (pc' := 6) (by decide +kernel) ?_
  refine iw_iload_n (i := 1) (pc' := 7) 1 rfl (by decide +kernel) ?_
  refine iw_aload_n (i := 0) (pc' := 8) 0 rfl (by decide +kernel) ?_
  refine iw_getr (pc' := 11) (q := 92) ic_fk9 cO_90 rfl lkf_X9_17 (by decide +kernel) ?_
  refine iw_iconst (i := 0) (v := (0 : Int32)) (pc' := 12) (by decide +kernel) ?_
  refine iw_iald (pc' := 13) hf (fun _ => cI_92) (by decide +kernel) (fun v21 hf => ?_)
  refine iw_irem (pc' := 14) hf (by decide +kernel) (fun hf => ?_)
  refine iw_aload_n (i := 0) (pc' := 15) 0 rfl (by decide +kernel) ?_
  refine iw_getr (pc' := 18) (q := 92) ic_fk9 cO_90 rfl lkf_X9_17 (by decide +kernel) ?_
  refine iw_iconst (i := 5) (v := (5 : Int32)) (pc' := 19) (by decide +kernel) ?_
  refine iw_iald (pc' := 20) hf (fun _ => cI_92) (by decide +kernel) (fun v22 hf => ?_)
  refine iw_irem (pc' := 21) hf (by decide +kernel) (fun hf => ?_)
  refine iw_iadd (pc' := 22) (by decide +kernel) ?_
  refine iw_iald (pc' := 23) hf (fun _ => cI_93) (by decide +kernel) (fun v23 hf => ?_)
  exact iw_ireturn (Option.some.inj hf) rfl rfl (by decide +kernel)
