def MX9_passes : ic_Md := (yX9_passes, cX9_passes, 6, none, { frames := 4, cells := 0, slots := 0, locals := 99 })
theorem mv_X9_passes : ic_MV MX9_passes := ⟨ic_in 1122 (by decide +kernel), ic_in 54 (by decide +kernel), ic_in 79 (by decide +kernel), ic_in 1123 (by decide +kernel), by decide +kernel, by decide +kernel⟩
def MX9_holes : ic_Md := (yX9_holes, cX9_holes, 3, (some .int), { frames := 1, cells := 0, slots := 0, locals := 20 })
theorem mv_X9_holes : ic_MV MX9_holes := ⟨ic_in 1040 (by decide +kernel), ic_in 38 (by decide +kernel), ic_in 79 (by decide +kernel), ic_in 1041 (by decide +kernel), by decide +kernel, by decide +kernel⟩
def MX9_knock : ic_Md := (yX9_knock, cX9_knock, 3, (some .int), { frames := 3, cells := 0, slots := 0, locals := 73 })
theorem mv_X9_knock : ic_MV MX9_knock := ⟨ic_in 1044 (by decide +kernel), ic_in 39 (by decide +kernel), ic_in 79 (by decide +kernel), ic_in 1045 (by decide +kernel), by decide +kernel, by decide +kernel⟩
def MX9_spare : ic_Md := (yX9_spare, cX9_spare, 2, (some .int), { frames := 2, cells := 0, slots := 0, locals := 50 })
theorem mv_X9_spare : ic_MV MX9_spare := ⟨ic_in 1072 (by decide +kernel), ic_in 46 (by decide +kernel), ic_in 79 (by decide +kernel), ic_in 1073 (by decide +kernel), by decide +kernel, by decide +kernel⟩
def MX9_first : ic_Md := (yX9_first, cX9_first, 3, (some .int), { frames := 3, cells := 0, slots := 0, locals := 71 })
theorem mv_X9_first : ic_MV MX9_first := ⟨ic_in 1068 (by decide +kernel), ic_in 45 (by decide +kernel), ic_in 79 (by decide +kernel), ic_in 1069 (by decide +kernel), by decide +kernel, by decide +kernel⟩
def MX9_told : ic_Md := (yX9_told, cX9_told, 2, (some .int), { frames := 4, cells := 0, slots := 0, locals := 95 })
theorem mv_X9_told : ic_MV MX9_told := ⟨ic_in 1035 (by decide +kernel), ic_in 1036 (by decide +kernel), ic_in 79 (by decide +kernel), ic_in 1037 (by decide +kernel), by decide +kernel, by decide +kernel⟩
def MX9_cell : ic_Md := (yX9_cell, cX9_cell, 3, (some .int), { frames := 3, cells := 0, slots := 0, locals := 71 })
theorem mv_X9_cell : ic_MV MX9_cell := ⟨ic_in 1075 (by decide +kernel), ic_in 1076 (by decide +kernel), ic_in 79 (by decide +kernel), ic_in 1077 (by decide +kernel), by decide +kernel, by decide +kernel⟩
def MX9_person : ic_Md := (yX9_person, cX9_person, 3, (some .int), { frames := 2, cells := 0, slots := 0, locals := 43 })
theorem mv_X9_person : ic_MV MX9_person := ⟨ic_in 1088 (by decide +kernel), ic_in 1089 (by decide +kernel), ic_in 79 (by decide +kernel), ic_in 1090 (by decide +kernel), by decide +kernel, by decide +kernel⟩
def MX9_cold : ic_Md := (yX9_cold, cX9_cold, 2, (some .int), { frames := 1, cells := 0, slots := 0, locals := 22 })
theorem mv_X9_cold : ic_MV MX9_cold := ⟨ic_in 1096 (by decide +kernel), ic_in 1097 (by decide +kernel), ic_in 79 (by decide +kernel), ic_in 1098 (by decide +kernel), by decide +kernel, by decide +kernel⟩
def MX9_notes : ic_Md := (yX9_notes, cX9_notes, 2, none, { frames := 1, cells := 0, slots := 0, locals := 25 })
theorem mv_X9_notes : ic_MV MX9_notes := ⟨ic_in 1118 (by decide +kernel), ic_in 53 (by decide +kernel), ic_in 79 (by decide +kernel), ic_in 1119 (by decide +kernel), by decide +kernel, by decide +kernel⟩
def MX9_barred : ic_Md := (yX9_barred, cX9_barred, 2, (some .int), { frames := 1, cells := 0, slots := 0, locals := 22 })
theorem mv_X9_barred : ic_MV MX9_barred := ⟨ic_in 1114 (by decide +kernel), ic_in 52 (by decide +kernel), ic_in 79 (by decide +kernel), ic_in 1115 (by decide +kernel), by decide +kernel, by decide +kernel⟩
def MX9_night : ic_Md := (yX9_night, cX9_night, 4, (some .int), { frames := 5, cells := 0, slots := 0, locals := 124 })
theorem mv_X9_night : ic_MV MX9_night := ⟨ic_in 1109 (by decide +kernel), ic_in 1110 (by decide +kernel), ic_in 79 (by decide +kernel), ic_in 1111 (by decide +kernel), by decide +kernel, by decide +kernel⟩
def MX9_step : ic_Md := (yX9_step, cX9_step, 3, (some .int), { frames := 5, cells := 0, slots := 0, locals := 122 })
theorem mv_X9_step : ic_MV MX9_step := ⟨ic_in 1143 (by decide +kernel), ic_in 1144 (by decide +kernel), ic_in 79 (by decide +kernel), ic_in 1145 (by decide +kernel), by decide +kernel, by decide +kernel⟩
def MX9_salt : ic_Md := (yX9_salt, cX9_salt, 5, (some .int), { frames := 4, cells := 0, slots := 0, locals := 99 })
theorem mv_X9_salt : ic_MV MX9_salt := ⟨ic_in 1159 (by decide +kernel), ic_in 1160 (by decide +kernel), ic_in 79 (by decide +kernel), ic_in 1161 (by decide +kernel), by decide +kernel, by decide +kernel⟩
def MX9_snow : ic_Md := (yX9_snow, cX9_snow, 4, (some .int), { frames := 2, cells := 0, slots := 0, locals := 46 })
theorem mv_X9_snow : ic_MV MX9_snow := ⟨ic_in 1163 (by decide +kernel), ic_in 1164 (by decide +kernel), ic_in 79 (by decide +kernel), ic_in 1165 (by decide +kernel), by decide +kernel, by decide +kernel⟩
def MX9_spring : ic_Md := (yX9_spring, cX9_spring, 3, (some .int), { frames := 2, cells := 0, slots := 0, locals := 46 })
theorem mv_X9_spring : ic_MV MX9_spring := ⟨ic_in 1167 (by decide +kernel), ic_in 1168 (by decide +kernel), ic_in 79 (by decide +kernel), ic_in 1169 (by decide +kernel), by decide +kernel, by decide +kernel⟩
theorem lkm_X9_164 : Cond.methodLink RX9 164 yX9_currentOf ∈ ic_tb := ic_in 1083 (by decide +kernel)
theorem lkm_X9_167 : Cond.methodLink RX9 167 yX9_drowns ∈ ic_tb := ic_in 1138 (by decide +kernel)
theorem lkm_X9_161 : Cond.methodLink RX9 161 yX9_coldOf ∈ ic_tb := ic_in 1103 (by decide +kernel)
theorem lkm_X9_171 : Cond.methodLink RX9 171 yX9_cracks ∈ ic_tb := ic_in 1046 (by decide +kernel)
theorem lkm_X9_175 : Cond.methodLink RX9 175 yX9_spare ∈ ic_tb := ic_in 1070 (by decide +kernel)
theorem lkm_X9_178 : Cond.methodLink RX9 178 yX9_holes ∈ ic_tb := ic_in 1038 (by decide +kernel)
theorem lkm_X9_181 : Cond.methodLink RX9 181 yX9_knock ∈ ic_tb := ic_in 1042 (by decide +kernel)
theorem lkm_X9_184 : Cond.methodLink RX9 184 yX9_onCell ∈ ic_tb := ic_in 1062 (by decide +kernel)
theorem lkm_X9_187 : Cond.methodLink RX9 187 yX9_first ∈ ic_tb := ic_in 1066 (by decide +kernel)
theorem lkc_X9_194 : Cond.constant RX9 194 (-1000000001 : Int32) ∈ ic_tb := ic_in 1082 (by decide +kernel)
theorem lkm_X9_190 : Cond.methodLink RX9 190 yX9_isCell ∈ ic_tb := ic_in 1078 (by decide +kernel)
theorem lkm_X9_195 : Cond.methodLink RX9 195 yX9_isPerson ∈ ic_tb := ic_in 1091 (by decide +kernel)
theorem lkc_X9_202 : Cond.constant RX9 202 (-1000000003 : Int32) ∈ ic_tb := ic_in 1107 (by decide +kernel)
theorem lkm_X9_198 : Cond.methodLink RX9 198 yX9_isRiver ∈ ic_tb := ic_in 1099 (by decide +kernel)
theorem lkf_X9_41 : Cond.fieldLink RX9 41 RX9 (TX9 11).2.1 (TX9 11).2.2.1 ∈ ic_tb := ic_in 904 (by decide +kernel)
theorem lkm_X9_209 : Cond.methodLink RX9 209 yX9_passes ∈ ic_tb := ic_in 1120 (by decide +kernel)
theorem lkm_X9_206 : Cond.methodLink RX9 206 yX9_notes ∈ ic_tb := ic_in 1116 (by decide +kernel)
theorem lkm_X9_203 : Cond.methodLink RX9 203 yX9_barred ∈ ic_tb := ic_in 1112 (by decide +kernel)
theorem lkm_X9_216 : Cond.methodLink RX9 216 yX9_steps ∈ ic_tb := ic_in 1154 (by decide +kernel)
theorem lkm_X9_212 : Cond.methodLink RX9 212 yX9_canGo ∈ ic_tb := ic_in 1146 (by decide +kernel)
def lpX9_passes_11 (r1_ : Nat) (x2_ : Int32) : Nat → Int32 → ic_M → Option (ic_M)
  | 0, _, _ => none
  | fu + 1, y3_, μ => Option.bind (fX9_cells μ) (fun v23 => (if v23 ≤ y3_ then some μ else Option.bind (fX9_currentOf μ y3_) (fun v24 => ic_lt ((x2_ - v24)) (fun x25 => Option.bind (if x2_ ≤ 0 then some x25 else (if 0 ≤ x25 then some x25 else some (0 : Int32))) (fun q26 => Option.bind (if x2_ ≤ 0 then some q26 else ic_ag μ r1_ (ic_il 106 r1_) (24 : Int32) (fun v28 => Option.bind (fX9_has μ v28 y3_) (fun v29 => (if v29 = 0 then some q26 else (if (2 : Int32) = 0 then none else some (q26 / (2 : Int32))))))) (fun q27 => ic_ag μ r1_ (ic_il 106 r1_) y3_ (fun v30 => ic_lt ((v30 + q27)) (fun x31 => Option.bind (if 0 ≤ x31 then (if x31 ≤ (60 : Int32) then some x31 else some (60 : Int32)) else some (0 : Int32)) (fun q32 => ic_as μ r1_ (ic_il 106 r1_) y3_ q32 (fun m33 => ic_lt (y3_ + (1 : Int32)) (fun x34 => lpX9_passes_11 r1_ x2_ fu x34 m33)))))))))))
def fX9_passes (μ : ic_M) (r1 : Nat) : Option (ic_M) := ic_ag μ r1 (ic_il 106 r1) (26 : Int32) (fun v21 => Option.bind (fX9_coldOf μ v21) (fun v22 => Option.bind (lpX9_passes_11 r1 v22 1000 (0 : Int32) μ) (fun q35 => Option.bind (if v22 ≤ 0 then some (0 : Int32) else ic_ag q35 r1 (ic_il 106 r1) (24 : Int32) (fun v37 => some v37)) (fun q36 => ic_as q35 r1 (ic_il 106 r1) (24 : Int32) q36 (fun m38 => Option.bind (fX9_breaks m38 r1 (-1 : Int32)) (fun q39 => Option.bind (fX9_drowns q39.2 r1) (fun m40 => ic_ag m40 r1 (ic_il 106 r1) (26 : Int32) (fun v41 => ic_as m40 r1 (ic_il 106 r1) (26 : Int32) (v41 + (1 : Int32)) (fun m42 => some m42)))))))))
def lpX9_holes_4 (μ : ic_M) : Nat → Int32 → Int32 → Option (Int32)
  | 0, _, _ => none
  | fu + 1, y1_, y2_ => Option.bind (fX9_cells μ) (fun v21 => (if v21 ≤ y2_ then some y1_ else ic_ag μ 98 28 y2_ (fun v22 => Option.bind (if v22 = 0 then some ((1 : Int32) <<< (y2_ &&& 31)) else some (0 : Int32)) (fun q23 => ic_lt ((y1_ ||| q23)) (fun x24 => ic_lt (y2_ + (1 : Int32)) (fun x25 => lpX9_holes_4 μ fu x24 x25))))))
def fX9_holes (μ : ic_M) : Option (Int32) := Option.bind (lpX9_holes_4 μ 1000 (0 : Int32) (0 : Int32)) (fun q26 => some q26)
def lpX9_knock_4 (μ : ic_M) : Nat → Int32 → Int32 → Option (Int32)
  | 0, _, _ => none
  | fu + 1, y1_, y2_ => Option.bind (fX9_cells μ) (fun v21 => (if v21 ≤ y2_ then some y1_ else Option.bind (fX9_cracks μ 98 y2_) (fun v22 => Option.bind (if v22 = 0 then some (0 : Int32) else some ((1 : Int32) <<< (y2_ &&& 31))) (fun q23 => ic_lt ((y1_ ||| q23)) (fun x24 => ic_lt (y2_ + (1 : Int32)) (fun x25 => lpX9_knock_4 μ fu x24 x25))))))
def fX9_knock (μ : ic_M) : Option (Int32) := Option.bind (lpX9_knock_4 μ 1000 (0 : Int32) (0 : Int32)) (fun q26 => some q26)
def fX9_spare (μ : ic_M) (x1 : Int32) : Option (Int32) := Option.bind (fX9_bearsOf μ 98 x1) (fun v21 => Option.bind (fX9_loadOf μ 98 x1) (fun v22 => some (v21 - v22)))
def lpX9_first_4 (μ : ic_M) : Nat → Int32 → Int32 → Option (Int32)
  | 0, _, _ => none
  | fu + 1, y1_, y2_ => Option.bind (fX9_cells μ) (fun v21 => (if v21 ≤ y2_ then some y1_ else ic_ag μ 98 28 y2_ (fun v22 => Option.bind (if v22 ≤ 0 then some y1_ else (if y1_ = (-1 : Int32) then some y2_ else Option.bind (fX9_spare μ y2_) (fun v24 => Option.bind (fX9_spare μ y1_) (fun v25 => (if v25 ≤ v24 then some y1_ else some y2_))))) (fun q23 => ic_lt (y2_ + (1 : Int32)) (fun x26 => lpX9_first_4 μ fu q23 x26)))))
def fX9_first (μ : ic_M) : Option (Int32) := Option.bind (lpX9_first_4 μ 1000 (-1 : Int32) (0 : Int32)) (fun q27 => some q27)
def fX9_told (μ : ic_M) (x1 : Int32) : Option (Int32) := (if x1 = (0 : Int32) then ic_ag μ 92 7 (0 : Int32) (fun v21 => some v21) else (if x1 = (1 : Int32) then ic_ag μ 92 7 (1 : Int32) (fun v22 => some v22) else (if x1 = (2 : Int32) then ic_ag μ 92 7 (2 : Int32) (fun v23 => some v23) else (if x1 = (3 : Int32) then ic_ag μ 92 7 (3 : Int32) (fun v24 => some v24) else (if x1 = (4 : Int32) then some (μ 90 1) else (if x1 = (5 : Int32) then ic_ag μ 98 28 (26 : Int32) (fun v25 => some v25) else (if x1 = (6 : Int32) then ic_ag μ 98 28 (25 : Int32) (fun v26 => some v26) else (if x1 = (7 : Int32) then Option.bind (fX9_holes μ) (fun v27 => some v27) else (if x1 = (8 : Int32) then ic_ag μ 98 28 (24 : Int32) (fun v28 => some v28) else (if x1 = (9 : Int32) then Option.bind (fX9_knock μ) (fun v29 => some v29) else (if x1 = (10 : Int32) then Option.bind (fX9_onCell μ 98 (-2 : Int32)) (fun v30 => some v30) else (if x1 = (11 : Int32) then ic_ag μ 98 28 (27 : Int32) (fun v31 => some v31) else (if x1 = (12 : Int32) then Option.bind (fX9_first μ) (fun v32 => some v32) else (if x1 = (13 : Int32) then some (μ 90 18) else (if x1 = (14 : Int32) then some (μ 90 20) else (if x1 = (15 : Int32) then some (μ 90 12) else some (-1000000002 : Int32)))))))))))))))))
def fX9_cell (μ : ic_M) (x1 : Int32) (x2 : Int32) : Option (Int32) := Option.bind (fX9_isCell μ x1) (fun v21 => (if v21 = 0 then some (-1000000001 : Int32) else (if x2 = (0 : Int32) then ic_ag μ 98 28 x1 (fun v22 => some v22) else (if x2 = (1 : Int32) then Option.bind (fX9_bearsOf μ 98 x1) (fun v23 => some v23) else (if x2 = (2 : Int32) then Option.bind (fX9_loadOf μ 98 x1) (fun v24 => some v24) else (if x2 = (3 : Int32) then Option.bind (fX9_onCell μ 98 x1) (fun v25 => some v25) else (if x2 = (4 : Int32) then Option.bind (fX9_currentOf μ x1) (fun v26 => some v26) else (if x2 = (5 : Int32) then Option.bind (fX9_spare μ x1) (fun v27 => some (v27 + (10000 : Int32))) else some (-1000000002 : Int32)))))))))
def fX9_person (μ : ic_M) (x1 : Int32) (x2 : Int32) : Option (Int32) := Option.bind (fX9_isPerson μ x1) (fun v21 => (if v21 = 0 then some (-1000000001 : Int32) else Option.bind (fX9_in μ x2 (0 : Int32) (2 : Int32)) (fun v22 => Option.bind (if v22 = 0 then some (-1000000002 : Int32) else (if (2 : Int32) ≤ x2 then ic_ag μ 98 28 ((18 : Int32) + x1) (fun v24 => some v24) else ic_ag μ 94 12 (((2 : Int32) * x1) + x2) (fun v25 => some v25))) (fun q23 => some q23))))
def fX9_cold (μ : ic_M) (x1 : Int32) : Option (Int32) := Option.bind (fX9_in μ x1 (0 : Int32) (9999 : Int32)) (fun v21 => Option.bind (if v21 = 0 then some (-1000000002 : Int32) else Option.bind (fX9_isRiver μ) (fun v23 => (if v23 = 0 then some (-1000000003 : Int32) else Option.bind (fX9_coldOf μ x1) (fun v24 => some (v24 + (10 : Int32)))))) (fun q22 => some q22))
def lpX9_notes_11  : Nat → Int32 → ic_M → Option (ic_M)
  | 0, _, _ => none
  | fu + 1, y1_, μ => (if (420 : Int32) ≤ y1_ then some μ else ic_ag μ 100 448 (y1_ + (28 : Int32)) (fun v22 => ic_as μ 100 448 y1_ v22 (fun m23 => ic_lt (y1_ + (1 : Int32)) (fun x24 => lpX9_notes_11  fu x24 m23))))
def fX9_notes (μ : ic_M) : Option (ic_M) := Option.bind (if (μ 90 12) = (16 : Int32) then Option.bind (lpX9_notes_11  1000 (0 : Int32) μ) (fun q25 => ic_pu q25 90 12 ((q25 90 12) - (1 : Int32)) (fun m26 => some m26)) else some μ) (fun q21 => Option.bind (fX9_copies q21 98 (0 : Int32) 100 ((28 : Int32) * (q21 90 12)) (28 : Int32)) (fun m27 => ic_pu m27 90 12 ((m27 90 12) + (1 : Int32)) (fun m28 => some m28)))
def fX9_barred (μ : ic_M) (x1 : Int32) : Option (Int32) := Option.bind (fX9_in μ x1 (1 : Int32) (60 : Int32)) (fun v21 => Option.bind (if v21 = 0 then some (-1000000002 : Int32) else Option.bind (fX9_isRiver μ) (fun v23 => (if v23 = 0 then some (-1000000003 : Int32) else ic_ag μ 98 28 (26 : Int32) (fun v24 => (if v24 ≤ (9000 : Int32) then some (0 : Int32) else some (-1000000004 : Int32)))))) (fun q22 => some q22))
def lpX9_night_18 (x1_ : Int32) : Nat → Int32 → ic_M → Option (ic_M)
  | 0, _, _ => none
  | fu + 1, y3_, μ => (if x1_ ≤ y3_ then some μ else Option.bind (fX9_passes μ 98) (fun m23 => ic_lt (y3_ + (1 : Int32)) (fun x24 => lpX9_night_18 x1_ fu x24 m23)))
def fX9_night (μ : ic_M) (x1 : Int32) : Option (Int32 × ic_M) := Option.bind (fX9_barred μ x1) (fun v21 => (if v21 = 0 then Option.bind (fX9_notes μ) (fun m22 => Option.bind (lpX9_night_18 x1 1000 (0 : Int32) m22) (fun q25 => ic_ag q25 98 28 (26 : Int32) (fun v26 => some (v26, q25)))) else some (v21, μ)))
def fX9_step (μ : ic_M) (x1 : Int32) (x2 : Int32) : Option (Int32 × ic_M) := Option.bind (fX9_isPerson μ x1) (fun v21 => (if v21 = 0 then some ((-1000000001 : Int32), μ) else (if x2 = (-1 : Int32) then Option.bind (fX9_canGo μ 98 x1 x2) (fun v22 => (if v22 = 0 then some ((-1000000003 : Int32), μ) else Option.bind (fX9_notes μ) (fun m23 => Option.bind (fX9_steps m23 98 x1 x2) (fun q24 => some (q24.1, q24.2))))) else Option.bind (fX9_isCell μ x2) (fun v25 => (if v25 = 0 then some ((-1000000001 : Int32), μ) else Option.bind (fX9_canGo μ 98 x1 x2) (fun v26 => (if v26 = 0 then some ((-1000000003 : Int32), μ) else Option.bind (fX9_notes μ) (fun m27 => Option.bind (fX9_steps m27 98 x1 x2) (fun q28 => some (q28.1, q28.2))))))))))
def fX9_salt (μ : ic_M) (x1 : Int32) (x2 : Int32) (x3 : Int32) : Option (Int32 × ic_M) := Option.bind (fX9_isCell μ x2) (fun v21 => (if v21 = 0 then some ((-1000000001 : Int32), μ) else Option.bind (fX9_in μ x1 (0 : Int32) (1 : Int32)) (fun v22 => (if v22 = 0 then some ((-1000000002 : Int32), μ) else Option.bind (fX9_in μ x3 (1 : Int32) (60 : Int32)) (fun v23 => (if v23 = 0 then some ((-1000000002 : Int32), μ) else ic_ag μ 98 28 x2 (fun v24 => (if v24 = 0 then some ((-1000000003 : Int32), μ) else Option.bind (fX9_notes μ) (fun m25 => ic_ag m25 98 28 x2 (fun v26 => Option.bind (if x3 ≤ v26 then ic_ag m25 98 28 x2 (fun v28 => some (v28 - x3)) else some (0 : Int32)) (fun q27 => ic_as m25 98 28 x2 q27 (fun m29 => ic_ag m29 98 28 x2 (fun v30 => Option.bind (if v30 = 0 then some (1 : Int32) else some (0 : Int32)) (fun q31 => Option.bind (fX9_owns m29 98 x1 q31) (fun m32 => Option.bind (fX9_drowns m32 98) (fun m33 => Option.bind (fX9_breaks m33 98 x1) (fun q34 => some ((q31 + q34.1), q34.2))))))))))))))))))
def fX9_snow (μ : ic_M) (x1 : Int32) (x2 : Int32) : Option (Int32 × ic_M) := Option.bind (fX9_isCell μ x1) (fun v21 => (if v21 = 0 then some ((-1000000001 : Int32), μ) else Option.bind (fX9_notes μ) (fun m22 => ic_ag m22 98 28 (24 : Int32) (fun v23 => ic_lt (((v23 >>> (x1 &&& 31)) &&& (1 : Int32))) (fun x24 => Option.bind (if x2 = 0 then ic_ag m22 98 28 (24 : Int32) (fun v26 => some (v26 &&& (((1 : Int32) <<< (x1 &&& 31)) ^^^ (-1 : Int32)))) else ic_ag m22 98 28 (24 : Int32) (fun v27 => some (v27 ||| ((1 : Int32) <<< (x1 &&& 31))))) (fun q25 => ic_as m22 98 28 (24 : Int32) q25 (fun m28 => some (x24, m28))))))))
def lpX9_spring_32 (x1_ : Int32) : Nat → Int32 → ic_M → Option (ic_M)
  | 0, _, _ => none
  | fu + 1, y2_, μ => ic_ag μ 92 7 (3 : Int32) (fun v25 => (if v25 ≤ y2_ then some μ else ic_ag μ 98 28 ((18 : Int32) + y2_) (fun v26 => Option.bind (if v26 = (-2 : Int32) then some (-2 : Int32) else some (-1 : Int32)) (fun q27 => ic_as μ 98 28 ((18 : Int32) + y2_) q27 (fun m28 => ic_lt (y2_ + (1 : Int32)) (fun x29 => lpX9_spring_32 x1_ fu x29 m28))))))
def fX9_spring (μ : ic_M) : Option (Int32 × ic_M) := Option.bind (fX9_isRiver μ) (fun v21 => (if v21 = 0 then some ((-1000000003 : Int32), μ) else Option.bind (fX9_notes μ) (fun m22 => ic_ag m22 98 28 (25 : Int32) (fun v23 => ic_as m22 98 28 (25 : Int32) (-1 : Int32) (fun m24 => Option.bind (lpX9_spring_32 v23 1000 (0 : Int32) m24) (fun q30 => some (v23, q30)))))))
set_option maxRecDepth 100000 in
set_option maxHeartbeats 4000000 in
theorem lpX9_passes_11_ok (l : Launch) (κ : ic_K) (sw : Nat) (r1_ : Nat) (x2_ : Int32) {Z : State → List Frame → Array Value → State → Prop} {R : ic_M} (hk : ic_W l κ MX9_passes ic_X0 Z 111 [(0, ic_rv κ.1 90), (1, ic_rv κ.1 r1_), (2, .int x2_)] [] 106 (ic_rs sw) R 0 0) : ∀ (fu : Nat) (y3_ : Int32) (μ : ic_M), lpX9_passes_11 r1_ x2_ fu y3_ μ = some R → ic_W l κ MX9_passes ic_X0 Z 11 [(0, ic_rv κ.1 90), (1, ic_rv κ.1 r1_), (2, .int x2_), (3, .int y3_)] [] 106 (ic_rs sw) μ 0 0 := by
  intro fu
  induction fu with
  | zero =>
    intro y3_ μ hf
    exact absurd hf (by simp [lpX9_passes_11])
  | succ fu ih =>
    intro y3_ μ hf
    rw [lpX9_passes_11] at hf
    refine iw_iload_n (i := 3) (pc' := 12) 3 rfl (by decide +kernel) ?_
    refine iw_aload_n (i := 0) (pc' := 13) 0 rfl (by decide +kernel) ?_
    obtain ⟨v23, hc, hf⟩ := ic_bd hf
    refine iw_callV (pc' := 16) (S0 := [.int y3_]) (S1 := [.int v23, .int y3_]) (c1 := 0) (s1 := 0) (k := 0) (ct_X9_cells l κ sw μ hc) cO_90 ⟨rfl, rfl⟩ mv_X9_cells lkm_X9_120 ⟨rfl, rfl⟩ (ic_sum8 ⟨rfl, trivial⟩ (Nat.le_of_ble_eq_true rfl)) (by unfold ic_rm; decide +kernel) ⟨rfl, rfl, rfl⟩ ⟨Nat.le_of_ble_eq_true rfl, Nat.le_of_ble_eq_true rfl⟩ ?_
    refine iw_icmp_ge (off := 95) (tg := 111) (pc' := 19) hf (by decide +kernel) (fun hf => ?_) (fun hf => ?_)
    · obtain rfl := Option.some.inj hf
      exact iw_sub [0, 1, 2] rfl hk
    · refine iw_iload_n (i := 2) (pc' := 20) 2 rfl (by decide +kernel) ?_
      refine iw_aload_n (i := 0) (pc' := 21) 0 rfl (by decide +kernel) ?_
      refine iw_iload_n (i := 3) (pc' := 22) 3 rfl (by decide +kernel) ?_
      obtain ⟨v24, hc, hf⟩ := ic_bd hf
      refine iw_callV (pc' := 25) (S0 := [.int x2_]) (S1 := [.int v24, .int x2_]) (c1 := 0) (s1 := 0) (k := 1) (ct_X9_currentOf l κ sw μ y3_ hc) cO_90 ⟨rfl, rfl⟩ mv_X9_currentOf lkm_X9_164 ⟨rfl, rfl⟩ (ic_sum8 ⟨rfl, trivial⟩ (Nat.le_of_ble_eq_true rfl)) (by unfold ic_rm; decide +kernel) ⟨rfl, rfl, rfl⟩ ⟨Nat.le_of_ble_eq_true rfl, Nat.le_of_ble_eq_true rfl⟩ ?_
      refine iw_isub (pc' := 26) (by decide +kernel) ?_
      refine iw_istore (i := 4) (pc' := 28) (L1 := fun x25 => [(0, ic_rv κ.1 90), (1, ic_rv κ.1 r1_), (2, .int x2_), (3, .int y3_), (4, .int x25)]) hf (fun _ => rfl) (by decide +kernel) (fun x25 hf => ?_)
      refine iw_iload_n (i := 2) (pc' := 29) 2 rfl (by decide +kernel) ?_
      obtain ⟨q26, hf, hgq26⟩ := ic_bd hf
      have hjq26 : ic_W l κ MX9_passes ic_X0 Z 43 [(0, ic_rv κ.1 90), (1, ic_rv κ.1 r1_), (2, .int x2_), (3, .int y3_)] [.int q26] 106 (ic_rs sw) μ 0 0 := by
        have hf := hgq26
        refine iw_istore0 (i := 4) (pc' := 45) (L' := [(0, ic_rv κ.1 90), (1, ic_rv κ.1 r1_), (2, .int x2_), (3, .int y3_), (4, .int q26)]) rfl (by decide +kernel) ?_
        refine iw_iload_n (i := 2) (pc' := 46) 2 rfl (by decide +kernel) ?_
        obtain ⟨q27, hf, hgq27⟩ := ic_bd hf
        have hjq27 : ic_W l κ MX9_passes ic_X0 Z 69 [(0, ic_rv κ.1 90), (1, ic_rv κ.1 r1_), (2, .int x2_), (3, .int y3_)] [.int q27] 106 (ic_rs sw) μ 0 0 := by
          have hf := hgq27
          refine iw_istore0 (i := 4) (pc' := 71) (L' := [(0, ic_rv κ.1 90), (1, ic_rv κ.1 r1_), (2, .int x2_), (3, .int y3_), (4, .int q27)]) rfl (by decide +kernel) ?_
          refine iw_aload_n (i := 1) (pc' := 72) 1 rfl (by decide +kernel) ?_
          refine iw_iload_n (i := 3) (pc' := 73) 3 rfl (by decide +kernel) ?_
          refine iw_iald (pc' := 74) hf (fun h => ic_il_is h) (by decide +kernel) (fun v30 hf => ?_)
          refine iw_iload (i := 4) (pc' := 76) 4 rfl (by decide +kernel) ?_
          refine iw_iadd (pc' := 77) (by decide +kernel) ?_
          refine iw_istore (i := 5) (pc' := 79) (L1 := fun x31 => [(0, ic_rv κ.1 90), (1, ic_rv κ.1 r1_), (2, .int x2_), (3, .int y3_), (4, .int q27), (5, .int x31)]) hf (fun _ => rfl) (by decide +kernel) (fun x31 hf => ?_)
          refine iw_aload_n (i := 1) (pc' := 80) 1 rfl (by decide +kernel) ?_
          refine iw_iload_n (i := 3) (pc' := 81) 3 rfl (by decide +kernel) ?_
          refine iw_iload (i := 5) (pc' := 83) 5 rfl (by decide +kernel) ?_
          obtain ⟨q32, hf, hgq32⟩ := ic_bd hf
          have hjq32 : ic_W l κ MX9_passes ic_X0 Z 104 [(0, ic_rv κ.1 90), (1, ic_rv κ.1 r1_), (2, .int x2_), (3, .int y3_)] [.int q32, .int y3_, ic_rv κ.1 r1_] 106 (ic_rs sw) μ 0 0 := by
            have hf := hgq32
            refine iw_iast (pc' := 105) hf (fun h => ic_il_is h) (by decide +kernel) (fun m33 hf => ?_)
            refine iw_iinc (i := 3) (d := 1) (pc' := 108) (v := (1 : Int32)) (L1 := fun x34 => [(0, ic_rv κ.1 90), (1, ic_rv κ.1 r1_), (2, .int x2_), (3, .int x34)]) hf 3 rfl (fun _ => rfl) (by decide +kernel) (fun x34 hf => ?_)
            refine iw_goto (off := (-97)) (pc' := 11) (by decide +kernel) ?_
            exact iw_sub [0, 1, 2, 3] rfl (ih _ _ hf)
          refine iw_if_ge (off := 7) (tg := 90) (pc' := 86) hf (by decide +kernel) (fun hf => ?_) (fun hf => ?_)
          · refine iw_iload (i := 5) (pc' := 92) 5 rfl (by decide +kernel) ?_
            refine iw_bipush (i := 60) (v := (60 : Int32)) (pc' := 94) (by decide +kernel) ?_
            refine iw_icmp_le (off := 8) (tg := 102) (pc' := 97) hf (by decide +kernel) (fun hf => ?_) (fun hf => ?_)
            · refine iw_iload (i := 5) (pc' := 104) 5 rfl (by decide +kernel) ?_
              obtain rfl := Option.some.inj hf
              exact iw_sub [0, 1, 2, 3] rfl hjq32
            · refine iw_bipush (i := 60) (v := (60 : Int32)) (pc' := 99) (by decide +kernel) ?_
              refine iw_goto (off := 5) (pc' := 104) (by decide +kernel) ?_
              obtain rfl := Option.some.inj hf
              exact iw_sub [0, 1, 2, 3] rfl hjq32
          · refine iw_iconst (i := 0) (v := (0 : Int32)) (pc' := 87) (by decide +kernel) ?_
            refine iw_goto (off := 17) (pc' := 104) (by decide +kernel) ?_
            obtain rfl := Option.some.inj hf
            exact iw_sub [0, 1, 2, 3] rfl hjq32
        refine iw_if_le (off := 21) (tg := 67) (pc' := 49) hf (by decide +kernel) (fun hf => ?_) (fun hf => ?_)
        · refine iw_iload (i := 4) (pc' := 69) 4 rfl (by decide +kernel) ?_
          obtain rfl := Option.some.inj hf
          exact iw_sub [0, 1, 2, 3] rfl hjq27
        · refine iw_aload_n (i := 1) (pc' := 50) 1 rfl (by decide +kernel) ?_
          refine iw_bipush (i := 24) (v := (24 : Int32)) (pc' := 52) (by decide +kernel) ?_
          refine iw_iald (pc' := 53) hf (fun h => ic_il_is h) (by decide +kernel) (fun v28 hf => ?_)
          refine iw_iload_n (i := 3) (pc' := 54) 3 rfl (by decide +kernel) ?_
          obtain ⟨v29, hc, hf⟩ := ic_bd hf
          refine iw_callS (pc' := 57) (S0 := []) (S1 := [.int v29]) (c1 := 0) (s1 := 0) (k := 2) (ct_X9_has l κ sw μ v28 y3_ hc) ms_X9_has lkm_X9_147 ⟨rfl, rfl⟩ (ic_sum8 trivial (Nat.le_of_ble_eq_true rfl)) (by unfold ic_rm; decide +kernel) ⟨rfl, rfl, rfl⟩ ⟨Nat.le_of_ble_eq_true rfl, Nat.le_of_ble_eq_true rfl⟩ ?_
          refine iw_if_eq (off := 10) (tg := 67) (pc' := 60) hf (by decide +kernel) (fun hf => ?_) (fun hf => ?_)
          · refine iw_iload (i := 4) (pc' := 69) 4 rfl (by decide +kernel) ?_
            obtain rfl := Option.some.inj hf
            exact iw_sub [0, 1, 2, 3] rfl hjq27
          · refine iw_iload (i := 4) (pc' := 62) 4 rfl (by decide +kernel) ?_
            refine iw_iconst (i := 2) (v := (2 : Int32)) (pc' := 63) (by decide +kernel) ?_
            refine iw_idiv (pc' := 64) hf (by decide +kernel) (fun hf => ?_)
            refine iw_goto (off := 5) (pc' := 69) (by decide +kernel) ?_
            obtain rfl := Option.some.inj hf
            exact iw_sub [0, 1, 2, 3] rfl hjq27
      refine iw_if_le (off := 12) (tg := 41) (pc' := 32) hf (by decide +kernel) (fun hf => ?_) (fun hf => ?_)
      · refine iw_iload (i := 4) (pc' := 43) 4 rfl (by decide +kernel) ?_
        obtain rfl := Option.some.inj hf
        exact iw_sub [0, 1, 2, 3] rfl hjq26
      · refine iw_iload (i := 4) (pc' := 34) 4 rfl (by decide +kernel) ?_
        refine iw_if_ge (off := 7) (tg := 41) (pc' := 37) hf (by decide +kernel) (fun hf => ?_) (fun hf => ?_)
        · refine iw_iload (i := 4) (pc' := 43) 4 rfl (by decide +kernel) ?_
          obtain rfl := Option.some.inj hf
          exact iw_sub [0, 1, 2, 3] rfl hjq26
        · refine iw_iconst (i := 0) (v := (0 : Int32)) (pc' := 38) (by decide +kernel) ?_
          refine iw_goto (off := 5) (pc' := 43) (by decide +kernel) ?_
          obtain rfl := Option.some.inj hf
          exact iw_sub [0, 1, 2, 3] rfl hjq26
set_option maxRecDepth 100000 in
set_option maxHeartbeats 4000000 in
theorem ct_X9_passes (l : Launch) (κ : ic_K) (sw : Nat) (μ : ic_M) (r1 : Nat) {R : ic_M} (hf : fX9_passes μ r1 = some R) : ic_C l κ MX9_passes [ic_rv κ.1 90, ic_rv κ.1 r1] 106 (ic_rs sw) μ none 106 (ic_rs sw) R := by
  refine ic_C.of (L := [(0, ic_rv κ.1 90), (1, ic_rv κ.1 r1)]) ⟨ic_cat _ _, ic_cat _ _, trivial⟩ ⟨by decide +kernel, Nat.le_of_ble_eq_true rfl⟩ rfl ?_
  unfold fX9_passes at hf
  refine iw_aload_n (i := 0) (pc' := 1) 0 rfl (by decide +kernel) ?_
  refine iw_aload_n (i := 1) (pc' := 2) 1 rfl (by decide +kernel) ?_
  refine iw_bipush (i := 26) (v := (26 : Int32)) (pc' := 4) (by decide +kernel) ?_
  refine iw_iald (pc' := 5) hf (fun h => ic_il_is h) (by decide +kernel) (fun v21 hf => ?_)
  obtain ⟨v22, hc, hf⟩ := ic_bd hf
  refine iw_callV (pc' := 8) (S0 := []) (S1 := [.int v22]) (c1 := 0) (s1 := 0) (k := 1) (ct_X9_coldOf l κ sw μ v21 hc) cO_90 ⟨rfl, rfl⟩ mv_X9_coldOf lkm_X9_161 ⟨rfl, rfl⟩ (ic_sum8 trivial (Nat.le_of_ble_eq_true rfl)) (by unfold ic_rm; decide +kernel) ⟨rfl, rfl, rfl⟩ ⟨Nat.le_of_ble_eq_true rfl, Nat.le_of_ble_eq_true rfl⟩ ?_
  refine iw_istore_n0 (i := 2) (pc' := 9) (L' := [(0, ic_rv κ.1 90), (1, ic_rv κ.1 r1), (2, .int v22)]) rfl (by decide +kernel) ?_
  refine iw_iconst (i := 0) (v := (0 : Int32)) (pc' := 10) (by decide +kernel) ?_
  refine iw_istore_n0 (i := 3) (pc' := 11) (L' := [(0, ic_rv κ.1 90), (1, ic_rv κ.1 r1), (2, .int v22), (3, .int (0 : Int32))]) rfl (by decide +kernel) ?_
  obtain ⟨q35, hf, hgq35⟩ := ic_bd hf
  have hjq35 : ic_W l κ MX9_passes ic_X0 (ic_Z κ MX9_passes none 106 (ic_rs sw) R) 111 [(0, ic_rv κ.1 90), (1, ic_rv κ.1 r1), (2, .int v22)] [] 106 (ic_rs sw) q35 0 0 := by
    have hf := hgq35
    refine iw_aload_n (i := 1) (pc' := 112) 1 rfl (by decide +kernel) ?_
    refine iw_bipush (i := 24) (v := (24 : Int32)) (pc' := 114) (by decide +kernel) ?_
    refine iw_iload_n (i := 2) (pc' := 115) 2 rfl (by decide +kernel) ?_
    obtain ⟨q36, hf, hgq36⟩ := ic_bd hf
    have hjq36 : ic_W l κ MX9_passes ic_X0 (ic_Z κ MX9_passes none 106 (ic_rs sw) R) 126 [(0, ic_rv κ.1 90), (1, ic_rv κ.1 r1)] [.int q36, .int (24 : Int32), ic_rv κ.1 r1] 106 (ic_rs sw) q35 0 0 := by
      have hf := hgq36
      refine iw_iast (pc' := 127) hf (fun h => ic_il_is h) (by decide +kernel) (fun m38 hf => ?_)
      refine iw_aload_n (i := 0) (pc' := 128) 0 rfl (by decide +kernel) ?_
      refine iw_aload_n (i := 1) (pc' := 129) 1 rfl (by decide +kernel) ?_
      refine iw_iconst (i := (-1)) (v := (-1 : Int32)) (pc' := 130) (by decide +kernel) ?_
      obtain ⟨q39, hc, hf⟩ := ic_bd hf
      refine iw_callV (pc' := 133) (S0 := []) (S1 := [.int q39.1]) (c1 := 0) (s1 := 0) (k := 2) (ct_X9_breaks l κ sw m38 r1 (-1 : Int32) hc) cO_90 ⟨rfl, rfl⟩ mv_X9_breaks lkm_X9_158 ⟨rfl, rfl⟩ (ic_sum8 trivial (Nat.le_of_ble_eq_true rfl)) (by unfold ic_rm; decide +kernel) ⟨rfl, rfl, rfl⟩ ⟨Nat.le_of_ble_eq_true rfl, Nat.le_of_ble_eq_true rfl⟩ ?_
      refine iw_pop (pc' := 134) rfl (by decide +kernel) ?_
      refine iw_aload_n (i := 0) (pc' := 135) 0 rfl (by decide +kernel) ?_
      refine iw_aload_n (i := 1) (pc' := 136) 1 rfl (by decide +kernel) ?_
      obtain ⟨m40, hc, hf⟩ := ic_bd hf
      refine iw_callV (pc' := 139) (S0 := []) (S1 := []) (c1 := 0) (s1 := 0) (k := 1) (ct_X9_drowns l κ sw q39.2 r1 hc) cO_90 ⟨rfl, rfl⟩ mv_X9_drowns lkm_X9_167 ⟨rfl, rfl⟩ (ic_sum8 trivial (Nat.le_of_ble_eq_true rfl)) (by unfold ic_rm; decide +kernel) ⟨rfl, rfl, rfl⟩ ⟨Nat.le_of_ble_eq_true rfl, Nat.le_of_ble_eq_true rfl⟩ ?_
      refine iw_aload_n (i := 1) (pc' := 140) 1 rfl (by decide +kernel) ?_
      refine iw_bipush (i := 26) (v := (26 : Int32)) (pc' := 142) (by decide +kernel) ?_
      refine iw_dup2 (pc' := 143) rfl (ic_cat _ _) (by decide +kernel) ?_
      refine iw_iald (pc' := 144) hf (fun h => ic_il_is h) (by decide +kernel) (fun v41 hf => ?_)
      refine iw_iconst (i := 1) (v := (1 : Int32)) (pc' := 145) (by decide +kernel) ?_
      refine iw_iadd (pc' := 146) (by decide +kernel) ?_
      refine iw_iast (pc' := 147) hf (fun h => ic_il_is h) (by decide +kernel) (fun m42 hf => ?_)
      exact iw_vreturn rfl (Option.some.inj hf) (by decide +kernel)
    refine iw_if_le (off := 10) (tg := 125) (pc' := 118) hf (by decide +kernel) (fun hf => ?_) (fun hf => ?_)
    · refine iw_iconst (i := 0) (v := (0 : Int32)) (pc' := 126) (by decide +kernel) ?_
      obtain rfl := Option.some.inj hf
      exact iw_sub [0, 1] rfl hjq36
    · refine iw_aload_n (i := 1) (pc' := 119) 1 rfl (by decide +kernel) ?_
      refine iw_bipush (i := 24) (v := (24 : Int32)) (pc' := 121) (by decide +kernel) ?_
      refine iw_iald (pc' := 122) hf (fun h => ic_il_is h) (by decide +kernel) (fun v37 hf => ?_)
      refine iw_goto (off := 4) (pc' := 126) (by decide +kernel) ?_
      obtain rfl := Option.some.inj hf
      exact iw_sub [0, 1] rfl hjq36
  exact iw_sub [0, 1, 2, 3] rfl (lpX9_passes_11_ok l κ sw r1 v22 hjq35 1000 (0 : Int32) μ hf)
set_option maxRecDepth 100000 in
set_option maxHeartbeats 4000000 in
theorem lpX9_holes_4_ok (l : Launch) (κ : ic_K) (sw : Nat) (μ : ic_M) {Z : State → List Frame → Array Value → State → Prop} {R : Int32} (hk : ic_W l κ MX9_holes ic_X0 Z 37 [(1, .int R)] [] 106 (ic_rs sw) μ 0 0) : ∀ (fu : Nat) (y1_ : Int32) (y2_ : Int32), lpX9_holes_4 μ fu y1_ y2_ = some R → ic_W l κ MX9_holes ic_X0 Z 4 [(0, ic_rv κ.1 90), (1, .int y1_), (2, .int y2_)] [] 106 (ic_rs sw) μ 0 0 := by
  intro fu
  induction fu with
  | zero =>
    intro y1_ y2_ hf
    exact absurd hf (by simp [lpX9_holes_4])
  | succ fu ih =>
    intro y1_ y2_ hf
    rw [lpX9_holes_4] at hf
    refine iw_iload_n (i := 2) (pc' := 5) 2 rfl (by decide +kernel) ?_
    refine iw_aload_n (i := 0) (pc' := 6) 0 rfl (by decide +kernel) ?_
    obtain ⟨v21, hc, hf⟩ := ic_bd hf
    refine iw_callV (pc' := 9) (S0 := [.int y2_]) (S1 := [.int v21, .int y2_]) (c1 := 0) (s1 := 0) (k := 0) (ct_X9_cells l κ sw μ hc) cO_90 ⟨rfl, rfl⟩ mv_X9_cells lkm_X9_120 ⟨rfl, rfl⟩ (ic_sum8 ⟨rfl, trivial⟩ (Nat.le_of_ble_eq_true rfl)) (by unfold ic_rm; decide +kernel) ⟨rfl, rfl, rfl⟩ ⟨Nat.le_of_ble_eq_true rfl, Nat.le_of_ble_eq_true rfl⟩ ?_
    refine iw_icmp_ge (off := 28) (tg := 37) (pc' := 12) hf (by decide +kernel) (fun hf => ?_) (fun hf => ?_)
    · obtain rfl := Option.some.inj hf
      exact iw_sub [1] rfl hk
    · refine iw_iload_n (i := 1) (pc' := 13) 1 rfl (by decide +kernel) ?_
      refine iw_aload_n (i := 0) (pc' := 14) 0 rfl (by decide +kernel) ?_
      refine iw_getr (pc' := 17) (q := 98) ic_fk9 cO_90 rfl lkf_X9_35 (by decide +kernel) ?_
      refine iw_iload_n (i := 2) (pc' := 18) 2 rfl (by decide +kernel) ?_
      refine iw_iald (pc' := 19) hf (fun _ => cI_98) (by decide +kernel) (fun v22 hf => ?_)
      obtain ⟨q23, hf, hgq23⟩ := ic_bd hf
      have hjq23 : ic_W l κ MX9_holes ic_X0 Z 29 [(0, ic_rv κ.1 90), (2, .int y2_)] [.int q23, .int y1_] 106 (ic_rs sw) μ 0 0 := by
        have hf := hgq23
        refine iw_ior (pc' := 30) (by decide +kernel) ?_
        refine iw_istore_n (i := 1) (pc' := 31) (L1 := fun x24 => [(0, ic_rv κ.1 90), (1, .int x24), (2, .int y2_)]) hf (fun _ => rfl) (by decide +kernel) (fun x24 hf => ?_)
        refine iw_iinc (i := 2) (d := 1) (pc' := 34) (v := (1 : Int32)) (L1 := fun x25 => [(0, ic_rv κ.1 90), (1, .int x24), (2, .int x25)]) hf 2 rfl (fun _ => rfl) (by decide +kernel) (fun x25 hf => ?_)
        refine iw_goto (off := (-30)) (pc' := 4) (by decide +kernel) ?_
        exact iw_sub [0, 1, 2] rfl (ih _ _ hf)
      refine iw_if_ne (off := 9) (tg := 28) (pc' := 22) hf (by decide +kernel) (fun hf => ?_) (fun hf => ?_)
      · refine iw_iconst (i := 0) (v := (0 : Int32)) (pc' := 29) (by decide +kernel) ?_
        obtain rfl := Option.some.inj hf
        exact iw_sub [0, 2] rfl hjq23
      · refine iw_iconst (i := 1) (v := (1 : Int32)) (pc' := 23) (by decide +kernel) ?_
        refine iw_iload_n (i := 2) (pc' := 24) 2 rfl (by decide +kernel) ?_
        refine iw_ishl (pc' := 25) (by decide +kernel) ?_
        refine iw_goto (off := 4) (pc' := 29) (by decide +kernel) ?_
        obtain rfl := Option.some.inj hf
        exact iw_sub [0, 2] rfl hjq23
set_option maxRecDepth 100000 in
set_option maxHeartbeats 4000000 in
theorem ct_X9_holes (l : Launch) (κ : ic_K) (sw : Nat) (μ : ic_M) {R : Int32} (hf : fX9_holes μ = some R) : ic_C l κ MX9_holes [ic_rv κ.1 90] 106 (ic_rs sw) μ (some (.int R)) 106 (ic_rs sw) μ := by
  refine ic_C.of (L := [(0, ic_rv κ.1 90)]) ⟨ic_cat _ _, trivial⟩ ⟨by decide +kernel, Nat.le_of_ble_eq_true rfl⟩ rfl ?_
  unfold fX9_holes at hf
  refine iw_iconst (i := 0) (v := (0 : Int32)) (pc' := 1) (by decide +kernel) ?_
  refine iw_istore_n0 (i := 1) (pc' := 2) (L' := [(0, ic_rv κ.1 90), (1, .int (0 : Int32))]) rfl (by decide +kernel) ?_
  refine iw_iconst (i := 0) (v := (0 : Int32)) (pc' := 3) (by decide +kernel) ?_
  refine iw_istore_n0 (i := 2) (pc' := 4) (L' := [(0, ic_rv κ.1 90), (1, .int (0 : Int32)), (2, .int (0 : Int32))]) rfl (by decide +kernel) ?_
  obtain ⟨q26, hf, hgq26⟩ := ic_bd hf
  have hjq26 : ic_W l κ MX9_holes ic_X0 (ic_Z κ MX9_holes (some (.int R)) 106 (ic_rs sw) μ) 37 [(1, .int q26)] [] 106 (ic_rs sw) μ 0 0 := by
    have hf := hgq26
    refine iw_iload_n (i := 1) (pc' := 38) 0 rfl (by decide +kernel) ?_
    exact iw_ireturn (Option.some.inj hf) rfl rfl (by decide +kernel)
  exact iw_sub [0, 1, 2] rfl (lpX9_holes_4_ok l κ sw μ hjq26 1000 (0 : Int32) (0 : Int32) hf)
set_option maxRecDepth 100000 in
set_option maxHeartbeats 4000000 in
theorem lpX9_knock_4_ok (l : Launch) (κ : ic_K) (sw : Nat) (μ : ic_M) {Z : State → List Frame → Array Value → State → Prop} {R : Int32} (hk : ic_W l κ MX9_knock ic_X0 Z 40 [(1, .int R)] [] 106 (ic_rs sw) μ 0 0) : ∀ (fu : Nat) (y1_ : Int32) (y2_ : Int32), lpX9_knock_4 μ fu y1_ y2_ = some R → ic_W l κ MX9_knock ic_X0 Z 4 [(0, ic_rv κ.1 90), (1, .int y1_), (2, .int y2_)] [] 106 (ic_rs sw) μ 0 0 := by
  intro fu
  induction fu with
  | zero =>
    intro y1_ y2_ hf
    exact absurd hf (by simp [lpX9_knock_4])
  | succ fu ih =>
    intro y1_ y2_ hf
    rw [lpX9_knock_4] at hf
    refine iw_iload_n (i := 2) (pc' := 5) 2 rfl (by decide +kernel) ?_
    refine iw_aload_n (i := 0) (pc' := 6) 0 rfl (by decide +kernel) ?_
    obtain ⟨v21, hc, hf⟩ := ic_bd hf
    refine iw_callV (pc' := 9) (S0 := [.int y2_]) (S1 := [.int v21, .int y2_]) (c1 := 0) (s1 := 0) (k := 0) (ct_X9_cells l κ sw μ hc) cO_90 ⟨rfl, rfl⟩ mv_X9_cells lkm_X9_120 ⟨rfl, rfl⟩ (ic_sum8 ⟨rfl, trivial⟩ (Nat.le_of_ble_eq_true rfl)) (by unfold ic_rm; decide +kernel) ⟨rfl, rfl, rfl⟩ ⟨Nat.le_of_ble_eq_true rfl, Nat.le_of_ble_eq_true rfl⟩ ?_
    refine iw_icmp_ge (off := 31) (tg := 40) (pc' := 12) hf (by decide +kernel) (fun hf => ?_) (fun hf => ?_)
    · obtain rfl := Option.some.inj hf
      exact iw_sub [1] rfl hk
    · refine iw_iload_n (i := 1) (pc' := 13) 1 rfl (by decide +kernel) ?_
      refine iw_aload_n (i := 0) (pc' := 14) 0 rfl (by decide +kernel) ?_
      refine iw_aload_n (i := 0) (pc' := 15) 0 rfl (by decide +kernel) ?_
      refine iw_getr (pc' := 18) (q := 98) ic_fk9 cO_90 rfl lkf_X9_35 (by decide +kernel) ?_
      refine iw_iload_n (i := 2) (pc' := 19) 2 rfl (by decide +kernel) ?_
      obtain ⟨v22, hc, hf⟩ := ic_bd hf
      refine iw_callV (pc' := 22) (S0 := [.int y1_]) (S1 := [.int v22, .int y1_]) (c1 := 0) (s1 := 0) (k := 2) (ct_X9_cracks l κ sw μ 98 y2_ hc) cO_90 ⟨rfl, rfl⟩ mv_X9_cracks lkm_X9_171 ⟨rfl, rfl⟩ (ic_sum8 ⟨rfl, trivial⟩ (Nat.le_of_ble_eq_true rfl)) (by unfold ic_rm; decide +kernel) ⟨rfl, rfl, rfl⟩ ⟨Nat.le_of_ble_eq_true rfl, Nat.le_of_ble_eq_true rfl⟩ ?_
      obtain ⟨q23, hf, hgq23⟩ := ic_bd hf
      have hjq23 : ic_W l κ MX9_knock ic_X0 Z 32 [(0, ic_rv κ.1 90), (2, .int y2_)] [.int q23, .int y1_] 106 (ic_rs sw) μ 0 0 := by
        have hf := hgq23
        refine iw_ior (pc' := 33) (by decide +kernel) ?_
        refine iw_istore_n (i := 1) (pc' := 34) (L1 := fun x24 => [(0, ic_rv κ.1 90), (1, .int x24), (2, .int y2_)]) hf (fun _ => rfl) (by decide +kernel) (fun x24 hf => ?_)
        refine iw_iinc (i := 2) (d := 1) (pc' := 37) (v := (1 : Int32)) (L1 := fun x25 => [(0, ic_rv κ.1 90), (1, .int x24), (2, .int x25)]) hf 2 rfl (fun _ => rfl) (by decide +kernel) (fun x25 hf => ?_)
        refine iw_goto (off := (-33)) (pc' := 4) (by decide +kernel) ?_
        exact iw_sub [0, 1, 2] rfl (ih _ _ hf)
      refine iw_if_eq (off := 9) (tg := 31) (pc' := 25) hf (by decide +kernel) (fun hf => ?_) (fun hf => ?_)
      · refine iw_iconst (i := 0) (v := (0 : Int32)) (pc' := 32) (by decide +kernel) ?_
        obtain rfl := Option.some.inj hf
        exact iw_sub [0, 2] rfl hjq23
      · refine iw_iconst (i := 1) (v := (1 : Int32)) (pc' := 26) (by decide +kernel) ?_
        refine iw_iload_n (i := 2) (pc' := 27) 2 rfl (by decide +kernel) ?_
        refine iw_ishl (pc' := 28) (by decide +kernel) ?_
        refine iw_goto (off := 4) (pc' := 32) (by decide +kernel) ?_
        obtain rfl := Option.some.inj hf
        exact iw_sub [0, 2] rfl hjq23
set_option maxRecDepth 100000 in
set_option maxHeartbeats 4000000 in
theorem ct_X9_knock (l : Launch) (κ : ic_K) (sw : Nat) (μ : ic_M) {R : Int32} (hf : fX9_knock μ = some R) : ic_C l κ MX9_knock [ic_rv κ.1 90] 106 (ic_rs sw) μ (some (.int R)) 106 (ic_rs sw) μ := by
  refine ic_C.of (L := [(0, ic_rv κ.1 90)]) ⟨ic_cat _ _, trivial⟩ ⟨by decide +kernel, Nat.le_of_ble_eq_true rfl⟩ rfl ?_
  unfold fX9_knock at hf
  refine iw_iconst (i := 0) (v := (0 : Int32)) (pc' := 1) (by decide +kernel) ?_
  refine iw_istore_n0 (i := 1) (pc' := 2) (L' := [(0, ic_rv κ.1 90), (1, .int (0 : Int32))]) rfl (by decide +kernel) ?_
  refine iw_iconst (i := 0) (v := (0 : Int32)) (pc' := 3) (by decide +kernel) ?_
  refine iw_istore_n0 (i := 2) (pc' := 4) (L' := [(0, ic_rv κ.1 90), (1, .int (0 : Int32)), (2, .int (0 : Int32))]) rfl (by decide +kernel) ?_
  obtain ⟨q26, hf, hgq26⟩ := ic_bd hf
  have hjq26 : ic_W l κ MX9_knock ic_X0 (ic_Z κ MX9_knock (some (.int R)) 106 (ic_rs sw) μ) 40 [(1, .int q26)] [] 106 (ic_rs sw) μ 0 0 := by
    have hf := hgq26
    refine iw_iload_n (i := 1) (pc' := 41) 0 rfl (by decide +kernel) ?_
    exact iw_ireturn (Option.some.inj hf) rfl rfl (by decide +kernel)
  exact iw_sub [0, 1, 2] rfl (lpX9_knock_4_ok l κ sw μ hjq26 1000 (0 : Int32) (0 : Int32) hf)
set_option maxRecDepth 100000 in
set_option maxHeartbeats 4000000 in
theorem ct_X9_spare (l : Launch) (κ : ic_K) (sw : Nat) (μ : ic_M) (x1 : Int32) {R : Int32} (hf : fX9_spare μ x1 = some R) : ic_C l κ MX9_spare [ic_rv κ.1 90, .int x1] 106 (ic_rs sw) μ (some (.int R)) 106 (ic_rs sw) μ := by
  refine ic_C.of (L := [(0, ic_rv κ.1 90), (1, .int x1)]) ⟨ic_cat _ _, rfl, trivial⟩ ⟨by decide +kernel, Nat.le_of_ble_eq_true rfl⟩ rfl ?_
  unfold fX9_spare at hf
  refine iw_aload_n (i := 0) (pc' := 1) 0 rfl (by decide +kernel) ?_
  refine iw_aload_n (i := 0) (pc' := 2) 0 rfl (by decide +kernel) ?_
  refine iw_getr (pc' := 5) (q := 98) ic_fk9 cO_90 rfl lkf_X9_35 (by decide +kernel) ?_
  refine iw_iload_n (i := 1) (pc' := 6) 1 rfl (by decide +kernel) ?_
  obtain ⟨v21, hc, hf⟩ := ic_bd hf
  refine iw_callV (pc' := 9) (S0 := []) (S1 := [.int v21]) (c1 := 0) (s1 := 0) (k := 2) (ct_X9_bearsOf l κ sw μ 98 x1 hc) cO_90 ⟨rfl, rfl⟩ mv_X9_bearsOf lkm_X9_140 ⟨rfl, rfl⟩ (ic_sum8 trivial (Nat.le_of_ble_eq_true rfl)) (by unfold ic_rm; decide +kernel) ⟨rfl, rfl, rfl⟩ ⟨Nat.le_of_ble_eq_true rfl, Nat.le_of_ble_eq_true rfl⟩ ?_
  refine iw_aload_n (i := 0) (pc' := 10) 0 rfl (by decide +kernel) ?_
  refine iw_aload_n (i := 0) (pc' := 11) 0 rfl (by decide +kernel) ?_
  refine iw_getr (pc' := 14) (q := 98) ic_fk9 cO_90 rfl lkf_X9_35 (by decide +kernel) ?_
  refine iw_iload_n (i := 1) (pc' := 15) 1 rfl (by decide +kernel) ?_
  obtain ⟨v22, hc, hf⟩ := ic_bd hf
  refine iw_callV (pc' := 18) (S0 := [.int v21]) (S1 := [.int v22, .int v21]) (c1 := 0) (s1 := 0) (k := 2) (ct_X9_loadOf l κ sw μ 98 x1 hc) cO_90 ⟨rfl, rfl⟩ mv_X9_loadOf lkm_X9_136 ⟨rfl, rfl⟩ (ic_sum8 ⟨rfl, trivial⟩ (Nat.le_of_ble_eq_true rfl)) (by unfold ic_rm; decide +kernel) ⟨rfl, rfl, rfl⟩ ⟨Nat.le_of_ble_eq_true rfl, Nat.le_of_ble_eq_true rfl⟩ ?_
  refine iw_isub (pc' := 19) (by decide +kernel) ?_
  exact iw_ireturn (Option.some.inj hf) rfl rfl (by decide +kernel)
set_option maxRecDepth 100000 in
set_option maxHeartbeats 4000000 in
theorem lpX9_first_4_ok (l : Launch) (κ : ic_K) (sw : Nat) (μ : ic_M) {Z : State → List Frame → Array Value → State → Prop} {R : Int32} (hk : ic_W l κ MX9_first ic_X0 Z 51 [(1, .int R)] [] 106 (ic_rs sw) μ 0 0) : ∀ (fu : Nat) (y1_ : Int32) (y2_ : Int32), lpX9_first_4 μ fu y1_ y2_ = some R → ic_W l κ MX9_first ic_X0 Z 4 [(0, ic_rv κ.1 90), (1, .int y1_), (2, .int y2_)] [] 106 (ic_rs sw) μ 0 0 := by
  intro fu
  induction fu with
  | zero =>
    intro y1_ y2_ hf
    exact absurd hf (by simp [lpX9_first_4])
  | succ fu ih =>
    intro y1_ y2_ hf
    rw [lpX9_first_4] at hf
    refine iw_iload_n (i := 2) (pc' := 5) 2 rfl (by decide +kernel) ?_
    refine iw_aload_n (i := 0) (pc' := 6) 0 rfl (by decide +kernel) ?_
    obtain ⟨v21, hc, hf⟩ := ic_bd hf
    refine iw_callV (pc' := 9) (S0 := [.int y2_]) (S1 := [.int v21, .int y2_]) (c1 := 0) (s1 := 0) (k := 0) (ct_X9_cells l κ sw μ hc) cO_90 ⟨rfl, rfl⟩ mv_X9_cells lkm_X9_120 ⟨rfl, rfl⟩ (ic_sum8 ⟨rfl, trivial⟩ (Nat.le_of_ble_eq_true rfl)) (by unfold ic_rm; decide +kernel) ⟨rfl, rfl, rfl⟩ ⟨Nat.le_of_ble_eq_true rfl, Nat.le_of_ble_eq_true rfl⟩ ?_
    refine iw_icmp_ge (off := 42) (tg := 51) (pc' := 12) hf (by decide +kernel) (fun hf => ?_) (fun hf => ?_)
    · obtain rfl := Option.some.inj hf
      exact iw_sub [1] rfl hk
    · refine iw_aload_n (i := 0) (pc' := 13) 0 rfl (by decide +kernel) ?_
      refine iw_getr (pc' := 16) (q := 98) ic_fk9 cO_90 rfl lkf_X9_35 (by decide +kernel) ?_
      refine iw_iload_n (i := 2) (pc' := 17) 2 rfl (by decide +kernel) ?_
      refine iw_iald (pc' := 18) hf (fun _ => cI_98) (by decide +kernel) (fun v22 hf => ?_)
      obtain ⟨q23, hf, hgq23⟩ := ic_bd hf
      have hjq23 : ic_W l κ MX9_first ic_X0 Z 44 [(0, ic_rv κ.1 90), (2, .int y2_)] [.int q23] 106 (ic_rs sw) μ 0 0 := by
        have hf := hgq23
        refine iw_istore_n0 (i := 1) (pc' := 45) (L' := [(0, ic_rv κ.1 90), (1, .int q23), (2, .int y2_)]) rfl (by decide +kernel) ?_
        refine iw_iinc (i := 2) (d := 1) (pc' := 48) (v := (1 : Int32)) (L1 := fun x26 => [(0, ic_rv κ.1 90), (1, .int q23), (2, .int x26)]) hf 2 rfl (fun _ => rfl) (by decide +kernel) (fun x26 hf => ?_)
        refine iw_goto (off := (-44)) (pc' := 4) (by decide +kernel) ?_
        exact iw_sub [0, 1, 2] rfl (ih _ _ hf)
      refine iw_if_le (off := 25) (tg := 43) (pc' := 21) hf (by decide +kernel) (fun hf => ?_) (fun hf => ?_)
      · refine iw_iload_n (i := 1) (pc' := 44) 1 rfl (by decide +kernel) ?_
        obtain rfl := Option.some.inj hf
        exact iw_sub [0, 2] rfl hjq23
      · refine iw_iload_n (i := 1) (pc' := 22) 1 rfl (by decide +kernel) ?_
        refine iw_iconst (i := (-1)) (v := (-1 : Int32)) (pc' := 23) (by decide +kernel) ?_
        refine iw_icmp_eq (off := 16) (tg := 39) (pc' := 26) hf (by decide +kernel) (fun hf => ?_) (fun hf => ?_)
        · refine iw_iload_n (i := 2) (pc' := 40) 2 rfl (by decide +kernel) ?_
          refine iw_goto (off := 4) (pc' := 44) (by decide +kernel) ?_
          obtain rfl := Option.some.inj hf
          exact iw_sub [0, 2] rfl hjq23
        · refine iw_aload_n (i := 0) (pc' := 27) 0 rfl (by decide +kernel) ?_
          refine iw_iload_n (i := 2) (pc' := 28) 2 rfl (by decide +kernel) ?_
          obtain ⟨v24, hc, hf⟩ := ic_bd hf
          refine iw_callV (pc' := 31) (S0 := []) (S1 := [.int v24]) (c1 := 0) (s1 := 0) (k := 1) (ct_X9_spare l κ sw μ y2_ hc) cO_90 ⟨rfl, rfl⟩ mv_X9_spare lkm_X9_175 ⟨rfl, rfl⟩ (ic_sum8 trivial (Nat.le_of_ble_eq_true rfl)) (by unfold ic_rm; decide +kernel) ⟨rfl, rfl, rfl⟩ ⟨Nat.le_of_ble_eq_true rfl, Nat.le_of_ble_eq_true rfl⟩ ?_
          refine iw_aload_n (i := 0) (pc' := 32) 0 rfl (by decide +kernel) ?_
          refine iw_iload_n (i := 1) (pc' := 33) 1 rfl (by decide +kernel) ?_
          obtain ⟨v25, hc, hf⟩ := ic_bd hf
          refine iw_callV (pc' := 36) (S0 := [.int v24]) (S1 := [.int v25, .int v24]) (c1 := 0) (s1 := 0) (k := 1) (ct_X9_spare l κ sw μ y1_ hc) cO_90 ⟨rfl, rfl⟩ mv_X9_spare lkm_X9_175 ⟨rfl, rfl⟩ (ic_sum8 ⟨rfl, trivial⟩ (Nat.le_of_ble_eq_true rfl)) (by unfold ic_rm; decide +kernel) ⟨rfl, rfl, rfl⟩ ⟨Nat.le_of_ble_eq_true rfl, Nat.le_of_ble_eq_true rfl⟩ ?_
          refine iw_icmp_ge (off := 7) (tg := 43) (pc' := 39) hf (by decide +kernel) (fun hf => ?_) (fun hf => ?_)
          · refine iw_iload_n (i := 1) (pc' := 44) 1 rfl (by decide +kernel) ?_
            obtain rfl := Option.some.inj hf
            exact iw_sub [0, 2] rfl hjq23
          · refine iw_iload_n (i := 2) (pc' := 40) 2 rfl (by decide +kernel) ?_
            refine iw_goto (off := 4) (pc' := 44) (by decide +kernel) ?_
            obtain rfl := Option.some.inj hf
            exact iw_sub [0, 2] rfl hjq23
set_option maxRecDepth 100000 in
set_option maxHeartbeats 4000000 in
theorem ct_X9_first (l : Launch) (κ : ic_K) (sw : Nat) (μ : ic_M) {R : Int32} (hf : fX9_first μ = some R) : ic_C l κ MX9_first [ic_rv κ.1 90] 106 (ic_rs sw) μ (some (.int R)) 106 (ic_rs sw) μ := by
  refine ic_C.of (L := [(0, ic_rv κ.1 90)]) ⟨ic_cat _ _, trivial⟩ ⟨by decide +kernel, Nat.le_of_ble_eq_true rfl⟩ rfl ?_
  unfold fX9_first at hf
  refine iw_iconst (i := (-1)) (v := (-1 : Int32)) (pc' := 1) (by decide +kernel) ?_
  refine iw_istore_n0 (i := 1) (pc' := 2) (L' := [(0, ic_rv κ.1 90), (1, .int (-1 : Int32))]) rfl (by decide +kernel) ?_
  refine iw_iconst (i := 0) (v := (0 : Int32)) (pc' := 3) (by decide +kernel) ?_
  refine iw_istore_n0 (i := 2) (pc' := 4) (L' := [(0, ic_rv κ.1 90), (1, .int (-1 : Int32)), (2, .int (0 : Int32))]) rfl (by decide +kernel) ?_
  obtain ⟨q27, hf, hgq27⟩ := ic_bd hf
  have hjq27 : ic_W l κ MX9_first ic_X0 (ic_Z κ MX9_first (some (.int R)) 106 (ic_rs sw) μ) 51 [(1, .int q27)] [] 106 (ic_rs sw) μ 0 0 := by
    have hf := hgq27
    refine iw_iload_n (i := 1) (pc' := 52) 0 rfl (by decide +kernel) ?_
    exact iw_ireturn (Option.some.inj hf) rfl rfl (by decide +kernel)
  exact iw_sub [0, 1, 2] rfl (lpX9_first_4_ok l κ sw μ hjq27 1000 (-1 : Int32) (0 : Int32) hf)
set_option maxRecDepth 100000 in
set_option maxHeartbeats 4000000 in
theorem ct_X9_told (l : Launch) (κ : ic_K) (sw : Nat) (μ : ic_M) (x1 : Int32) {R : Int32} (hf : fX9_told μ x1 = some R) : ic_C l κ MX9_told [ic_rv κ.1 90, .int x1] 106 (ic_rs sw) μ (some (.int R)) 106 (ic_rs sw) μ := by
  refine ic_C.of (L := [(0, ic_rv κ.1 90), (1, .int x1)]) ⟨ic_cat _ _, rfl, trivial⟩ ⟨by decide +kernel, Nat.le_of_ble_eq_true rfl⟩ rfl ?_
  unfold fX9_told at hf
  refine iw_iload_n (i := 1) (pc' := 1) 1 rfl (by decide +kernel) ?_
  refine iw_case hf (fun hx hf => ?_) (fun hn0 hf => ?_)
  · refine iw_tableIn (v := (0 : Int32)) (dflt := 185) (lo := 0) (hi := 15) (off := 79) (offs := #[79, 86, 93, 100, 107, 112, 120, 128, 133, 141, 146, 157, 165, 170, 175, 180]) (len := 79) (tg := 80) hx (by decide +kernel) ?_
    refine iw_aload_n (i := 0) (pc' := 81) 0 rfl (by decide +kernel) ?_
    refine iw_getr (pc' := 84) (q := 92) ic_fk9 cO_90 rfl lkf_X9_17 (by decide +kernel) ?_
    refine iw_iconst (i := 0) (v := (0 : Int32)) (pc' := 85) (by decide +kernel) ?_
    refine iw_iald (pc' := 86) hf (fun _ => cI_92) (by decide +kernel) (fun v21 hf => ?_)
    exact iw_ireturn (Option.some.inj hf) rfl rfl (by decide +kernel)
  · refine iw_case hf (fun hx hf => ?_) (fun hn1 hf => ?_)
    · refine iw_tableIn (v := (1 : Int32)) (dflt := 185) (lo := 0) (hi := 15) (off := 86) (offs := #[79, 86, 93, 100, 107, 112, 120, 128, 133, 141, 146, 157, 165, 170, 175, 180]) (len := 79) (tg := 87) hx (by decide +kernel) ?_
      refine iw_aload_n (i := 0) (pc' := 88) 0 rfl (by decide +kernel) ?_
      refine iw_getr (pc' := 91) (q := 92) ic_fk9 cO_90 rfl lkf_X9_17 (by decide +kernel) ?_
      refine iw_iconst (i := 1) (v := (1 : Int32)) (pc' := 92) (by decide +kernel) ?_
      refine iw_iald (pc' := 93) hf (fun _ => cI_92) (by decide +kernel) (fun v22 hf => ?_)
      exact iw_ireturn (Option.some.inj hf) rfl rfl (by decide +kernel)
    · refine iw_case hf (fun hx hf => ?_) (fun hn2 hf => ?_)
      · refine iw_tableIn (v := (2 : Int32)) (dflt := 185) (lo := 0) (hi := 15) (off := 93) (offs := #[79, 86, 93, 100, 107, 112, 120, 128, 133, 141, 146, 157, 165, 170, 175, 180]) (len := 79) (tg := 94) hx (by decide +kernel) ?_
        refine iw_aload_n (i := 0) (pc' := 95) 0 rfl (by decide +kernel) ?_
        refine iw_getr (pc' := 98) (q := 92) ic_fk9 cO_90 rfl lkf_X9_17 (by decide +kernel) ?_
        refine iw_iconst (i := 2) (v := (2 : Int32)) (pc' := 99) (by decide +kernel) ?_
        refine iw_iald (pc' := 100) hf (fun _ => cI_92) (by decide +kernel) (fun v23 hf => ?_)
        exact iw_ireturn (Option.some.inj hf) rfl rfl (by decide +kernel)
      · refine iw_case hf (fun hx hf => ?_) (fun hn3 hf => ?_)
        · refine iw_tableIn (v := (3 : Int32)) (dflt := 185) (lo := 0) (hi := 15) (off := 100) (offs := #[79, 86, 93, 100, 107, 112, 120, 128, 133, 141, 146, 157, 165, 170, 175, 180]) (len := 79) (tg := 101) hx (by decide +kernel) ?_
          refine iw_aload_n (i := 0) (pc' := 102) 0 rfl (by decide +kernel) ?_
          refine iw_getr (pc' := 105) (q := 92) ic_fk9 cO_90 rfl lkf_X9_17 (by decide +kernel) ?_
          refine iw_iconst (i := 3) (v := (3 : Int32)) (pc' := 106) (by decide +kernel) ?_
          refine iw_iald (pc' := 107) hf (fun _ => cI_92) (by decide +kernel) (fun v24 hf => ?_)
          exact iw_ireturn (Option.some.inj hf) rfl rfl (by decide +kernel)
        · refine iw_case hf (fun hx hf => ?_) (fun hn4 hf => ?_)
          · refine iw_tableIn (v := (4 : Int32)) (dflt := 185) (lo := 0) (hi := 15) (off := 107) (offs := #[79, 86, 93, 100, 107, 112, 120, 128, 133, 141, 146, 157, 165, 170, 175, 180]) (len := 79) (tg := 108) hx (by decide +kernel) ?_
            refine iw_aload_n (i := 0) (pc' := 109) 0 rfl (by decide +kernel) ?_
            refine iw_geti (pc' := 112) ic_fk9 cO_90 lkf_X9_68 (by decide +kernel) ?_
            exact iw_ireturn (Option.some.inj hf) rfl rfl (by decide +kernel)
          · refine iw_case hf (fun hx hf => ?_) (fun hn5 hf => ?_)
            · refine iw_tableIn (v := (5 : Int32)) (dflt := 185) (lo := 0) (hi := 15) (off := 112) (offs := #[79, 86, 93, 100, 107, 112, 120, 128, 133, 141, 146, 157, 165, 170, 175, 180]) (len := 79) (tg := 113) hx (by decide +kernel) ?_
              refine iw_aload_n (i := 0) (pc' := 114) 0 rfl (by decide +kernel) ?_
              refine iw_getr (pc' := 117) (q := 98) ic_fk9 cO_90 rfl lkf_X9_35 (by decide +kernel) ?_
              refine iw_bipush (i := 26) (v := (26 : Int32)) (pc' := 119) (by decide +kernel) ?_
              refine iw_iald (pc' := 120) hf (fun _ => cI_98) (by decide +kernel) (fun v25 hf => ?_)
              exact iw_ireturn (Option.some.inj hf) rfl rfl (by decide +kernel)
            · refine iw_case hf (fun hx hf => ?_) (fun hn6 hf => ?_)
              · refine iw_tableIn (v := (6 : Int32)) (dflt := 185) (lo := 0) (hi := 15) (off := 120) (offs := #[79, 86, 93, 100, 107, 112, 120, 128, 133, 141, 146, 157, 165, 170, 175, 180]) (len := 79) (tg := 121) hx (by decide +kernel) ?_
                refine iw_aload_n (i := 0) (pc' := 122) 0 rfl (by decide +kernel) ?_
                refine iw_getr (pc' := 125) (q := 98) ic_fk9 cO_90 rfl lkf_X9_35 (by decide +kernel) ?_
                refine iw_bipush (i := 25) (v := (25 : Int32)) (pc' := 127) (by decide +kernel) ?_
                refine iw_iald (pc' := 128) hf (fun _ => cI_98) (by decide +kernel) (fun v26 hf => ?_)
                exact iw_ireturn (Option.some.inj hf) rfl rfl (by decide +kernel)
              · refine iw_case hf (fun hx hf => ?_) (fun hn7 hf => ?_)
                · refine iw_tableIn (v := (7 : Int32)) (dflt := 185) (lo := 0) (hi := 15) (off := 128) (offs := #[79, 86, 93, 100, 107, 112, 120, 128, 133, 141, 146, 157, 165, 170, 175, 180]) (len := 79) (tg := 129) hx (by decide +kernel) ?_
                  refine iw_aload_n (i := 0) (pc' := 130) 0 rfl (by decide +kernel) ?_
                  obtain ⟨v27, hc, hf⟩ := ic_bd hf
                  refine iw_callV (pc' := 133) (S0 := []) (S1 := [.int v27]) (c1 := 0) (s1 := 0) (k := 0) (ct_X9_holes l κ sw μ hc) cO_90 ⟨rfl, rfl⟩ mv_X9_holes lkm_X9_178 ⟨rfl, rfl⟩ (ic_sum8 trivial (Nat.le_of_ble_eq_true rfl)) (by unfold ic_rm; decide +kernel) ⟨rfl, rfl, rfl⟩ ⟨Nat.le_of_ble_eq_true rfl, Nat.le_of_ble_eq_true rfl⟩ ?_
                  exact iw_ireturn (Option.some.inj hf) rfl rfl (by decide +kernel)
                · refine iw_case hf (fun hx hf => ?_) (fun hn8 hf => ?_)
                  · refine iw_tableIn (v := (8 : Int32)) (dflt := 185) (lo := 0) (hi := 15) (off := 133) (offs := #[79, 86, 93, 100, 107, 112, 120, 128, 133, 141, 146, 157, 165, 170, 175, 180]) (len := 79) (tg := 134) hx (by decide +kernel) ?_
                    refine iw_aload_n (i := 0) (pc' := 135) 0 rfl (by decide +kernel) ?_
                    refine iw_getr (pc' := 138) (q := 98) ic_fk9 cO_90 rfl lkf_X9_35 (by decide +kernel) ?_
                    refine iw_bipush (i := 24) (v := (24 : Int32)) (pc' := 140) (by decide +kernel) ?_
                    refine iw_iald (pc' := 141) hf (fun _ => cI_98) (by decide +kernel) (fun v28 hf => ?_)
                    exact iw_ireturn (Option.some.inj hf) rfl rfl (by decide +kernel)
                  · refine iw_case hf (fun hx hf => ?_) (fun hn9 hf => ?_)
                    · refine iw_tableIn (v := (9 : Int32)) (dflt := 185) (lo := 0) (hi := 15) (off := 141) (offs := #[79, 86, 93, 100, 107, 112, 120, 128, 133, 141, 146, 157, 165, 170, 175, 180]) (len := 79) (tg := 142) hx (by decide +kernel) ?_
                      refine iw_aload_n (i := 0) (pc' := 143) 0 rfl (by decide +kernel) ?_
                      obtain ⟨v29, hc, hf⟩ := ic_bd hf
                      refine iw_callV (pc' := 146) (S0 := []) (S1 := [.int v29]) (c1 := 0) (s1 := 0) (k := 0) (ct_X9_knock l κ sw μ hc) cO_90 ⟨rfl, rfl⟩ mv_X9_knock lkm_X9_181 ⟨rfl, rfl⟩ (ic_sum8 trivial (Nat.le_of_ble_eq_true rfl)) (by unfold ic_rm; decide +kernel) ⟨rfl, rfl, rfl⟩ ⟨Nat.le_of_ble_eq_true rfl, Nat.le_of_ble_eq_true rfl⟩ ?_
                      exact iw_ireturn (Option.some.inj hf) rfl rfl (by decide +kernel)
                    · refine iw_case hf (fun hx hf => ?_) (fun hn10 hf => ?_)
                      · refine iw_tableIn (v := (10 : Int32)) (dflt := 185) (lo := 0) (hi := 15) (off := 146) (offs := #[79, 86, 93, 100, 107, 112, 120, 128, 133, 141, 146, 157, 165, 170, 175, 180]) (len := 79) (tg := 147) hx (by decide +kernel) ?_
                        refine iw_aload_n (i := 0) (pc' := 148) 0 rfl (by decide +kernel) ?_
                        refine iw_aload_n (i := 0) (pc' := 149) 0 rfl (by decide +kernel) ?_
                        refine iw_getr (pc' := 152) (q := 98) ic_fk9 cO_90 rfl lkf_X9_35 (by decide +kernel) ?_
                        refine iw_bipush (i := (-2)) (v := (-2 : Int32)) (pc' := 154) (by decide +kernel) ?_
                        obtain ⟨v30, hc, hf⟩ := ic_bd hf
                        refine iw_callV (pc' := 157) (S0 := []) (S1 := [.int v30]) (c1 := 0) (s1 := 0) (k := 2) (ct_X9_onCell l κ sw μ 98 (-2 : Int32) hc) cO_90 ⟨rfl, rfl⟩ mv_X9_onCell lkm_X9_184 ⟨rfl, rfl⟩ (ic_sum8 trivial (Nat.le_of_ble_eq_true rfl)) (by unfold ic_rm; decide +kernel) ⟨rfl, rfl, rfl⟩ ⟨Nat.le_of_ble_eq_true rfl, Nat.le_of_ble_eq_true rfl⟩ ?_
                        exact iw_ireturn (Option.some.inj hf) rfl rfl (by decide +kernel)
                      · refine iw_case hf (fun hx hf => ?_) (fun hn11 hf => ?_)
                        · refine iw_tableIn (v := (11 : Int32)) (dflt := 185) (lo := 0) (hi := 15) (off := 157) (offs := #[79, 86, 93, 100, 107, 112, 120, 128, 133, 141, 146, 157, 165, 170, 175, 180]) (len := 79) (tg := 158) hx (by decide +kernel) ?_
                          refine iw_aload_n (i := 0) (pc' := 159) 0 rfl (by decide +kernel) ?_
                          refine iw_getr (pc' := 162) (q := 98) ic_fk9 cO_90 rfl lkf_X9_35 (by decide +kernel) ?_
                          refine iw_bipush (i := 27) (v := (27 : Int32)) (pc' := 164) (by decide +kernel) ?_
                          refine iw_iald (pc' := 165) hf (fun _ => cI_98) (by decide +kernel) (fun v31 hf => ?_)
                          exact iw_ireturn (Option.some.inj hf) rfl rfl (by decide +kernel)
                        · refine iw_case hf (fun hx hf => ?_) (fun hn12 hf => ?_)
                          · refine iw_tableIn (v := (12 : Int32)) (dflt := 185) (lo := 0) (hi := 15) (off := 165) (offs := #[79, 86, 93, 100, 107, 112, 120, 128, 133, 141, 146, 157, 165, 170, 175, 180]) (len := 79) (tg := 166) hx (by decide +kernel) ?_
                            refine iw_aload_n (i := 0) (pc' := 167) 0 rfl (by decide +kernel) ?_
                            obtain ⟨v32, hc, hf⟩ := ic_bd hf
                            refine iw_callV (pc' := 170) (S0 := []) (S1 := [.int v32]) (c1 := 0) (s1 := 0) (k := 0) (ct_X9_first l κ sw μ hc) cO_90 ⟨rfl, rfl⟩ mv_X9_first lkm_X9_187 ⟨rfl, rfl⟩ (ic_sum8 trivial (Nat.le_of_ble_eq_true rfl)) (by unfold ic_rm; decide +kernel) ⟨rfl, rfl, rfl⟩ ⟨Nat.le_of_ble_eq_true rfl, Nat.le_of_ble_eq_true rfl⟩ ?_
                            exact iw_ireturn (Option.some.inj hf) rfl rfl (by decide +kernel)
                          · refine iw_case hf (fun hx hf => ?_) (fun hn13 hf => ?_)
                            · refine iw_tableIn (v := (13 : Int32)) (dflt := 185) (lo := 0) (hi := 15) (off := 170) (offs := #[79, 86, 93, 100, 107, 112, 120, 128, 133, 141, 146, 157, 165, 170, 175, 180]) (len := 79) (tg := 171) hx (by decide +kernel) ?_
                              refine iw_aload_n (i := 0) (pc' := 172) 0 rfl (by decide +kernel) ?_
                              refine iw_geti (pc' := 175) ic_fk9 cO_90 lkf_X9_126 (by decide +kernel) ?_
                              exact iw_ireturn (Option.some.inj hf) rfl rfl (by decide +kernel)
                            · refine iw_case hf (fun hx hf => ?_) (fun hn14 hf => ?_)
                              · refine iw_tableIn (v := (14 : Int32)) (dflt := 185) (lo := 0) (hi := 15) (off := 175) (offs := #[79, 86, 93, 100, 107, 112, 120, 128, 133, 141, 146, 157, 165, 170, 175, 180]) (len := 79) (tg := 176) hx (by decide +kernel) ?_
                                refine iw_aload_n (i := 0) (pc' := 177) 0 rfl (by decide +kernel) ?_
                                refine iw_geti (pc' := 180) ic_fk9 cO_90 lkf_X9_129 (by decide +kernel) ?_
                                exact iw_ireturn (Option.some.inj hf) rfl rfl (by decide +kernel)
                              · refine iw_case hf (fun hx hf => ?_) (fun hn15 hf => ?_)
                                · refine iw_tableIn (v := (15 : Int32)) (dflt := 185) (lo := 0) (hi := 15) (off := 180) (offs := #[79, 86, 93, 100, 107, 112, 120, 128, 133, 141, 146, 157, 165, 170, 175, 180]) (len := 79) (tg := 181) hx (by decide +kernel) ?_
                                  refine iw_aload_n (i := 0) (pc' := 182) 0 rfl (by decide +kernel) ?_
                                  refine iw_geti (pc' := 185) ic_fk9 cO_90 lkf_X9_123 (by decide +kernel) ?_
                                  exact iw_ireturn (Option.some.inj hf) rfl rfl (by decide +kernel)
                                · refine iw_tableOut (dflt := 185) (lo := 0) (hi := 15) (offs := #[79, 86, 93, 100, 107, 112, 120, 128, 133, 141, 146, 157, 165, 170, 175, 180]) (len := 79) (tg := 186) (ic_out0_15 hn0 hn1 hn2 hn3 hn4 hn5 hn6 hn7 hn8 hn9 hn10 hn11 hn12 hn13 hn14 hn15) (by decide +kernel) ?_
                                  refine iw_ldc (pc' := 188) lkc_X9_67 (by decide +kernel) ?_
                                  exact iw_ireturn (Option.some.inj hf) rfl rfl (by decide +kernel)
set_option maxRecDepth 100000 in
set_option maxHeartbeats 4000000 in
theorem ct_X9_cell (l : Launch) (κ : ic_K) (sw : Nat) (μ : ic_M) (x1 : Int32) (x2 : Int32) {R : Int32} (hf : fX9_cell μ x1 x2 = some R) : ic_C l κ MX9_cell [ic_rv κ.1 90, .int x1, .int x2] 106 (ic_rs sw) μ (some (.int R)) 106 (ic_rs sw) μ := by
  refine ic_C.of (L := [(0, ic_rv κ.1 90), (1, .int x1), (2, .int x2)]) ⟨ic_cat _ _, rfl, rfl, trivial⟩ ⟨by decide +kernel, Nat.le_of_ble_eq_true rfl⟩ rfl ?_
  unfold fX9_cell at hf
  refine iw_aload_n (i := 0) (pc' := 1) 0 rfl (by decide +kernel) ?_
  refine iw_iload_n (i := 1) (pc' := 2) 1 rfl (by decide +kernel) ?_
  obtain ⟨v21, hc, hf⟩ := ic_bd hf
  refine iw_callV (pc' := 5) (S0 := []) (S1 := [.int v21]) (c1 := 0) (s1 := 0) (k := 1) (ct_X9_isCell l κ sw μ x1 hc) cO_90 ⟨rfl, rfl⟩ mv_X9_isCell lkm_X9_190 ⟨rfl, rfl⟩ (ic_sum8 trivial (Nat.le_of_ble_eq_true rfl)) (by unfold ic_rm; decide +kernel) ⟨rfl, rfl, rfl⟩ ⟨Nat.le_of_ble_eq_true rfl, Nat.le_of_ble_eq_true rfl⟩ ?_
  refine iw_if_ne (off := 6) (tg := 11) (pc' := 8) hf (by decide +kernel) (fun hf => ?_) (fun hf => ?_)
  · refine iw_iload_n (i := 2) (pc' := 12) 2 rfl (by decide +kernel) ?_
    refine iw_case hf (fun hx hf => ?_) (fun hn0 hf => ?_)
    · refine iw_tableIn (v := (0 : Int32)) (dflt := 93) (lo := 0) (hi := 5) (off := 40) (offs := #[40, 47, 57, 67, 77, 83]) (len := 40) (tg := 52) hx (by decide +kernel) ?_
      refine iw_aload_n (i := 0) (pc' := 53) 0 rfl (by decide +kernel) ?_
      refine iw_getr (pc' := 56) (q := 98) ic_fk9 cO_90 rfl lkf_X9_35 (by decide +kernel) ?_
      refine iw_iload_n (i := 1) (pc' := 57) 1 rfl (by decide +kernel) ?_
      refine iw_iald (pc' := 58) hf (fun _ => cI_98) (by decide +kernel) (fun v22 hf => ?_)
      exact iw_ireturn (Option.some.inj hf) rfl rfl (by decide +kernel)
    · refine iw_case hf (fun hx hf => ?_) (fun hn1 hf => ?_)
      · refine iw_tableIn (v := (1 : Int32)) (dflt := 93) (lo := 0) (hi := 5) (off := 47) (offs := #[40, 47, 57, 67, 77, 83]) (len := 40) (tg := 59) hx (by decide +kernel) ?_
        refine iw_aload_n (i := 0) (pc' := 60) 0 rfl (by decide +kernel) ?_
        refine iw_aload_n (i := 0) (pc' := 61) 0 rfl (by decide +kernel) ?_
        refine iw_getr (pc' := 64) (q := 98) ic_fk9 cO_90 rfl lkf_X9_35 (by decide +kernel) ?_
        refine iw_iload_n (i := 1) (pc' := 65) 1 rfl (by decide +kernel) ?_
        obtain ⟨v23, hc, hf⟩ := ic_bd hf
        refine iw_callV (pc' := 68) (S0 := []) (S1 := [.int v23]) (c1 := 0) (s1 := 0) (k := 2) (ct_X9_bearsOf l κ sw μ 98 x1 hc) cO_90 ⟨rfl, rfl⟩ mv_X9_bearsOf lkm_X9_140 ⟨rfl, rfl⟩ (ic_sum8 trivial (Nat.le_of_ble_eq_true rfl)) (by unfold ic_rm; decide +kernel) ⟨rfl, rfl, rfl⟩ ⟨Nat.le_of_ble_eq_true rfl, Nat.le_of_ble_eq_true rfl⟩ ?_
        exact iw_ireturn (Option.some.inj hf) rfl rfl (by decide +kernel)
      · refine iw_case hf (fun hx hf => ?_) (fun hn2 hf => ?_)
        · refine iw_tableIn (v := (2 : Int32)) (dflt := 93) (lo := 0) (hi := 5) (off := 57) (offs := #[40, 47, 57, 67, 77, 83]) (len := 40) (tg := 69) hx (by decide +kernel) ?_
          refine iw_aload_n (i := 0) (pc' := 70) 0 rfl (by decide +kernel) ?_
          refine iw_aload_n (i := 0) (pc' := 71) 0 rfl (by decide +kernel) ?_
          refine iw_getr (pc' := 74) (q := 98) ic_fk9 cO_90 rfl lkf_X9_35 (by decide +kernel) ?_
          refine iw_iload_n (i := 1) (pc' := 75) 1 rfl (by decide +kernel) ?_
          obtain ⟨v24, hc, hf⟩ := ic_bd hf
          refine iw_callV (pc' := 78) (S0 := []) (S1 := [.int v24]) (c1 := 0) (s1 := 0) (k := 2) (ct_X9_loadOf l κ sw μ 98 x1 hc) cO_90 ⟨rfl, rfl⟩ mv_X9_loadOf lkm_X9_136 ⟨rfl, rfl⟩ (ic_sum8 trivial (Nat.le_of_ble_eq_true rfl)) (by unfold ic_rm; decide +kernel) ⟨rfl, rfl, rfl⟩ ⟨Nat.le_of_ble_eq_true rfl, Nat.le_of_ble_eq_true rfl⟩ ?_
          exact iw_ireturn (Option.some.inj hf) rfl rfl (by decide +kernel)
        · refine iw_case hf (fun hx hf => ?_) (fun hn3 hf => ?_)
          · refine iw_tableIn (v := (3 : Int32)) (dflt := 93) (lo := 0) (hi := 5) (off := 67) (offs := #[40, 47, 57, 67, 77, 83]) (len := 40) (tg := 79) hx (by decide +kernel) ?_
            refine iw_aload_n (i := 0) (pc' := 80) 0 rfl (by decide +kernel) ?_
            refine iw_aload_n (i := 0) (pc' := 81) 0 rfl (by decide +kernel) ?_
            refine iw_getr (pc' := 84) (q := 98) ic_fk9 cO_90 rfl lkf_X9_35 (by decide +kernel) ?_
            refine iw_iload_n (i := 1) (pc' := 85) 1 rfl (by decide +kernel) ?_
            obtain ⟨v25, hc, hf⟩ := ic_bd hf
            refine iw_callV (pc' := 88) (S0 := []) (S1 := [.int v25]) (c1 := 0) (s1 := 0) (k := 2) (ct_X9_onCell l κ sw μ 98 x1 hc) cO_90 ⟨rfl, rfl⟩ mv_X9_onCell lkm_X9_184 ⟨rfl, rfl⟩ (ic_sum8 trivial (Nat.le_of_ble_eq_true rfl)) (by unfold ic_rm; decide +kernel) ⟨rfl, rfl, rfl⟩ ⟨Nat.le_of_ble_eq_true rfl, Nat.le_of_ble_eq_true rfl⟩ ?_
            exact iw_ireturn (Option.some.inj hf) rfl rfl (by decide +kernel)
          · refine iw_case hf (fun hx hf => ?_) (fun hn4 hf => ?_)
            · refine iw_tableIn (v := (4 : Int32)) (dflt := 93) (lo := 0) (hi := 5) (off := 77) (offs := #[40, 47, 57, 67, 77, 83]) (len := 40) (tg := 89) hx (by decide +kernel) ?_
              refine iw_aload_n (i := 0) (pc' := 90) 0 rfl (by decide +kernel) ?_
              refine iw_iload_n (i := 1) (pc' := 91) 1 rfl (by decide +kernel) ?_
              obtain ⟨v26, hc, hf⟩ := ic_bd hf
              refine iw_callV (pc' := 94) (S0 := []) (S1 := [.int v26]) (c1 := 0) (s1 := 0) (k := 1) (ct_X9_currentOf l κ sw μ x1 hc) cO_90 ⟨rfl, rfl⟩ mv_X9_currentOf lkm_X9_164 ⟨rfl, rfl⟩ (ic_sum8 trivial (Nat.le_of_ble_eq_true rfl)) (by unfold ic_rm; decide +kernel) ⟨rfl, rfl, rfl⟩ ⟨Nat.le_of_ble_eq_true rfl, Nat.le_of_ble_eq_true rfl⟩ ?_
              exact iw_ireturn (Option.some.inj hf) rfl rfl (by decide +kernel)
            · refine iw_case hf (fun hx hf => ?_) (fun hn5 hf => ?_)
              · refine iw_tableIn (v := (5 : Int32)) (dflt := 93) (lo := 0) (hi := 5) (off := 83) (offs := #[40, 47, 57, 67, 77, 83]) (len := 40) (tg := 95) hx (by decide +kernel) ?_
                refine iw_aload_n (i := 0) (pc' := 96) 0 rfl (by decide +kernel) ?_
                refine iw_iload_n (i := 1) (pc' := 97) 1 rfl (by decide +kernel) ?_
                obtain ⟨v27, hc, hf⟩ := ic_bd hf
                refine iw_callV (pc' := 100) (S0 := []) (S1 := [.int v27]) (c1 := 0) (s1 := 0) (k := 1) (ct_X9_spare l κ sw μ x1 hc) cO_90 ⟨rfl, rfl⟩ mv_X9_spare lkm_X9_175 ⟨rfl, rfl⟩ (ic_sum8 trivial (Nat.le_of_ble_eq_true rfl)) (by unfold ic_rm; decide +kernel) ⟨rfl, rfl, rfl⟩ ⟨Nat.le_of_ble_eq_true rfl, Nat.le_of_ble_eq_true rfl⟩ ?_
                refine iw_sipush (i := 10000) (v := (10000 : Int32)) (pc' := 103) (by decide +kernel) ?_
                refine iw_iadd (pc' := 104) (by decide +kernel) ?_
                exact iw_ireturn (Option.some.inj hf) rfl rfl (by decide +kernel)
              · refine iw_tableOut (dflt := 93) (lo := 0) (hi := 5) (offs := #[40, 47, 57, 67, 77, 83]) (len := 40) (tg := 105) (ic_out0_5 hn0 hn1 hn2 hn3 hn4 hn5) (by decide +kernel) ?_
                refine iw_ldc (pc' := 107) lkc_X9_67 (by decide +kernel) ?_
                exact iw_ireturn (Option.some.inj hf) rfl rfl (by decide +kernel)
  · refine iw_ldc (pc' := 10) lkc_X9_194 (by decide +kernel) ?_
    exact iw_ireturn (Option.some.inj hf) rfl rfl (by decide +kernel)
set_option maxRecDepth 100000 in
set_option maxHeartbeats 4000000 in
theorem ct_X9_person (l : Launch) (κ : ic_K) (sw : Nat) (μ : ic_M) (x1 : Int32) (x2 : Int32) {R : Int32} (hf : fX9_person μ x1 x2 = some R) : ic_C l κ MX9_person [ic_rv κ.1 90, .int x1, .int x2] 106 (ic_rs sw) μ (some (.int R)) 106 (ic_rs sw) μ := by
  refine ic_C.of (L := [(0, ic_rv κ.1 90), (1, .int x1), (2, .int x2)]) ⟨ic_cat _ _, rfl, rfl, trivial⟩ ⟨by decide +kernel, Nat.le_of_ble_eq_true rfl⟩ rfl ?_
  unfold fX9_person at hf
  refine iw_aload_n (i := 0) (pc' := 1) 0 rfl (by decide +kernel) ?_
  refine iw_iload_n (i := 1) (pc' := 2) 1 rfl (by decide +kernel) ?_
  obtain ⟨v21, hc, hf⟩ := ic_bd hf
  refine iw_callV (pc' := 5) (S0 := []) (S1 := [.int v21]) (c1 := 0) (s1 := 0) (k := 1) (ct_X9_isPerson l κ sw μ x1 hc) cO_90 ⟨rfl, rfl⟩ mv_X9_isPerson lkm_X9_195 ⟨rfl, rfl⟩ (ic_sum8 trivial (Nat.le_of_ble_eq_true rfl)) (by unfold ic_rm; decide +kernel) ⟨rfl, rfl, rfl⟩ ⟨Nat.le_of_ble_eq_true rfl, Nat.le_of_ble_eq_true rfl⟩ ?_
  refine iw_if_ne (off := 6) (tg := 11) (pc' := 8) hf (by decide +kernel) (fun hf => ?_) (fun hf => ?_)
  · refine iw_iload_n (i := 2) (pc' := 12) 2 rfl (by decide +kernel) ?_
    refine iw_iconst (i := 0) (v := (0 : Int32)) (pc' := 13) (by decide +kernel) ?_
    refine iw_iconst (i := 2) (v := (2 : Int32)) (pc' := 14) (by decide +kernel) ?_
    obtain ⟨v22, hc, hf⟩ := ic_bd hf
    refine iw_callS (pc' := 17) (S0 := []) (S1 := [.int v22]) (c1 := 0) (s1 := 0) (k := 3) (ct_X9_in l κ sw μ x2 (0 : Int32) (2 : Int32) hc) ms_X9_in lkm_X9_63 ⟨rfl, rfl⟩ (ic_sum8 trivial (Nat.le_of_ble_eq_true rfl)) (by unfold ic_rm; decide +kernel) ⟨rfl, rfl, rfl⟩ ⟨Nat.le_of_ble_eq_true rfl, Nat.le_of_ble_eq_true rfl⟩ ?_
    obtain ⟨q23, hf, hgq23⟩ := ic_bd hf
    have hjq23 : ic_W l κ MX9_person ic_X0 (ic_Z κ MX9_person (some (.int R)) 106 (ic_rs sw) μ) 52 [] [.int q23] 106 (ic_rs sw) μ 0 0 := by
      have hf := hgq23
      exact iw_ireturn (Option.some.inj hf) rfl rfl (by decide +kernel)
    refine iw_if_ne (off := 8) (tg := 25) (pc' := 20) hf (by decide +kernel) (fun hf => ?_) (fun hf => ?_)
    · refine iw_iload_n (i := 2) (pc' := 26) 2 rfl (by decide +kernel) ?_
      refine iw_iconst (i := 2) (v := (2 : Int32)) (pc' := 27) (by decide +kernel) ?_
      refine iw_icmp_ge (off := 16) (tg := 43) (pc' := 30) hf (by decide +kernel) (fun hf => ?_) (fun hf => ?_)
      · refine iw_aload_n (i := 0) (pc' := 44) 0 rfl (by decide +kernel) ?_
        refine iw_getr (pc' := 47) (q := 98) ic_fk9 cO_90 rfl lkf_X9_35 (by decide +kernel) ?_
        refine iw_bipush (i := 18) (v := (18 : Int32)) (pc' := 49) (by decide +kernel) ?_
        refine iw_iload_n (i := 1) (pc' := 50) 1 rfl (by decide +kernel) ?_
        refine iw_iadd (pc' := 51) (by decide +kernel) ?_
        refine iw_iald (pc' := 52) hf (fun _ => cI_98) (by decide +kernel) (fun v24 hf => ?_)
        obtain rfl := Option.some.inj hf
        exact iw_sub [] rfl hjq23
      · refine iw_aload_n (i := 0) (pc' := 31) 0 rfl (by decide +kernel) ?_
        refine iw_getr (pc' := 34) (q := 94) ic_fk9 cO_90 rfl lkf_X9_23 (by decide +kernel) ?_
        refine iw_iconst (i := 2) (v := (2 : Int32)) (pc' := 35) (by decide +kernel) ?_
        refine iw_iload_n (i := 1) (pc' := 36) 1 rfl (by decide +kernel) ?_
        refine iw_imul (pc' := 37) (by decide +kernel) ?_
        refine iw_iload_n (i := 2) (pc' := 38) 2 rfl (by decide +kernel) ?_
        refine iw_iadd (pc' := 39) (by decide +kernel) ?_
        refine iw_iald (pc' := 40) hf (fun _ => cI_94) (by decide +kernel) (fun v25 hf => ?_)
        refine iw_goto (off := 12) (pc' := 52) (by decide +kernel) ?_
        obtain rfl := Option.some.inj hf
        exact iw_sub [] rfl hjq23
    · refine iw_ldc (pc' := 22) lkc_X9_67 (by decide +kernel) ?_
      refine iw_goto (off := 30) (pc' := 52) (by decide +kernel) ?_
      obtain rfl := Option.some.inj hf
      exact iw_sub [] rfl hjq23
  · refine iw_ldc (pc' := 10) lkc_X9_194 (by decide +kernel) ?_
    exact iw_ireturn (Option.some.inj hf) rfl rfl (by decide +kernel)
set_option maxRecDepth 100000 in
set_option maxHeartbeats 4000000 in
theorem ct_X9_cold (l : Launch) (κ : ic_K) (sw : Nat) (μ : ic_M) (x1 : Int32) {R : Int32} (hf : fX9_cold μ x1 = some R) : ic_C l κ MX9_cold [ic_rv κ.1 90, .int x1] 106 (ic_rs sw) μ (some (.int R)) 106 (ic_rs sw) μ := by
  refine ic_C.of (L := [(0, ic_rv κ.1 90), (1, .int x1)]) ⟨ic_cat _ _, rfl, trivial⟩ ⟨by decide +kernel, Nat.le_of_ble_eq_true rfl⟩ rfl ?_
  unfold fX9_cold at hf
  refine iw_iload_n (i := 1) (pc' := 1) 1 rfl (by decide +kernel) ?_
  refine iw_iconst (i := 0) (v := (0 : Int32)) (pc' := 2) (by decide +kernel) ?_
  refine iw_sipush (i := 9999) (v := (9999 : Int32)) (pc' := 5) (by decide +kernel) ?_
  obtain ⟨v21, hc, hf⟩ := ic_bd hf
  refine iw_callS (pc' := 8) (S0 := []) (S1 := [.int v21]) (c1 := 0) (s1 := 0) (k := 3) (ct_X9_in l κ sw μ x1 (0 : Int32) (9999 : Int32) hc) ms_X9_in lkm_X9_63 ⟨rfl, rfl⟩ (ic_sum8 trivial (Nat.le_of_ble_eq_true rfl)) (by unfold ic_rm; decide +kernel) ⟨rfl, rfl, rfl⟩ ⟨Nat.le_of_ble_eq_true rfl, Nat.le_of_ble_eq_true rfl⟩ ?_
  obtain ⟨q22, hf, hgq22⟩ := ic_bd hf
  have hjq22 : ic_W l κ MX9_cold ic_X0 (ic_Z κ MX9_cold (some (.int R)) 106 (ic_rs sw) μ) 36 [] [.int q22] 106 (ic_rs sw) μ 0 0 := by
    have hf := hgq22
    exact iw_ireturn (Option.some.inj hf) rfl rfl (by decide +kernel)
  refine iw_if_ne (off := 8) (tg := 16) (pc' := 11) hf (by decide +kernel) (fun hf => ?_) (fun hf => ?_)
  · refine iw_aload_n (i := 0) (pc' := 17) 0 rfl (by decide +kernel) ?_
    obtain ⟨v23, hc, hf⟩ := ic_bd hf
    refine iw_callV (pc' := 20) (S0 := []) (S1 := [.int v23]) (c1 := 0) (s1 := 0) (k := 0) (ct_X9_isRiver l κ sw μ hc) cO_90 ⟨rfl, rfl⟩ mv_X9_isRiver lkm_X9_198 ⟨rfl, rfl⟩ (ic_sum8 trivial (Nat.le_of_ble_eq_true rfl)) (by unfold ic_rm; decide +kernel) ⟨rfl, rfl, rfl⟩ ⟨Nat.le_of_ble_eq_true rfl, Nat.le_of_ble_eq_true rfl⟩ ?_
    refine iw_if_eq (off := 14) (tg := 34) (pc' := 23) hf (by decide +kernel) (fun hf => ?_) (fun hf => ?_)
    · refine iw_ldc (pc' := 36) lkc_X9_202 (by decide +kernel) ?_
      obtain rfl := Option.some.inj hf
      exact iw_sub [] rfl hjq22
    · refine iw_aload_n (i := 0) (pc' := 24) 0 rfl (by decide +kernel) ?_
      refine iw_iload_n (i := 1) (pc' := 25) 1 rfl (by decide +kernel) ?_
      obtain ⟨v24, hc, hf⟩ := ic_bd hf
      refine iw_callV (pc' := 28) (S0 := []) (S1 := [.int v24]) (c1 := 0) (s1 := 0) (k := 1) (ct_X9_coldOf l κ sw μ x1 hc) cO_90 ⟨rfl, rfl⟩ mv_X9_coldOf lkm_X9_161 ⟨rfl, rfl⟩ (ic_sum8 trivial (Nat.le_of_ble_eq_true rfl)) (by unfold ic_rm; decide +kernel) ⟨rfl, rfl, rfl⟩ ⟨Nat.le_of_ble_eq_true rfl, Nat.le_of_ble_eq_true rfl⟩ ?_
      refine iw_bipush (i := 10) (v := (10 : Int32)) (pc' := 30) (by decide +kernel) ?_
      refine iw_iadd (pc' := 31) (by decide +kernel) ?_
      refine iw_goto (off := 5) (pc' := 36) (by decide +kernel) ?_
      obtain rfl := Option.some.inj hf
      exact iw_sub [] rfl hjq22
  · refine iw_ldc (pc' := 13) lkc_X9_67 (by decide +kernel) ?_
    refine iw_goto (off := 23) (pc' := 36) (by decide +kernel) ?_
    obtain rfl := Option.some.inj hf
    exact iw_sub [] rfl hjq22
set_option maxRecDepth 100000 in
set_option maxHeartbeats 4000000 in
theorem lpX9_notes_11_ok (l : Launch) (κ : ic_K) (sw : Nat)  {Z : State → List Frame → Array Value → State → Prop} {R : ic_M} (hk : ic_W l κ MX9_notes ic_X0 Z 39 [(0, ic_rv κ.1 90)] [] 106 (ic_rs sw) R 0 0) : ∀ (fu : Nat) (y1_ : Int32) (μ : ic_M), lpX9_notes_11  fu y1_ μ = some R → ic_W l κ MX9_notes ic_X0 Z 11 [(0, ic_rv κ.1 90), (1, .int y1_)] [] 106 (ic_rs sw) μ 0 0 := by
  intro fu
  induction fu with
  | zero =>
    intro y1_ μ hf
    exact absurd hf (by simp [lpX9_notes_11])
  | succ fu ih =>
    intro y1_ μ hf
    rw [lpX9_notes_11] at hf
    refine iw_iload_n (i := 1) (pc' := 12) 1 rfl (by decide +kernel) ?_
    refine iw_sipush (i := 420) (v := (420 : Int32)) (pc' := 15) (by decide +kernel) ?_
    refine iw_icmp_ge (off := 24) (tg := 39) (pc' := 18) hf (by decide +kernel) (fun hf => ?_) (fun hf => ?_)
    · obtain rfl := Option.some.inj hf
      exact iw_sub [0] rfl hk
    · refine iw_aload_n (i := 0) (pc' := 19) 0 rfl (by decide +kernel) ?_
      refine iw_getr (pc' := 22) (q := 100) ic_fk9 cO_90 rfl lkf_X9_41 (by decide +kernel) ?_
      refine iw_iload_n (i := 1) (pc' := 23) 1 rfl (by decide +kernel) ?_
      refine iw_aload_n (i := 0) (pc' := 24) 0 rfl (by decide +kernel) ?_
      refine iw_getr (pc' := 27) (q := 100) ic_fk9 cO_90 rfl lkf_X9_41 (by decide +kernel) ?_
      refine iw_iload_n (i := 1) (pc' := 28) 1 rfl (by decide +kernel) ?_
      refine iw_bipush (i := 28) (v := (28 : Int32)) (pc' := 30) (by decide +kernel) ?_
      refine iw_iadd (pc' := 31) (by decide +kernel) ?_
      refine iw_iald (pc' := 32) hf (fun _ => cI_100) (by decide +kernel) (fun v22 hf => ?_)
      refine iw_iast (pc' := 33) hf (fun _ => cI_100) (by decide +kernel) (fun m23 hf => ?_)
      refine iw_iinc (i := 1) (d := 1) (pc' := 36) (v := (1 : Int32)) (L1 := fun x24 => [(0, ic_rv κ.1 90), (1, .int x24)]) hf 1 rfl (fun _ => rfl) (by decide +kernel) (fun x24 hf => ?_)
      refine iw_goto (off := (-25)) (pc' := 11) (by decide +kernel) ?_
      exact iw_sub [0, 1] rfl (ih _ _ hf)
set_option maxRecDepth 100000 in
set_option maxHeartbeats 4000000 in
theorem ct_X9_notes (l : Launch) (κ : ic_K) (sw : Nat) (μ : ic_M) {R : ic_M} (hf : fX9_notes μ = some R) : ic_C l κ MX9_notes [ic_rv κ.1 90] 106 (ic_rs sw) μ none 106 (ic_rs sw) R := by
  refine ic_C.of (L := [(0, ic_rv κ.1 90)]) ⟨ic_cat _ _, trivial⟩ ⟨by decide +kernel, Nat.le_of_ble_eq_true rfl⟩ rfl ?_
  unfold fX9_notes at hf
  refine iw_aload_n (i := 0) (pc' := 1) 0 rfl (by decide +kernel) ?_
  refine iw_geti (pc' := 4) ic_fk9 cO_90 lkf_X9_123 (by decide +kernel) ?_
  refine iw_bipush (i := 16) (v := (16 : Int32)) (pc' := 6) (by decide +kernel) ?_
  obtain ⟨q21, hf, hgq21⟩ := ic_bd hf
  have hjq21 : ic_W l κ MX9_notes ic_X0 (ic_Z κ MX9_notes none 106 (ic_rs sw) R) 49 [(0, ic_rv κ.1 90)] [] 106 (ic_rs sw) q21 0 0 := by
    have hf := hgq21
    refine iw_aload_n (i := 0) (pc' := 50) 0 rfl (by decide +kernel) ?_
    refine iw_getr (pc' := 53) (q := 98) ic_fk9 cO_90 rfl lkf_X9_35 (by decide +kernel) ?_
    refine iw_iconst (i := 0) (v := (0 : Int32)) (pc' := 54) (by decide +kernel) ?_
    refine iw_aload_n (i := 0) (pc' := 55) 0 rfl (by decide +kernel) ?_
    refine iw_getr (pc' := 58) (q := 100) ic_fk9 cO_90 rfl lkf_X9_41 (by decide +kernel) ?_
    refine iw_bipush (i := 28) (v := (28 : Int32)) (pc' := 60) (by decide +kernel) ?_
    refine iw_aload_n (i := 0) (pc' := 61) 0 rfl (by decide +kernel) ?_
    refine iw_geti (pc' := 64) ic_fk9 cO_90 lkf_X9_123 (by decide +kernel) ?_
    refine iw_imul (pc' := 65) (by decide +kernel) ?_
    refine iw_bipush (i := 28) (v := (28 : Int32)) (pc' := 67) (by decide +kernel) ?_
    obtain ⟨m27, hc, hf⟩ := ic_bd hf
    refine iw_callS (pc' := 70) (S0 := []) (S1 := []) (c1 := 0) (s1 := 0) (k := 5) (ct_X9_copies l κ sw q21 98 (0 : Int32) 100 ((28 : Int32) * (q21 90 12)) (28 : Int32) hc) ms_X9_copies lkm_X9_116 ⟨rfl, rfl⟩ (ic_sum8 trivial (Nat.le_of_ble_eq_true rfl)) (by unfold ic_rm; decide +kernel) ⟨rfl, rfl, rfl⟩ ⟨Nat.le_of_ble_eq_true rfl, Nat.le_of_ble_eq_true rfl⟩ ?_
    refine iw_aload_n (i := 0) (pc' := 71) 0 rfl (by decide +kernel) ?_
    refine iw_dup (pc' := 72) (ic_cat _ _) (by decide +kernel) ?_
    refine iw_geti (pc' := 75) ic_fk9 cO_90 lkf_X9_123 (by decide +kernel) ?_
    refine iw_iconst (i := 1) (v := (1 : Int32)) (pc' := 76) (by decide +kernel) ?_
    refine iw_iadd (pc' := 77) (by decide +kernel) ?_
    refine iw_put (pc' := 80) hf ic_fk9 cO_90 lkf_X9_123 (by decide +kernel) (fun m28 hf => ?_)
    exact iw_vreturn rfl (Option.some.inj hf) (by decide +kernel)
  refine iw_icmp_ne (off := 43) (tg := 49) (pc' := 9) hf (by decide +kernel) (fun hf => ?_) (fun hf => ?_)
  · obtain rfl := Option.some.inj hf
    exact iw_sub [0] rfl hjq21
  · refine iw_iconst (i := 0) (v := (0 : Int32)) (pc' := 10) (by decide +kernel) ?_
    refine iw_istore_n0 (i := 1) (pc' := 11) (L' := [(0, ic_rv κ.1 90), (1, .int (0 : Int32))]) rfl (by decide +kernel) ?_
    obtain ⟨q25, hf, hgq25⟩ := ic_bd hf
    have hjq25 : ic_W l κ MX9_notes ic_X0 (ic_Z κ MX9_notes none 106 (ic_rs sw) R) 39 [(0, ic_rv κ.1 90)] [] 106 (ic_rs sw) q25 0 0 := by
      have hf := hgq25
      refine iw_aload_n (i := 0) (pc' := 40) 0 rfl (by decide +kernel) ?_
      refine iw_dup (pc' := 41) (ic_cat _ _) (by decide +kernel) ?_
      refine iw_geti (pc' := 44) ic_fk9 cO_90 lkf_X9_123 (by decide +kernel) ?_
      refine iw_iconst (i := 1) (v := (1 : Int32)) (pc' := 45) (by decide +kernel) ?_
      refine iw_isub (pc' := 46) (by decide +kernel) ?_
      refine iw_put (pc' := 49) hf ic_fk9 cO_90 lkf_X9_123 (by decide +kernel) (fun m26 hf => ?_)
      obtain rfl := Option.some.inj hf
      exact iw_sub [0] rfl hjq21
    exact iw_sub [0, 1] rfl (lpX9_notes_11_ok l κ sw  hjq25 1000 (0 : Int32) μ hf)
set_option maxRecDepth 100000 in
set_option maxHeartbeats 4000000 in
theorem ct_X9_barred (l : Launch) (κ : ic_K) (sw : Nat) (μ : ic_M) (x1 : Int32) {R : Int32} (hf : fX9_barred μ x1 = some R) : ic_C l κ MX9_barred [ic_rv κ.1 90, .int x1] 106 (ic_rs sw) μ (some (.int R)) 106 (ic_rs sw) μ := by
  refine ic_C.of (L := [(0, ic_rv κ.1 90), (1, .int x1)]) ⟨ic_cat _ _, rfl, trivial⟩ ⟨by decide +kernel, Nat.le_of_ble_eq_true rfl⟩ rfl ?_
  unfold fX9_barred at hf
  refine iw_iload_n (i := 1) (pc' := 1) 1 rfl (by decide +kernel) ?_
  refine iw_iconst (i := 1) (v := (1 : Int32)) (pc' := 2) (by decide +kernel) ?_
  refine iw_bipush (i := 60) (v := (60 : Int32)) (pc' := 4) (by decide +kernel) ?_
  obtain ⟨v21, hc, hf⟩ := ic_bd hf
  refine iw_callS (pc' := 7) (S0 := []) (S1 := [.int v21]) (c1 := 0) (s1 := 0) (k := 3) (ct_X9_in l κ sw μ x1 (1 : Int32) (60 : Int32) hc) ms_X9_in lkm_X9_63 ⟨rfl, rfl⟩ (ic_sum8 trivial (Nat.le_of_ble_eq_true rfl)) (by unfold ic_rm; decide +kernel) ⟨rfl, rfl, rfl⟩ ⟨Nat.le_of_ble_eq_true rfl, Nat.le_of_ble_eq_true rfl⟩ ?_
  obtain ⟨q22, hf, hgq22⟩ := ic_bd hf
  have hjq22 : ic_W l κ MX9_barred ic_X0 (ic_Z κ MX9_barred (some (.int R)) 106 (ic_rs sw) μ) 46 [] [.int q22] 106 (ic_rs sw) μ 0 0 := by
    have hf := hgq22
    exact iw_ireturn (Option.some.inj hf) rfl rfl (by decide +kernel)
  refine iw_if_ne (off := 8) (tg := 15) (pc' := 10) hf (by decide +kernel) (fun hf => ?_) (fun hf => ?_)
  · refine iw_aload_n (i := 0) (pc' := 16) 0 rfl (by decide +kernel) ?_
    obtain ⟨v23, hc, hf⟩ := ic_bd hf
    refine iw_callV (pc' := 19) (S0 := []) (S1 := [.int v23]) (c1 := 0) (s1 := 0) (k := 0) (ct_X9_isRiver l κ sw μ hc) cO_90 ⟨rfl, rfl⟩ mv_X9_isRiver lkm_X9_198 ⟨rfl, rfl⟩ (ic_sum8 trivial (Nat.le_of_ble_eq_true rfl)) (by unfold ic_rm; decide +kernel) ⟨rfl, rfl, rfl⟩ ⟨Nat.le_of_ble_eq_true rfl, Nat.le_of_ble_eq_true rfl⟩ ?_
    refine iw_if_ne (off := 8) (tg := 27) (pc' := 22) hf (by decide +kernel) (fun hf => ?_) (fun hf => ?_)
    · refine iw_aload_n (i := 0) (pc' := 28) 0 rfl (by decide +kernel) ?_
      refine iw_getr (pc' := 31) (q := 98) ic_fk9 cO_90 rfl lkf_X9_35 (by decide +kernel) ?_
      refine iw_bipush (i := 26) (v := (26 : Int32)) (pc' := 33) (by decide +kernel) ?_
      refine iw_iald (pc' := 34) hf (fun _ => cI_98) (by decide +kernel) (fun v24 hf => ?_)
      refine iw_sipush (i := 9000) (v := (9000 : Int32)) (pc' := 37) (by decide +kernel) ?_
      refine iw_icmp_le (off := 8) (tg := 45) (pc' := 40) hf (by decide +kernel) (fun hf => ?_) (fun hf => ?_)
      · refine iw_iconst (i := 0) (v := (0 : Int32)) (pc' := 46) (by decide +kernel) ?_
        obtain rfl := Option.some.inj hf
        exact iw_sub [] rfl hjq22
      · refine iw_ldc (pc' := 42) lkc_X9_71 (by decide +kernel) ?_
        refine iw_goto (off := 4) (pc' := 46) (by decide +kernel) ?_
        obtain rfl := Option.some.inj hf
        exact iw_sub [] rfl hjq22
    · refine iw_ldc (pc' := 24) lkc_X9_202 (by decide +kernel) ?_
      refine iw_goto (off := 22) (pc' := 46) (by decide +kernel) ?_
      obtain rfl := Option.some.inj hf
      exact iw_sub [] rfl hjq22
  · refine iw_ldc (pc' := 12) lkc_X9_67 (by decide +kernel) ?_
    refine iw_goto (off := 34) (pc' := 46) (by decide +kernel) ?_
    obtain rfl := Option.some.inj hf
    exact iw_sub [] rfl hjq22
set_option maxRecDepth 100000 in
set_option maxHeartbeats 4000000 in
theorem lpX9_night_18_ok (l : Launch) (κ : ic_K) (sw : Nat) (x1_ : Int32) {Z : State → List Frame → Array Value → State → Prop} {R : ic_M} (hk : ic_W l κ MX9_night ic_X0 Z 37 [(0, ic_rv κ.1 90)] [] 106 (ic_rs sw) R 0 0) : ∀ (fu : Nat) (y3_ : Int32) (μ : ic_M), lpX9_night_18 x1_ fu y3_ μ = some R → ic_W l κ MX9_night ic_X0 Z 18 [(0, ic_rv κ.1 90), (1, .int x1_), (3, .int y3_)] [] 106 (ic_rs sw) μ 0 0 := by
  intro fu
  induction fu with
  | zero =>
    intro y3_ μ hf
    exact absurd hf (by simp [lpX9_night_18])
  | succ fu ih =>
    intro y3_ μ hf
    rw [lpX9_night_18] at hf
    refine iw_iload_n (i := 3) (pc' := 19) 2 rfl (by decide +kernel) ?_
    refine iw_iload_n (i := 1) (pc' := 20) 1 rfl (by decide +kernel) ?_
    refine iw_icmp_ge (off := 17) (tg := 37) (pc' := 23) hf (by decide +kernel) (fun hf => ?_) (fun hf => ?_)
    · obtain rfl := Option.some.inj hf
      exact iw_sub [0] rfl hk
    · refine iw_aload_n (i := 0) (pc' := 24) 0 rfl (by decide +kernel) ?_
      refine iw_aload_n (i := 0) (pc' := 25) 0 rfl (by decide +kernel) ?_
      refine iw_getr (pc' := 28) (q := 98) ic_fk9 cO_90 rfl lkf_X9_35 (by decide +kernel) ?_
      obtain ⟨m23, hc, hf⟩ := ic_bd hf
      refine iw_callV (pc' := 31) (S0 := []) (S1 := []) (c1 := 0) (s1 := 0) (k := 1) (ct_X9_passes l κ sw μ 98 hc) cO_90 ⟨rfl, rfl⟩ mv_X9_passes lkm_X9_209 ⟨rfl, rfl⟩ (ic_sum8 trivial (Nat.le_of_ble_eq_true rfl)) (by unfold ic_rm; decide +kernel) ⟨rfl, rfl, rfl⟩ ⟨Nat.le_of_ble_eq_true rfl, Nat.le_of_ble_eq_true rfl⟩ ?_
      refine iw_iinc (i := 3) (d := 1) (pc' := 34) (v := (1 : Int32)) (L1 := fun x24 => [(0, ic_rv κ.1 90), (1, .int x1_), (3, .int x24)]) hf 2 rfl (fun _ => rfl) (by decide +kernel) (fun x24 hf => ?_)
      refine iw_goto (off := (-16)) (pc' := 18) (by decide +kernel) ?_
      exact iw_sub [0, 1, 2] rfl (ih _ _ hf)
set_option maxRecDepth 100000 in
set_option maxHeartbeats 4000000 in
theorem ct_X9_night (l : Launch) (κ : ic_K) (sw : Nat) (μ : ic_M) (x1 : Int32) {R : Int32 × ic_M} (hf : fX9_night μ x1 = some R) : ic_C l κ MX9_night [ic_rv κ.1 90, .int x1] 106 (ic_rs sw) μ (some (.int R.1)) 106 (ic_rs sw) R.2 := by
  refine ic_C.of (L := [(0, ic_rv κ.1 90), (1, .int x1)]) ⟨ic_cat _ _, rfl, trivial⟩ ⟨by decide +kernel, Nat.le_of_ble_eq_true rfl⟩ rfl ?_
  unfold fX9_night at hf
  refine iw_aload_n (i := 0) (pc' := 1) 0 rfl (by decide +kernel) ?_
  refine iw_iload_n (i := 1) (pc' := 2) 1 rfl (by decide +kernel) ?_
  obtain ⟨v21, hc, hf⟩ := ic_bd hf
  refine iw_callV (pc' := 5) (S0 := []) (S1 := [.int v21]) (c1 := 0) (s1 := 0) (k := 1) (ct_X9_barred l κ sw μ x1 hc) cO_90 ⟨rfl, rfl⟩ mv_X9_barred lkm_X9_203 ⟨rfl, rfl⟩ (ic_sum8 trivial (Nat.le_of_ble_eq_true rfl)) (by unfold ic_rm; decide +kernel) ⟨rfl, rfl, rfl⟩ ⟨Nat.le_of_ble_eq_true rfl, Nat.le_of_ble_eq_true rfl⟩ ?_
  refine iw_istore_n0 (i := 2) (pc' := 6) (L' := [(0, ic_rv κ.1 90), (1, .int x1), (2, .int v21)]) rfl (by decide +kernel) ?_
  refine iw_iload_n (i := 2) (pc' := 7) 2 rfl (by decide +kernel) ?_
  refine iw_if_eq (off := 5) (tg := 12) (pc' := 10) hf (by decide +kernel) (fun hf => ?_) (fun hf => ?_)
  · refine iw_aload_n (i := 0) (pc' := 13) 0 rfl (by decide +kernel) ?_
    obtain ⟨m22, hc, hf⟩ := ic_bd hf
    refine iw_callV (pc' := 16) (S0 := []) (S1 := []) (c1 := 0) (s1 := 0) (k := 0) (ct_X9_notes l κ sw μ hc) cO_90 ⟨rfl, rfl⟩ mv_X9_notes lkm_X9_206 ⟨rfl, rfl⟩ (ic_sum8 trivial (Nat.le_of_ble_eq_true rfl)) (by unfold ic_rm; decide +kernel) ⟨rfl, rfl, rfl⟩ ⟨Nat.le_of_ble_eq_true rfl, Nat.le_of_ble_eq_true rfl⟩ ?_
    refine iw_iconst (i := 0) (v := (0 : Int32)) (pc' := 17) (by decide +kernel) ?_
    refine iw_istore_n0 (i := 3) (pc' := 18) (L' := [(0, ic_rv κ.1 90), (1, .int x1), (2, .int v21), (3, .int (0 : Int32))]) rfl (by decide +kernel) ?_
    obtain ⟨q25, hf, hgq25⟩ := ic_bd hf
    have hjq25 : ic_W l κ MX9_night ic_X0 (ic_Z κ MX9_night (some (.int R.1)) 106 (ic_rs sw) R.2) 37 [(0, ic_rv κ.1 90)] [] 106 (ic_rs sw) q25 0 0 := by
      have hf := hgq25
      refine iw_aload_n (i := 0) (pc' := 38) 0 rfl (by decide +kernel) ?_
      refine iw_getr (pc' := 41) (q := 98) ic_fk9 cO_90 rfl lkf_X9_35 (by decide +kernel) ?_
      refine iw_bipush (i := 26) (v := (26 : Int32)) (pc' := 43) (by decide +kernel) ?_
      refine iw_iald (pc' := 44) hf (fun _ => cI_98) (by decide +kernel) (fun v26 hf => ?_)
      exact iw_ireturn (ic_q1 (Option.some.inj hf)) rfl (ic_q2 (Option.some.inj hf)) (by decide +kernel)
    exact iw_sub [0, 1, 3] rfl (lpX9_night_18_ok l κ sw x1 hjq25 1000 (0 : Int32) m22 hf)
  · refine iw_iload_n (i := 2) (pc' := 11) 2 rfl (by decide +kernel) ?_
    exact iw_ireturn (ic_q1 (Option.some.inj hf)) rfl (ic_q2 (Option.some.inj hf)) (by decide +kernel)
set_option maxRecDepth 100000 in
set_option maxHeartbeats 4000000 in
theorem ct_X9_step (l : Launch) (κ : ic_K) (sw : Nat) (μ : ic_M) (x1 : Int32) (x2 : Int32) {R : Int32 × ic_M} (hf : fX9_step μ x1 x2 = some R) : ic_C l κ MX9_step [ic_rv κ.1 90, .int x1, .int x2] 106 (ic_rs sw) μ (some (.int R.1)) 106 (ic_rs sw) R.2 := by
  refine ic_C.of (L := [(0, ic_rv κ.1 90), (1, .int x1), (2, .int x2)]) ⟨ic_cat _ _, rfl, rfl, trivial⟩ ⟨by decide +kernel, Nat.le_of_ble_eq_true rfl⟩ rfl ?_
  unfold fX9_step at hf
  refine iw_aload_n (i := 0) (pc' := 1) 0 rfl (by decide +kernel) ?_
  refine iw_iload_n (i := 1) (pc' := 2) 1 rfl (by decide +kernel) ?_
  obtain ⟨v21, hc, hf⟩ := ic_bd hf
  refine iw_callV (pc' := 5) (S0 := []) (S1 := [.int v21]) (c1 := 0) (s1 := 0) (k := 1) (ct_X9_isPerson l κ sw μ x1 hc) cO_90 ⟨rfl, rfl⟩ mv_X9_isPerson lkm_X9_195 ⟨rfl, rfl⟩ (ic_sum8 trivial (Nat.le_of_ble_eq_true rfl)) (by unfold ic_rm; decide +kernel) ⟨rfl, rfl, rfl⟩ ⟨Nat.le_of_ble_eq_true rfl, Nat.le_of_ble_eq_true rfl⟩ ?_
  refine iw_if_eq (off := 16) (tg := 21) (pc' := 8) hf (by decide +kernel) (fun hf => ?_) (fun hf => ?_)
  · refine iw_ldc (pc' := 23) lkc_X9_194 (by decide +kernel) ?_
    exact iw_ireturn (ic_q1 (Option.some.inj hf)) rfl (ic_q2 (Option.some.inj hf)) (by decide +kernel)
  · refine iw_iload_n (i := 2) (pc' := 9) 2 rfl (by decide +kernel) ?_
    refine iw_iconst (i := (-1)) (v := (-1 : Int32)) (pc' := 10) (by decide +kernel) ?_
    refine iw_icmp_eq (off := 14) (tg := 24) (pc' := 13) hf (by decide +kernel) (fun hf => ?_) (fun hf => ?_)
    · refine iw_aload_n (i := 0) (pc' := 25) 0 rfl (by decide +kernel) ?_
      refine iw_aload_n (i := 0) (pc' := 26) 0 rfl (by decide +kernel) ?_
      refine iw_getr (pc' := 29) (q := 98) ic_fk9 cO_90 rfl lkf_X9_35 (by decide +kernel) ?_
      refine iw_iload_n (i := 1) (pc' := 30) 1 rfl (by decide +kernel) ?_
      refine iw_iload_n (i := 2) (pc' := 31) 2 rfl (by decide +kernel) ?_
      obtain ⟨v22, hc, hf⟩ := ic_bd hf
      refine iw_callV (pc' := 34) (S0 := []) (S1 := [.int v22]) (c1 := 0) (s1 := 0) (k := 3) (ct_X9_canGo l κ sw μ 98 x1 x2 hc) cO_90 ⟨rfl, rfl⟩ mv_X9_canGo lkm_X9_212 ⟨rfl, rfl⟩ (ic_sum8 trivial (Nat.le_of_ble_eq_true rfl)) (by unfold ic_rm; decide +kernel) ⟨rfl, rfl, rfl⟩ ⟨Nat.le_of_ble_eq_true rfl, Nat.le_of_ble_eq_true rfl⟩ ?_
      refine iw_if_ne (off := 6) (tg := 40) (pc' := 37) hf (by decide +kernel) (fun hf => ?_) (fun hf => ?_)
      · refine iw_aload_n (i := 0) (pc' := 41) 0 rfl (by decide +kernel) ?_
        obtain ⟨m23, hc, hf⟩ := ic_bd hf
        refine iw_callV (pc' := 44) (S0 := []) (S1 := []) (c1 := 0) (s1 := 0) (k := 0) (ct_X9_notes l κ sw μ hc) cO_90 ⟨rfl, rfl⟩ mv_X9_notes lkm_X9_206 ⟨rfl, rfl⟩ (ic_sum8 trivial (Nat.le_of_ble_eq_true rfl)) (by unfold ic_rm; decide +kernel) ⟨rfl, rfl, rfl⟩ ⟨Nat.le_of_ble_eq_true rfl, Nat.le_of_ble_eq_true rfl⟩ ?_
        refine iw_aload_n (i := 0) (pc' := 45) 0 rfl (by decide +kernel) ?_
        refine iw_aload_n (i := 0) (pc' := 46) 0 rfl (by decide +kernel) ?_
        refine iw_getr (pc' := 49) (q := 98) ic_fk9 cO_90 rfl lkf_X9_35 (by decide +kernel) ?_
        refine iw_iload_n (i := 1) (pc' := 50) 1 rfl (by decide +kernel) ?_
        refine iw_iload_n (i := 2) (pc' := 51) 2 rfl (by decide +kernel) ?_
        obtain ⟨q24, hc, hf⟩ := ic_bd hf
        refine iw_callV (pc' := 54) (S0 := []) (S1 := [.int q24.1]) (c1 := 0) (s1 := 0) (k := 3) (ct_X9_steps l κ sw m23 98 x1 x2 hc) cO_90 ⟨rfl, rfl⟩ mv_X9_steps lkm_X9_216 ⟨rfl, rfl⟩ (ic_sum8 trivial (Nat.le_of_ble_eq_true rfl)) (by unfold ic_rm; decide +kernel) ⟨rfl, rfl, rfl⟩ ⟨Nat.le_of_ble_eq_true rfl, Nat.le_of_ble_eq_true rfl⟩ ?_
        exact iw_ireturn (ic_q1 (Option.some.inj hf)) rfl (ic_q2 (Option.some.inj hf)) (by decide +kernel)
      · refine iw_ldc (pc' := 39) lkc_X9_202 (by decide +kernel) ?_
        exact iw_ireturn (ic_q1 (Option.some.inj hf)) rfl (ic_q2 (Option.some.inj hf)) (by decide +kernel)
    · refine iw_aload_n (i := 0) (pc' := 14) 0 rfl (by decide +kernel) ?_
      refine iw_iload_n (i := 2) (pc' := 15) 2 rfl (by decide +kernel) ?_
      obtain ⟨v25, hc, hf⟩ := ic_bd hf
      refine iw_callV (pc' := 18) (S0 := []) (S1 := [.int v25]) (c1 := 0) (s1 := 0) (k := 1) (ct_X9_isCell l κ sw μ x2 hc) cO_90 ⟨rfl, rfl⟩ mv_X9_isCell lkm_X9_190 ⟨rfl, rfl⟩ (ic_sum8 trivial (Nat.le_of_ble_eq_true rfl)) (by unfold ic_rm; decide +kernel) ⟨rfl, rfl, rfl⟩ ⟨Nat.le_of_ble_eq_true rfl, Nat.le_of_ble_eq_true rfl⟩ ?_
      refine iw_if_ne (off := 6) (tg := 24) (pc' := 21) hf (by decide +kernel) (fun hf => ?_) (fun hf => ?_)
      · refine iw_aload_n (i := 0) (pc' := 25) 0 rfl (by decide +kernel) ?_
        refine iw_aload_n (i := 0) (pc' := 26) 0 rfl (by decide +kernel) ?_
        refine iw_getr (pc' := 29) (q := 98) ic_fk9 cO_90 rfl lkf_X9_35 (by decide +kernel) ?_
        refine iw_iload_n (i := 1) (pc' := 30) 1 rfl (by decide +kernel) ?_
        refine iw_iload_n (i := 2) (pc' := 31) 2 rfl (by decide +kernel) ?_
        obtain ⟨v26, hc, hf⟩ := ic_bd hf
        refine iw_callV (pc' := 34) (S0 := []) (S1 := [.int v26]) (c1 := 0) (s1 := 0) (k := 3) (ct_X9_canGo l κ sw μ 98 x1 x2 hc) cO_90 ⟨rfl, rfl⟩ mv_X9_canGo lkm_X9_212 ⟨rfl, rfl⟩ (ic_sum8 trivial (Nat.le_of_ble_eq_true rfl)) (by unfold ic_rm; decide +kernel) ⟨rfl, rfl, rfl⟩ ⟨Nat.le_of_ble_eq_true rfl, Nat.le_of_ble_eq_true rfl⟩ ?_
        refine iw_if_ne (off := 6) (tg := 40) (pc' := 37) hf (by decide +kernel) (fun hf => ?_) (fun hf => ?_)
        · refine iw_aload_n (i := 0) (pc' := 41) 0 rfl (by decide +kernel) ?_
          obtain ⟨m27, hc, hf⟩ := ic_bd hf
          refine iw_callV (pc' := 44) (S0 := []) (S1 := []) (c1 := 0) (s1 := 0) (k := 0) (ct_X9_notes l κ sw μ hc) cO_90 ⟨rfl, rfl⟩ mv_X9_notes lkm_X9_206 ⟨rfl, rfl⟩ (ic_sum8 trivial (Nat.le_of_ble_eq_true rfl)) (by unfold ic_rm; decide +kernel) ⟨rfl, rfl, rfl⟩ ⟨Nat.le_of_ble_eq_true rfl, Nat.le_of_ble_eq_true rfl⟩ ?_
          refine iw_aload_n (i := 0) (pc' := 45) 0 rfl (by decide +kernel) ?_
          refine iw_aload_n (i := 0) (pc' := 46) 0 rfl (by decide +kernel) ?_
          refine iw_getr (pc' := 49) (q := 98) ic_fk9 cO_90 rfl lkf_X9_35 (by decide +kernel) ?_
          refine iw_iload_n (i := 1) (pc' := 50) 1 rfl (by decide +kernel) ?_
          refine iw_iload_n (i := 2) (pc' := 51) 2 rfl (by decide +kernel) ?_
          obtain ⟨q28, hc, hf⟩ := ic_bd hf
          refine iw_callV (pc' := 54) (S0 := []) (S1 := [.int q28.1]) (c1 := 0) (s1 := 0) (k := 3) (ct_X9_steps l κ sw m27 98 x1 x2 hc) cO_90 ⟨rfl, rfl⟩ mv_X9_steps lkm_X9_216 ⟨rfl, rfl⟩ (ic_sum8 trivial (Nat.le_of_ble_eq_true rfl)) (by unfold ic_rm; decide +kernel) ⟨rfl, rfl, rfl⟩ ⟨Nat.le_of_ble_eq_true rfl, Nat.le_of_ble_eq_true rfl⟩ ?_
          exact iw_ireturn (ic_q1 (Option.some.inj hf)) rfl (ic_q2 (Option.some.inj hf)) (by decide +kernel)
        · refine iw_ldc (pc' := 39) lkc_X9_202 (by decide +kernel) ?_
          exact iw_ireturn (ic_q1 (Option.some.inj hf)) rfl (ic_q2 (Option.some.inj hf)) (by decide +kernel)
      · refine iw_ldc (pc' := 23) lkc_X9_194 (by decide +kernel) ?_
        exact iw_ireturn (ic_q1 (Option.some.inj hf)) rfl (ic_q2 (Option.some.inj hf)) (by decide +kernel)
set_option maxRecDepth 100000 in
set_option maxHeartbeats 4000000 in
theorem ct_X9_salt (l : Launch) (κ : ic_K) (sw : Nat) (μ : ic_M) (x1 : Int32) (x2 : Int32) (x3 : Int32) {R : Int32 × ic_M} (hf : fX9_salt μ x1 x2 x3 = some R) : ic_C l κ MX9_salt [ic_rv κ.1 90, .int x1, .int x2, .int x3] 106 (ic_rs sw) μ (some (.int R.1)) 106 (ic_rs sw) R.2 := by
  refine ic_C.of (L := [(0, ic_rv κ.1 90), (1, .int x1), (2, .int x2), (3, .int x3)]) ⟨ic_cat _ _, rfl, rfl, rfl, trivial⟩ ⟨by decide +kernel, Nat.le_of_ble_eq_true rfl⟩ rfl ?_
  unfold fX9_salt at hf
  refine iw_aload_n (i := 0) (pc' := 1) 0 rfl (by decide +kernel) ?_
  refine iw_iload_n (i := 2) (pc' := 2) 2 rfl (by decide +kernel) ?_
  obtain ⟨v21, hc, hf⟩ := ic_bd hf
  refine iw_callV (pc' := 5) (S0 := []) (S1 := [.int v21]) (c1 := 0) (s1 := 0) (k := 1) (ct_X9_isCell l κ sw μ x2 hc) cO_90 ⟨rfl, rfl⟩ mv_X9_isCell lkm_X9_190 ⟨rfl, rfl⟩ (ic_sum8 trivial (Nat.le_of_ble_eq_true rfl)) (by unfold ic_rm; decide +kernel) ⟨rfl, rfl, rfl⟩ ⟨Nat.le_of_ble_eq_true rfl, Nat.le_of_ble_eq_true rfl⟩ ?_
  refine iw_if_ne (off := 6) (tg := 11) (pc' := 8) hf (by decide +kernel) (fun hf => ?_) (fun hf => ?_)
  · refine iw_iload_n (i := 1) (pc' := 12) 1 rfl (by decide +kernel) ?_
    refine iw_iconst (i := 0) (v := (0 : Int32)) (pc' := 13) (by decide +kernel) ?_
    refine iw_iconst (i := 1) (v := (1 : Int32)) (pc' := 14) (by decide +kernel) ?_
    obtain ⟨v22, hc, hf⟩ := ic_bd hf
    refine iw_callS (pc' := 17) (S0 := []) (S1 := [.int v22]) (c1 := 0) (s1 := 0) (k := 3) (ct_X9_in l κ sw μ x1 (0 : Int32) (1 : Int32) hc) ms_X9_in lkm_X9_63 ⟨rfl, rfl⟩ (ic_sum8 trivial (Nat.le_of_ble_eq_true rfl)) (by unfold ic_rm; decide +kernel) ⟨rfl, rfl, rfl⟩ ⟨Nat.le_of_ble_eq_true rfl, Nat.le_of_ble_eq_true rfl⟩ ?_
    refine iw_if_eq (off := 13) (tg := 30) (pc' := 20) hf (by decide +kernel) (fun hf => ?_) (fun hf => ?_)
    · refine iw_ldc (pc' := 32) lkc_X9_67 (by decide +kernel) ?_
      exact iw_ireturn (ic_q1 (Option.some.inj hf)) rfl (ic_q2 (Option.some.inj hf)) (by decide +kernel)
    · refine iw_iload_n (i := 3) (pc' := 21) 3 rfl (by decide +kernel) ?_
      refine iw_iconst (i := 1) (v := (1 : Int32)) (pc' := 22) (by decide +kernel) ?_
      refine iw_bipush (i := 60) (v := (60 : Int32)) (pc' := 24) (by decide +kernel) ?_
      obtain ⟨v23, hc, hf⟩ := ic_bd hf
      refine iw_callS (pc' := 27) (S0 := []) (S1 := [.int v23]) (c1 := 0) (s1 := 0) (k := 3) (ct_X9_in l κ sw μ x3 (1 : Int32) (60 : Int32) hc) ms_X9_in lkm_X9_63 ⟨rfl, rfl⟩ (ic_sum8 trivial (Nat.le_of_ble_eq_true rfl)) (by unfold ic_rm; decide +kernel) ⟨rfl, rfl, rfl⟩ ⟨Nat.le_of_ble_eq_true rfl, Nat.le_of_ble_eq_true rfl⟩ ?_
      refine iw_if_ne (off := 6) (tg := 33) (pc' := 30) hf (by decide +kernel) (fun hf => ?_) (fun hf => ?_)
      · refine iw_aload_n (i := 0) (pc' := 34) 0 rfl (by decide +kernel) ?_
        refine iw_getr (pc' := 37) (q := 98) ic_fk9 cO_90 rfl lkf_X9_35 (by decide +kernel) ?_
        refine iw_iload_n (i := 2) (pc' := 38) 2 rfl (by decide +kernel) ?_
        refine iw_iald (pc' := 39) hf (fun _ => cI_98) (by decide +kernel) (fun v24 hf => ?_)
        refine iw_if_ne (off := 6) (tg := 45) (pc' := 42) hf (by decide +kernel) (fun hf => ?_) (fun hf => ?_)
        · refine iw_aload_n (i := 0) (pc' := 46) 0 rfl (by decide +kernel) ?_
          obtain ⟨m25, hc, hf⟩ := ic_bd hf
          refine iw_callV (pc' := 49) (S0 := []) (S1 := []) (c1 := 0) (s1 := 0) (k := 0) (ct_X9_notes l κ sw μ hc) cO_90 ⟨rfl, rfl⟩ mv_X9_notes lkm_X9_206 ⟨rfl, rfl⟩ (ic_sum8 trivial (Nat.le_of_ble_eq_true rfl)) (by unfold ic_rm; decide +kernel) ⟨rfl, rfl, rfl⟩ ⟨Nat.le_of_ble_eq_true rfl, Nat.le_of_ble_eq_true rfl⟩ ?_
          refine iw_aload_n (i := 0) (pc' := 50) 0 rfl (by decide +kernel) ?_
          refine iw_getr (pc' := 53) (q := 98) ic_fk9 cO_90 rfl lkf_X9_35 (by decide +kernel) ?_
          refine iw_iload_n (i := 2) (pc' := 54) 2 rfl (by decide +kernel) ?_
          refine iw_iload_n (i := 3) (pc' := 55) 3 rfl (by decide +kernel) ?_
          refine iw_aload_n (i := 0) (pc' := 56) 0 rfl (by decide +kernel) ?_
          refine iw_getr (pc' := 59) (q := 98) ic_fk9 cO_90 rfl lkf_X9_35 (by decide +kernel) ?_
          refine iw_iload_n (i := 2) (pc' := 60) 2 rfl (by decide +kernel) ?_
          refine iw_iald (pc' := 61) hf (fun _ => cI_98) (by decide +kernel) (fun v26 hf => ?_)
          obtain ⟨q27, hf, hgq27⟩ := ic_bd hf
          have hjq27 : ic_W l κ MX9_salt ic_X0 (ic_Z κ MX9_salt (some (.int R.1)) 106 (ic_rs sw) R.2) 76 [(0, ic_rv κ.1 90), (1, .int x1), (2, .int x2)] [.int q27, .int x2, ic_rv κ.1 98] 106 (ic_rs sw) m25 0 0 := by
            have hf := hgq27
            refine iw_iast (pc' := 77) hf (fun _ => cI_98) (by decide +kernel) (fun m29 hf => ?_)
            refine iw_aload_n (i := 0) (pc' := 78) 0 rfl (by decide +kernel) ?_
            refine iw_getr (pc' := 81) (q := 98) ic_fk9 cO_90 rfl lkf_X9_35 (by decide +kernel) ?_
            refine iw_iload_n (i := 2) (pc' := 82) 2 rfl (by decide +kernel) ?_
            refine iw_iald (pc' := 83) hf (fun _ => cI_98) (by decide +kernel) (fun v30 hf => ?_)
            obtain ⟨q31, hf, hgq31⟩ := ic_bd hf
            have hjq31 : ic_W l κ MX9_salt ic_X0 (ic_Z κ MX9_salt (some (.int R.1)) 106 (ic_rs sw) R.2) 91 [(0, ic_rv κ.1 90), (1, .int x1)] [.int q31] 106 (ic_rs sw) m29 0 0 := by
              have hf := hgq31
              refine iw_istore0 (i := 4) (pc' := 93) (L' := [(0, ic_rv κ.1 90), (1, .int x1), (4, .int q31)]) rfl (by decide +kernel) ?_
              refine iw_aload_n (i := 0) (pc' := 94) 0 rfl (by decide +kernel) ?_
              refine iw_getr (pc' := 97) (q := 98) ic_fk9 cO_90 rfl lkf_X9_35 (by decide +kernel) ?_
              refine iw_iload_n (i := 1) (pc' := 98) 1 rfl (by decide +kernel) ?_
              refine iw_iload (i := 4) (pc' := 100) 2 rfl (by decide +kernel) ?_
              obtain ⟨m32, hc, hf⟩ := ic_bd hf
              refine iw_callS (pc' := 103) (S0 := []) (S1 := []) (c1 := 0) (s1 := 0) (k := 3) (ct_X9_owns l κ sw m29 98 x1 q31 hc) ms_X9_owns lkm_X9_150 ⟨rfl, rfl⟩ (ic_sum8 trivial (Nat.le_of_ble_eq_true rfl)) (by unfold ic_rm; decide +kernel) ⟨rfl, rfl, rfl⟩ ⟨Nat.le_of_ble_eq_true rfl, Nat.le_of_ble_eq_true rfl⟩ ?_
              refine iw_aload_n (i := 0) (pc' := 104) 0 rfl (by decide +kernel) ?_
              refine iw_aload_n (i := 0) (pc' := 105) 0 rfl (by decide +kernel) ?_
              refine iw_getr (pc' := 108) (q := 98) ic_fk9 cO_90 rfl lkf_X9_35 (by decide +kernel) ?_
              obtain ⟨m33, hc, hf⟩ := ic_bd hf
              refine iw_callV (pc' := 111) (S0 := []) (S1 := []) (c1 := 0) (s1 := 0) (k := 1) (ct_X9_drowns l κ sw m32 98 hc) cO_90 ⟨rfl, rfl⟩ mv_X9_drowns lkm_X9_167 ⟨rfl, rfl⟩ (ic_sum8 trivial (Nat.le_of_ble_eq_true rfl)) (by unfold ic_rm; decide +kernel) ⟨rfl, rfl, rfl⟩ ⟨Nat.le_of_ble_eq_true rfl, Nat.le_of_ble_eq_true rfl⟩ ?_
              refine iw_iload (i := 4) (pc' := 113) 2 rfl (by decide +kernel) ?_
              refine iw_aload_n (i := 0) (pc' := 114) 0 rfl (by decide +kernel) ?_
              refine iw_aload_n (i := 0) (pc' := 115) 0 rfl (by decide +kernel) ?_
              refine iw_getr (pc' := 118) (q := 98) ic_fk9 cO_90 rfl lkf_X9_35 (by decide +kernel) ?_
              refine iw_iload_n (i := 1) (pc' := 119) 1 rfl (by decide +kernel) ?_
              obtain ⟨q34, hc, hf⟩ := ic_bd hf
              refine iw_callV (pc' := 122) (S0 := [.int q31]) (S1 := [.int q34.1, .int q31]) (c1 := 0) (s1 := 0) (k := 2) (ct_X9_breaks l κ sw m33 98 x1 hc) cO_90 ⟨rfl, rfl⟩ mv_X9_breaks lkm_X9_158 ⟨rfl, rfl⟩ (ic_sum8 ⟨rfl, trivial⟩ (Nat.le_of_ble_eq_true rfl)) (by unfold ic_rm; decide +kernel) ⟨rfl, rfl, rfl⟩ ⟨Nat.le_of_ble_eq_true rfl, Nat.le_of_ble_eq_true rfl⟩ ?_
              refine iw_iadd (pc' := 123) (by decide +kernel) ?_
              exact iw_ireturn (ic_q1 (Option.some.inj hf)) rfl (ic_q2 (Option.some.inj hf)) (by decide +kernel)
            refine iw_if_ne (off := 7) (tg := 90) (pc' := 86) hf (by decide +kernel) (fun hf => ?_) (fun hf => ?_)
            · refine iw_iconst (i := 0) (v := (0 : Int32)) (pc' := 91) (by decide +kernel) ?_
              obtain rfl := Option.some.inj hf
              exact iw_sub [0, 1] rfl hjq31
            · refine iw_iconst (i := 1) (v := (1 : Int32)) (pc' := 87) (by decide +kernel) ?_
              refine iw_goto (off := 4) (pc' := 91) (by decide +kernel) ?_
              obtain rfl := Option.some.inj hf
              exact iw_sub [0, 1] rfl hjq31
          refine iw_icmp_le (off := 7) (tg := 68) (pc' := 64) hf (by decide +kernel) (fun hf => ?_) (fun hf => ?_)
          · refine iw_aload_n (i := 0) (pc' := 69) 0 rfl (by decide +kernel) ?_
            refine iw_getr (pc' := 72) (q := 98) ic_fk9 cO_90 rfl lkf_X9_35 (by decide +kernel) ?_
            refine iw_iload_n (i := 2) (pc' := 73) 2 rfl (by decide +kernel) ?_
            refine iw_iald (pc' := 74) hf (fun _ => cI_98) (by decide +kernel) (fun v28 hf => ?_)
            refine iw_iload_n (i := 3) (pc' := 75) 3 rfl (by decide +kernel) ?_
            refine iw_isub (pc' := 76) (by decide +kernel) ?_
            obtain rfl := Option.some.inj hf
            exact iw_sub [0, 1, 2] rfl hjq27
          · refine iw_iconst (i := 0) (v := (0 : Int32)) (pc' := 65) (by decide +kernel) ?_
            refine iw_goto (off := 11) (pc' := 76) (by decide +kernel) ?_
            obtain rfl := Option.some.inj hf
            exact iw_sub [0, 1, 2] rfl hjq27
        · refine iw_ldc (pc' := 44) lkc_X9_202 (by decide +kernel) ?_
          exact iw_ireturn (ic_q1 (Option.some.inj hf)) rfl (ic_q2 (Option.some.inj hf)) (by decide +kernel)
      · refine iw_ldc (pc' := 32) lkc_X9_67 (by decide +kernel) ?_
        exact iw_ireturn (ic_q1 (Option.some.inj hf)) rfl (ic_q2 (Option.some.inj hf)) (by decide +kernel)
  · refine iw_ldc (pc' := 10) lkc_X9_194 (by decide +kernel) ?_
    exact iw_ireturn (ic_q1 (Option.some.inj hf)) rfl (ic_q2 (Option.some.inj hf)) (by decide +kernel)
set_option maxRecDepth 100000 in
set_option maxHeartbeats 4000000 in
theorem ct_X9_snow (l : Launch) (κ : ic_K) (sw : Nat) (μ : ic_M) (x1 : Int32) (x2 : Int32) {R : Int32 × ic_M} (hf : fX9_snow μ x1 x2 = some R) : ic_C l κ MX9_snow [ic_rv κ.1 90, .int x1, .int x2] 106 (ic_rs sw) μ (some (.int R.1)) 106 (ic_rs sw) R.2 := by
  refine ic_C.of (L := [(0, ic_rv κ.1 90), (1, .int x1), (2, .int x2)]) ⟨ic_cat _ _, rfl, rfl, trivial⟩ ⟨by decide +kernel, Nat.le_of_ble_eq_true rfl⟩ rfl ?_
  unfold fX9_snow at hf
  refine iw_aload_n (i := 0) (pc' := 1) 0 rfl (by decide +kernel) ?_
  refine iw_iload_n (i := 1) (pc' := 2) 1 rfl (by decide +kernel) ?_
  obtain ⟨v21, hc, hf⟩ := ic_bd hf
  refine iw_callV (pc' := 5) (S0 := []) (S1 := [.int v21]) (c1 := 0) (s1 := 0) (k := 1) (ct_X9_isCell l κ sw μ x1 hc) cO_90 ⟨rfl, rfl⟩ mv_X9_isCell lkm_X9_190 ⟨rfl, rfl⟩ (ic_sum8 trivial (Nat.le_of_ble_eq_true rfl)) (by unfold ic_rm; decide +kernel) ⟨rfl, rfl, rfl⟩ ⟨Nat.le_of_ble_eq_true rfl, Nat.le_of_ble_eq_true rfl⟩ ?_
  refine iw_if_ne (off := 6) (tg := 11) (pc' := 8) hf (by decide +kernel) (fun hf => ?_) (fun hf => ?_)
  · refine iw_aload_n (i := 0) (pc' := 12) 0 rfl (by decide +kernel) ?_
    obtain ⟨m22, hc, hf⟩ := ic_bd hf
    refine iw_callV (pc' := 15) (S0 := []) (S1 := []) (c1 := 0) (s1 := 0) (k := 0) (ct_X9_notes l κ sw μ hc) cO_90 ⟨rfl, rfl⟩ mv_X9_notes lkm_X9_206 ⟨rfl, rfl⟩ (ic_sum8 trivial (Nat.le_of_ble_eq_true rfl)) (by unfold ic_rm; decide +kernel) ⟨rfl, rfl, rfl⟩ ⟨Nat.le_of_ble_eq_true rfl, Nat.le_of_ble_eq_true rfl⟩ ?_
    refine iw_aload_n (i := 0) (pc' := 16) 0 rfl (by decide +kernel) ?_
    refine iw_getr (pc' := 19) (q := 98) ic_fk9 cO_90 rfl lkf_X9_35 (by decide +kernel) ?_
    refine iw_bipush (i := 24) (v := (24 : Int32)) (pc' := 21) (by decide +kernel) ?_
    refine iw_iald (pc' := 22) hf (fun _ => cI_98) (by decide +kernel) (fun v23 hf => ?_)
    refine iw_iload_n (i := 1) (pc' := 23) 1 rfl (by decide +kernel) ?_
    refine iw_ishr (pc' := 24) (by decide +kernel) ?_
    refine iw_iconst (i := 1) (v := (1 : Int32)) (pc' := 25) (by decide +kernel) ?_
    refine iw_iand (pc' := 26) (by decide +kernel) ?_
    refine iw_istore_n (i := 3) (pc' := 27) (L1 := fun x24 => [(0, ic_rv κ.1 90), (1, .int x1), (2, .int x2), (3, .int x24)]) hf (fun _ => rfl) (by decide +kernel) (fun x24 hf => ?_)
    refine iw_aload_n (i := 0) (pc' := 28) 0 rfl (by decide +kernel) ?_
    refine iw_getr (pc' := 31) (q := 98) ic_fk9 cO_90 rfl lkf_X9_35 (by decide +kernel) ?_
    refine iw_bipush (i := 24) (v := (24 : Int32)) (pc' := 33) (by decide +kernel) ?_
    refine iw_iload_n (i := 2) (pc' := 34) 2 rfl (by decide +kernel) ?_
    obtain ⟨q25, hf, hgq25⟩ := ic_bd hf
    have hjq25 : ic_W l κ MX9_snow ic_X0 (ic_Z κ MX9_snow (some (.int R.1)) 106 (ic_rs sw) R.2) 64 [(3, .int x24)] [.int q25, .int (24 : Int32), ic_rv κ.1 98] 106 (ic_rs sw) m22 0 0 := by
      have hf := hgq25
      refine iw_iast (pc' := 65) hf (fun _ => cI_98) (by decide +kernel) (fun m28 hf => ?_)
      refine iw_iload_n (i := 3) (pc' := 66) 0 rfl (by decide +kernel) ?_
      exact iw_ireturn (ic_q1 (Option.some.inj hf)) rfl (ic_q2 (Option.some.inj hf)) (by decide +kernel)
    refine iw_if_eq (off := 17) (tg := 51) (pc' := 37) hf (by decide +kernel) (fun hf => ?_) (fun hf => ?_)
    · refine iw_aload_n (i := 0) (pc' := 52) 0 rfl (by decide +kernel) ?_
      refine iw_getr (pc' := 55) (q := 98) ic_fk9 cO_90 rfl lkf_X9_35 (by decide +kernel) ?_
      refine iw_bipush (i := 24) (v := (24 : Int32)) (pc' := 57) (by decide +kernel) ?_
      refine iw_iald (pc' := 58) hf (fun _ => cI_98) (by decide +kernel) (fun v26 hf => ?_)
      refine iw_iconst (i := 1) (v := (1 : Int32)) (pc' := 59) (by decide +kernel) ?_
      refine iw_iload_n (i := 1) (pc' := 60) 1 rfl (by decide +kernel) ?_
      refine iw_ishl (pc' := 61) (by decide +kernel) ?_
      refine iw_iconst (i := (-1)) (v := (-1 : Int32)) (pc' := 62) (by decide +kernel) ?_
      refine iw_ixor (pc' := 63) (by decide +kernel) ?_
      refine iw_iand (pc' := 64) (by decide +kernel) ?_
      obtain rfl := Option.some.inj hf
      exact iw_sub [3] rfl hjq25
    · refine iw_aload_n (i := 0) (pc' := 38) 0 rfl (by decide +kernel) ?_
      refine iw_getr (pc' := 41) (q := 98) ic_fk9 cO_90 rfl lkf_X9_35 (by decide +kernel) ?_
      refine iw_bipush (i := 24) (v := (24 : Int32)) (pc' := 43) (by decide +kernel) ?_
      refine iw_iald (pc' := 44) hf (fun _ => cI_98) (by decide +kernel) (fun v27 hf => ?_)
      refine iw_iconst (i := 1) (v := (1 : Int32)) (pc' := 45) (by decide +kernel) ?_
      refine iw_iload_n (i := 1) (pc' := 46) 1 rfl (by decide +kernel) ?_
      refine iw_ishl (pc' := 47) (by decide +kernel) ?_
      refine iw_ior (pc' := 48) (by decide +kernel) ?_
      refine iw_goto (off := 16) (pc' := 64) (by decide +kernel) ?_
      obtain rfl := Option.some.inj hf
      exact iw_sub [3] rfl hjq25
  · refine iw_ldc (pc' := 10) lkc_X9_194 (by decide +kernel) ?_
    exact iw_ireturn (ic_q1 (Option.some.inj hf)) rfl (ic_q2 (Option.some.inj hf)) (by decide +kernel)
set_option maxRecDepth 100000 in
set_option maxHeartbeats 4000000 in
theorem lpX9_spring_32_ok (l : Launch) (κ : ic_K) (sw : Nat) (x1_ : Int32) {Z : State → List Frame → Array Value → State → Prop} {R : ic_M} (hk : ic_W l κ MX9_spring ic_X0 Z 77 [(1, .int x1_)] [] 106 (ic_rs sw) R 0 0) : ∀ (fu : Nat) (y2_ : Int32) (μ : ic_M), lpX9_spring_32 x1_ fu y2_ μ = some R → ic_W l κ MX9_spring ic_X0 Z 32 [(0, ic_rv κ.1 90), (1, .int x1_), (2, .int y2_)] [] 106 (ic_rs sw) μ 0 0 := by
  intro fu
  induction fu with
  | zero =>
    intro y2_ μ hf
    exact absurd hf (by simp [lpX9_spring_32])
  | succ fu ih =>
    intro y2_ μ hf
    rw [lpX9_spring_32] at hf
    refine iw_iload_n (i := 2) (pc' := 33) 2 rfl (by decide +kernel) ?_
    refine iw_aload_n (i := 0) (pc' := 34) 0 rfl (by decide +kernel) ?_
    refine iw_getr (pc' := 37) (q := 92) ic_fk9 cO_90 rfl lkf_X9_17 (by decide +kernel) ?_
    refine iw_iconst (i := 3) (v := (3 : Int32)) (pc' := 38) (by decide +kernel) ?_
    refine iw_iald (pc' := 39) hf (fun _ => cI_92) (by decide +kernel) (fun v25 hf => ?_)
    refine iw_icmp_ge (off := 38) (tg := 77) (pc' := 42) hf (by decide +kernel) (fun hf => ?_) (fun hf => ?_)
    · obtain rfl := Option.some.inj hf
      exact iw_sub [1] rfl hk
    · refine iw_aload_n (i := 0) (pc' := 43) 0 rfl (by decide +kernel) ?_
      refine iw_getr (pc' := 46) (q := 98) ic_fk9 cO_90 rfl lkf_X9_35 (by decide +kernel) ?_
      refine iw_bipush (i := 18) (v := (18 : Int32)) (pc' := 48) (by decide +kernel) ?_
      refine iw_iload_n (i := 2) (pc' := 49) 2 rfl (by decide +kernel) ?_
      refine iw_iadd (pc' := 50) (by decide +kernel) ?_
      refine iw_aload_n (i := 0) (pc' := 51) 0 rfl (by decide +kernel) ?_
      refine iw_getr (pc' := 54) (q := 98) ic_fk9 cO_90 rfl lkf_X9_35 (by decide +kernel) ?_
      refine iw_bipush (i := 18) (v := (18 : Int32)) (pc' := 56) (by decide +kernel) ?_
      refine iw_iload_n (i := 2) (pc' := 57) 2 rfl (by decide +kernel) ?_
      refine iw_iadd (pc' := 58) (by decide +kernel) ?_
      refine iw_iald (pc' := 59) hf (fun _ => cI_98) (by decide +kernel) (fun v26 hf => ?_)
      refine iw_bipush (i := (-2)) (v := (-2 : Int32)) (pc' := 61) (by decide +kernel) ?_
      obtain ⟨q27, hf, hgq27⟩ := ic_bd hf
      have hjq27 : ic_W l κ MX9_spring ic_X0 Z 70 [(0, ic_rv κ.1 90), (1, .int x1_), (2, .int y2_)] [.int q27, .int ((18 : Int32) + y2_), ic_rv κ.1 98] 106 (ic_rs sw) μ 0 0 := by
        have hf := hgq27
        refine iw_iast (pc' := 71) hf (fun _ => cI_98) (by decide +kernel) (fun m28 hf => ?_)
        refine iw_iinc (i := 2) (d := 1) (pc' := 74) (v := (1 : Int32)) (L1 := fun x29 => [(0, ic_rv κ.1 90), (1, .int x1_), (2, .int x29)]) hf 2 rfl (fun _ => rfl) (by decide +kernel) (fun x29 hf => ?_)
        refine iw_goto (off := (-42)) (pc' := 32) (by decide +kernel) ?_
        exact iw_sub [0, 1, 2] rfl (ih _ _ hf)
      refine iw_icmp_ne (off := 8) (tg := 69) (pc' := 64) hf (by decide +kernel) (fun hf => ?_) (fun hf => ?_)
      · refine iw_iconst (i := (-1)) (v := (-1 : Int32)) (pc' := 70) (by decide +kernel) ?_
        obtain rfl := Option.some.inj hf
        exact iw_sub [0, 1, 2] rfl hjq27
      · refine iw_bipush (i := (-2)) (v := (-2 : Int32)) (pc' := 66) (by decide +kernel) ?_
        refine iw_goto (off := 4) (pc' := 70) (by decide +kernel) ?_
        obtain rfl := Option.some.inj hf
        exact iw_sub [0, 1, 2] rfl hjq27
set_option maxRecDepth 100000 in
set_option maxHeartbeats 4000000 in
theorem ct_X9_spring (l : Launch) (κ : ic_K) (sw : Nat) (μ : ic_M) {R : Int32 × ic_M} (hf : fX9_spring μ = some R) : ic_C l κ MX9_spring [ic_rv κ.1 90] 106 (ic_rs sw) μ (some (.int R.1)) 106 (ic_rs sw) R.2 := by
  refine ic_C.of (L := [(0, ic_rv κ.1 90)]) ⟨ic_cat _ _, trivial⟩ ⟨by decide +kernel, Nat.le_of_ble_eq_true rfl⟩ rfl ?_
  unfold fX9_spring at hf
  refine iw_aload_n (i := 0) (pc' := 1) 0 rfl (by decide +kernel) ?_
  obtain ⟨v21, hc, hf⟩ := ic_bd hf
  refine iw_callV (pc' := 4) (S0 := []) (S1 := [.int v21]) (c1 := 0) (s1 := 0) (k := 0) (ct_X9_isRiver l κ sw μ hc) cO_90 ⟨rfl, rfl⟩ mv_X9_isRiver lkm_X9_198 ⟨rfl, rfl⟩ (ic_sum8 trivial (Nat.le_of_ble_eq_true rfl)) (by unfold ic_rm; decide +kernel) ⟨rfl, rfl, rfl⟩ ⟨Nat.le_of_ble_eq_true rfl, Nat.le_of_ble_eq_true rfl⟩ ?_
  refine iw_if_ne (off := 6) (tg := 10) (pc' := 7) hf (by decide +kernel) (fun hf => ?_) (fun hf => ?_)
  · refine iw_aload_n (i := 0) (pc' := 11) 0 rfl (by decide +kernel) ?_
    obtain ⟨m22, hc, hf⟩ := ic_bd hf
    refine iw_callV (pc' := 14) (S0 := []) (S1 := []) (c1 := 0) (s1 := 0) (k := 0) (ct_X9_notes l κ sw μ hc) cO_90 ⟨rfl, rfl⟩ mv_X9_notes lkm_X9_206 ⟨rfl, rfl⟩ (ic_sum8 trivial (Nat.le_of_ble_eq_true rfl)) (by unfold ic_rm; decide +kernel) ⟨rfl, rfl, rfl⟩ ⟨Nat.le_of_ble_eq_true rfl, Nat.le_of_ble_eq_true rfl⟩ ?_
    refine iw_aload_n (i := 0) (pc' := 15) 0 rfl (by decide +kernel) ?_
    refine iw_getr (pc' := 18) (q := 98) ic_fk9 cO_90 rfl lkf_X9_35 (by decide +kernel) ?_
    refine iw_bipush (i := 25) (v := (25 : Int32)) (pc' := 20) (by decide +kernel) ?_
    refine iw_iald (pc' := 21) hf (fun _ => cI_98) (by decide +kernel) (fun v23 hf => ?_)
    refine iw_istore_n0 (i := 1) (pc' := 22) (L' := [(0, ic_rv κ.1 90), (1, .int v23)]) rfl (by decide +kernel) ?_
    refine iw_aload_n (i := 0) (pc' := 23) 0 rfl (by decide +kernel) ?_
    refine iw_getr (pc' := 26) (q := 98) ic_fk9 cO_90 rfl lkf_X9_35 (by decide +kernel) ?_
    refine iw_bipush (i := 25) (v := (25 : Int32)) (pc' := 28) (by decide +kernel) ?_
    refine iw_iconst (i := (-1)) (v := (-1 : Int32)) (pc' := 29) (by decide +kernel) ?_
    refine iw_iast (pc' := 30) hf (fun _ => cI_98) (by decide +kernel) (fun m24 hf => ?_)
    refine iw_iconst (i := 0) (v := (0 : Int32)) (pc' := 31) (by decide +kernel) ?_
    refine iw_istore_n0 (i := 2) (pc' := 32) (L' := [(0, ic_rv κ.1 90), (1, .int v23), (2, .int (0 : Int32))]) rfl (by decide +kernel) ?_
    obtain ⟨q30, hf, hgq30⟩ := ic_bd hf
    have hjq30 : ic_W l κ MX9_spring ic_X0 (ic_Z κ MX9_spring (some (.int R.1)) 106 (ic_rs sw) R.2) 77 [(1, .int v23)] [] 106 (ic_rs sw) q30 0 0 := by
      have hf := hgq30
      refine iw_iload_n (i := 1) (pc' := 78) 0 rfl (by decide +kernel) ?_
      exact iw_ireturn (ic_q1 (Option.some.inj hf)) rfl (ic_q2 (Option.some.inj hf)) (by decide +kernel)
    exact iw_sub [0, 1, 2] rfl (lpX9_spring_32_ok l κ sw v23 hjq30 1000 (0 : Int32) m24 hf)
  · refine iw_ldc (pc' := 9) lkc_X9_202 (by decide +kernel) ?_
    exact iw_ireturn (ic_q1 (Option.some.inj hf)) rfl (ic_q2 (Option.some.inj hf)) (by decide +kernel)
